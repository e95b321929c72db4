/-! primes: divisors, and the rows of them -/
theorem nd_int {a : Nat} {b : Nat} : (a : Int) ∣ (b : Int) ↔ a ∣ b := Int.ofNat_dvd
theorem pr_irr {P : Nat} (h2 : 2 ≤ P) (h : ∀ d : Nat, d ∣ P → d = 1 ∨ d = P) : Pr P := by
  refine ⟨by omega, fun x y hd => ?_⟩
  have h1 : P ∣ x.natAbs * y.natAbs := by rw [← Int.natAbs_mul]; exact Int.ofNat_dvd_left.mp hd
  rcases h (Nat.gcd P x.natAbs) (Nat.gcd_dvd_left _ _) with h3 | h3
  · right
    exact Int.ofNat_dvd_left.mpr (Nat.Coprime.dvd_of_dvd_mul_left h3 h1)
  · left
    apply Int.ofNat_dvd_left.mpr
    have := Nat.gcd_dvd_right P x.natAbs
    rwa [h3] at this
theorem pr_div {P d : Nat} (h : Pr P) (hd : d ∣ P) : d = 1 ∨ d = P := by
  obtain ⟨e, he⟩ := hd
  have hp := h.1
  have hd0 : 0 < d := by rcases Nat.eq_zero_or_pos d with h0 | h0
                         · subst h0; omega
                         · exact h0
  have he0 : 0 < e := by rcases Nat.eq_zero_or_pos e with h0 | h0
                         · subst h0; omega
                         · exact h0
  rcases h.2 (d : Int) (e : Int) ⟨1, by rw [Int.mul_one]; exact_mod_cast he.symm⟩ with h1 | h1
  · right
    have h2 := Nat.le_of_dvd hd0 (nd_int.mp h1)
    have h3 : d * 1 ≤ d * e := Nat.mul_le_mul_left d he0
    omega
  · left
    have h2 := Nat.le_of_dvd he0 (nd_int.mp h1)
    rcases Nat.lt_or_ge 1 d with h3 | h3
    · have h4 : 2 * e ≤ d * e := Nat.mul_le_mul_right e h3
      omega
    · omega
theorem pr_fac : ∀ (b n : Nat), n < b → 2 ≤ n → ∃ Q : Nat, Pr Q ∧ Q ∣ n := by
  intro b
  induction b with
  | zero => intro n h _; omega
  | succ b ih =>
    intro n hn h2
    by_cases h : ∀ d : Nat, d ∣ n → d = 1 ∨ d = n
    · exact ⟨n, pr_irr h2 h, Nat.dvd_refl n⟩
    · rw [Classical.not_forall] at h
      obtain ⟨d, hd⟩ := h
      rw [Classical.not_imp, not_or] at hd
      obtain ⟨h1, h3, h4⟩ := hd
      have hle := Nat.le_of_dvd (by omega) h1
      have hd0 : d ≠ 0 := by intro h0; subst h0; have := Nat.eq_zero_of_zero_dvd h1; omega
      obtain ⟨Q, q1, q2⟩ := ih d (by omega) (by omega)
      exact ⟨Q, q1, Nat.dvd_trans q2 h1⟩
theorem pr_ex {n : Nat} (h : 2 ≤ n) : ∃ Q : Nat, Pr Q ∧ Q ∣ n := pr_fac (n + 1) n (by omega) h
theorem pr_2 {P : Nat} (h : Pr P) : 2 ≤ P := by have := h.1; omega
/-- no prime of which the square is not above it: it is one -/
theorem pr_small {n : Nat} (h2 : 2 ≤ n) (h : ∀ Q : Nat, Pr Q → Q ∣ n → n < Q * Q) : Pr n := by
  refine pr_irr h2 (fun d hd => ?_)
  obtain ⟨e, he⟩ := hd
  rcases Nat.lt_or_ge 1 d with h1 | h1
  · rcases Nat.lt_or_ge 1 e with h3 | h3
    · exfalso
      rcases Nat.le_total d e with h4 | h4
      · obtain ⟨Q, q1, q2⟩ := pr_ex h1
        have := h Q q1 (Nat.dvd_trans q2 ⟨e, he⟩)
        have k := Nat.le_of_dvd (by omega) q2
        have := Nat.mul_le_mul k (Nat.le_trans k h4)
        omega
      · obtain ⟨Q, q1, q2⟩ := pr_ex h3
        have := h Q q1 (Nat.dvd_trans q2 ⟨d, by rw [he, Nat.mul_comm]⟩)
        have k := Nat.le_of_dvd (by omega) q2
        have := Nat.mul_le_mul (Nat.le_trans k h4) k
        omega
    · right
      have : e = 0 ∨ e = 1 := by omega
      rcases this with h0 | h0
      · subst h0; omega
      · subst h0; omega
  · left
    rcases (show d = 0 ∨ d = 1 by omega) with h0 | h0
    · subst h0; omega
    · exact h0
/-- numbers without 2, 3, 5, 7 that go in D are no greater than those of small curves -/
def QB (D : Int) : Prop := ∀ n : Nat, (n : Int) ∣ D → (∀ Q : Nat, Pr Q → Q ∣ n → 11 ≤ Q) → n ≤ 732497742
theorem QB.dv {D D' : Int} (h : QB D) (hd : D' ∣ D) : QB D' := fun n hn hq => h n (Int.dvd_trans hn hd) hq
theorem QB.small {D : Int} (h0 : D ≠ 0) (hb : -732497742 ≤ D ∧ D ≤ 732497742) : QB D := by
  intro n hn _
  rcases (show 0 < D ∨ 0 < -D by omega) with h1 | h1
  · have := Int.le_of_dvd h1 hn; omega
  · have := Int.le_of_dvd h1 (Int.dvd_neg.mpr hn); omega
theorem QB.mul {D : Int} (h : QB D) {m : Nat} (hm : ∀ Q : Nat, Pr Q → Q ∣ m → Q < 11) : QB ((m : Int) * D) := by
  intro n hn hq
  rcases Nat.eq_zero_or_pos n with h0 | h0
  · omega
  · refine h n ?_ hq
    have hc : Nat.Coprime n m := by
      rcases (show Nat.gcd n m = 0 ∨ Nat.gcd n m = 1 ∨ 2 ≤ Nat.gcd n m by omega) with h1 | h1 | h1
      · have := Nat.eq_zero_of_gcd_eq_zero_left h1; omega
      · exact h1
      · exfalso
        obtain ⟨Q, q1, q2⟩ := pr_ex h1
        have := hq Q q1 (Nat.dvd_trans q2 (Nat.gcd_dvd_left _ _))
        have := hm Q q1 (Nat.dvd_trans q2 (Nat.gcd_dvd_right _ _))
        omega
    have h2 : n ∣ m * D.natAbs := by
      have := Int.ofNat_dvd_left.mp hn
      rwa [Int.natAbs_mul, Int.natAbs_natCast] at this
    exact Int.ofNat_dvd_left.mpr (hc.dvd_of_dvd_mul_left h2)
def pp (f : Nat → Nat) : Nat → Nat
  | 0 => 1
  | k + 1 => pp f k * f k
theorem pp_cg {f g : Nat → Nat} : ∀ k, (∀ i, i < k → f i = g i) → pp f k = pp g k := by
  intro k
  induction k with
  | zero => intro _; rfl
  | succ k ih => intro h; show pp f k * f k = pp g k * g k; rw [ih (fun i hi => h i (by omega)), h k (by omega)]
/-- primes below q that go in D, upwards, and what is left of D without them -/
def PF (D q left k : Nat) (f : Nat → Nat) : Prop := 0 < left ∧ pp f k * left ∣ D ∧ (∀ Q : Nat, Pr Q → (Q ∣ left ↔ Q ∣ D ∧ q ≤ Q)) ∧ (∀ i j, i < j → j < k → f i < f j) ∧ (∀ i, i < k → Pr (f i) ∧ f i ∣ D ∧ f i < q) ∧ (∀ Q : Nat, Pr Q → Q ∣ D → Q < q → ∃ i, i < k ∧ f i = Q)
/-- all primes that go in D, upwards -/
def PL (D k : Nat) (f : Nat → Nat) : Prop := (∀ i j, i < j → j < k → f i < f j) ∧ (∀ i, i < k → Pr (f i) ∧ f i ∣ D) ∧ (∀ Q : Nat, Pr Q → Q ∣ D → ∃ i, i < k ∧ f i = Q) ∧ k ≤ 16 ∧ (∀ i, i < k → f i < 1000000000)
def ud (f : Nat → Nat) (k q : Nat) : Nat → Nat := fun i => if i = k then q else f i
theorem ud_k (f : Nat → Nat) (k q : Nat) : ud f k q k = q := by unfold ud; rw [if_pos rfl]
theorem ud_lt (f : Nat → Nat) {k q i : Nat} (h : i < k) : ud f k q i = f i := by unfold ud; rw [if_neg (by omega)]
theorem PF.start {D : Nat} (h : 0 < D) (f : Nat → Nat) : PF D 2 D 0 f := by
  refine ⟨h, by show 1 * D ∣ D; rw [Nat.one_mul]; exact Nat.dvd_refl D, fun Q hq => ⟨fun h => ⟨h, pr_2 hq⟩, fun h => h.1⟩, fun i j _ h => by omega, fun i h => by omega, fun Q hq _ h => by have := pr_2 hq; omega⟩
theorem PF.cg {D q left k : Nat} {f g : Nat → Nat} (h : PF D q left k f) (e : ∀ i, i < k → f i = g i) : PF D q left k g := by
  obtain ⟨h1, h2, h3, h4, h5, h6⟩ := h
  refine ⟨h1, by rw [← pp_cg k e]; exact h2, h3, fun i j a b => by rw [← e i (by omega), ← e j b]; exact h4 i j a b, fun i hi => by rw [← e i hi]; exact h5 i hi, fun Q a b c => ?_⟩
  obtain ⟨i, i1, i2⟩ := h6 Q a b c
  exact ⟨i, i1, by rw [← e i i1]; exact i2⟩
theorem PF.pr {D q left k : Nat} {f : Nat → Nat} (h : PF D q left k f) (h2 : 2 ≤ q) (hd : q ∣ left) : Pr q := by
  obtain ⟨Q, q1, q2⟩ := pr_ex h2
  have h3 := (h.2.2.1 Q q1).mp (Nat.dvd_trans q2 hd)
  have h4 := Nat.le_of_dvd (by omega) q2
  have : Q = q := by have := h3.2; omega
  rw [← this]; exact q1
theorem PF.no {D q left k : Nat} {f : Nat → Nat} (h : PF D q left k f) (hd : ¬ q ∣ left) : PF D (q + 1) left k f := by
  obtain ⟨h1, h2, h3, h4, h5, h6⟩ := h
  refine ⟨h1, h2, fun Q hq => ⟨fun h => ?_, fun h => (h3 Q hq).mpr ⟨h.1, by omega⟩⟩, h4, fun i hi => ⟨(h5 i hi).1, (h5 i hi).2.1, by have := (h5 i hi).2.2; omega⟩, fun Q hq hD hlt => ?_⟩
  · have h7 := (h3 Q hq).mp h
    refine ⟨h7.1, ?_⟩
    rcases (show q = Q ∨ q + 1 ≤ Q by omega) with h8 | h8
    · subst h8; exact absurd h hd
    · exact h8
  · rcases (show Q = q ∨ Q < q by omega) with h8 | h8
    · subst h8
      exact absurd ((h3 Q hq).mpr ⟨hD, by omega⟩) hd
    · exact h6 Q hq hD h8
theorem PF.comp {D q left k : Nat} {f : Nat → Nat} (h : PF D q left k f) (h2 : 2 ≤ q) (hc : ¬ Pr q) : PF D (q + 1) left k f := h.no (fun hd => hc (h.pr h2 hd))
theorem PF.take {D q left k v l' : Nat} {f : Nat → Nat} (h : PF D q left k f) (h2 : 2 ≤ q) (e : left = q ^ v * l') (hv : 1 ≤ v) (hd : ¬ q ∣ l') : PF D (q + 1) l' (k + 1) (ud f k q) := by
  have hq : Pr q := h.pr h2 (by obtain ⟨w, rfl⟩ : ∃ w, v = w + 1 := ⟨v - 1, by omega⟩
                                exact ⟨q ^ w * l', by rw [e, Nat.pow_succ, Nat.mul_comm (q ^ w) q, Nat.mul_assoc]⟩)
  obtain ⟨h1, h2', h3, h4, h5, h6⟩ := h
  have hl0 : 0 < l' := by rcases Nat.eq_zero_or_pos l' with h0 | h0
                          · subst h0; omega
                          · exact h0
  refine ⟨hl0, ?_, fun Q hQ => ⟨fun hh => ?_, fun hh => ?_⟩, fun i j hij hj => ?_, fun i hi => ?_, fun Q hQ hD hlt => ?_⟩
  · show pp (ud f k q) k * ud f k q k * l' ∣ D
    rw [ud_k, pp_cg k (fun i hi => ud_lt f hi)]
    refine Nat.dvd_trans ?_ h2'
    obtain ⟨w, rfl⟩ : ∃ w, v = w + 1 := ⟨v - 1, by omega⟩
    refine ⟨q ^ w, ?_⟩
    rw [e, Nat.pow_succ]
    generalize q ^ w = A
    generalize pp f k = B
    grind
  · have hl : Q ∣ left := by rw [e]; exact Nat.dvd_trans hh (Nat.dvd_mul_left _ _)
    have h7 := (h3 Q hQ).mp hl
    refine ⟨h7.1, ?_⟩
    rcases (show q = Q ∨ q + 1 ≤ Q by omega) with h8 | h8
    · subst h8; exact absurd hh hd
    · exact h8
  · have hl : Q ∣ left := (h3 Q hQ).mpr ⟨hh.1, by omega⟩
    rw [e] at hl
    have hl' : (Q : Int) ∣ ((q : Int) ^ v) * (l' : Int) := by
      have := nd_int.mpr hl
      push_cast at this
      exact this
    rcases hQ.2 _ _ hl' with h7 | h7
    · exfalso
      have h8 := nd_int.mp (hQ.pow v h7)
      rcases pr_div hq h8 with h9 | h9
      · have := pr_2 hQ; omega
      · omega
    · exact nd_int.mp h7
  · rcases (show j = k ∨ j < k by omega) with h7 | h7
    · subst h7
      rw [ud_k, ud_lt f hij]
      exact (h5 i hij).2.2
    · rw [ud_lt f h7, ud_lt f (show i < k by omega)]
      exact h4 i j hij h7
  · rcases (show i = k ∨ i < k by omega) with h7 | h7
    · subst h7
      rw [ud_k]
      exact ⟨hq, ((h3 q hq).mp (by obtain ⟨w, rfl⟩ : ∃ w, v = w + 1 := ⟨v - 1, by omega⟩
                                   exact ⟨q ^ w * l', by rw [e, Nat.pow_succ, Nat.mul_comm (q ^ w) q, Nat.mul_assoc]⟩)).1, by omega⟩
    · rw [ud_lt f h7]
      exact ⟨(h5 i h7).1, (h5 i h7).2.1, by have := (h5 i h7).2.2; omega⟩
  · rcases (show Q = q ∨ Q < q by omega) with h7 | h7
    · exact ⟨k, by omega, by rw [ud_k]; exact h7.symm⟩
    · obtain ⟨i, i1, i2⟩ := h6 Q hQ hD h7
      exact ⟨i, by omega, by rw [ud_lt f i1]; exact i2⟩
def lbi (i : Nat) : Nat := if i = 0 then 2 else 2 * i + 1
theorem asc_lb {f : Nat → Nat} : ∀ k, (∀ i j, i < j → j < k → f i < f j) → (∀ i, i < k → Pr (f i)) → ∀ i, i < k → lbi i ≤ f i := by
  intro k ha hp i
  induction i with
  | zero => intro h; have := pr_2 (hp 0 h); unfold lbi; rw [if_pos rfl]; omega
  | succ i ih =>
    intro h
    have h1 := ih (by omega)
    have h2 := ha i (i + 1) (by omega) h
    unfold lbi at h1 ⊢
    rw [if_neg (by omega)]
    by_cases h0 : i = 0
    · subst h0; rw [if_pos rfl] at h1; omega
    · rw [if_neg h0] at h1
      have o1 := (hp i (by omega)).odd (by omega)
      have o2 := (hp (i + 1) h).odd (by omega)
      omega
theorem pp_le {f g : Nat → Nat} : ∀ k, (∀ i, i < k → g i ≤ f i) → pp g k ≤ pp f k := by
  intro k
  induction k with
  | zero => intro _; exact Nat.le_refl _
  | succ k ih => intro h; exact Nat.mul_le_mul (ih (fun i hi => h i (by omega))) (h k (by omega))
theorem lb_17 : 9000000000000000000 < pp lbi 17 := by decide +kernel
theorem lb_mono : ∀ d, pp lbi 17 ≤ pp lbi (17 + d) := by
  intro d
  induction d with
  | zero => exact Nat.le_refl _
  | succ d ih =>
    show _ ≤ pp lbi (17 + d) * lbi (17 + d)
    have : 1 ≤ lbi (17 + d) := by unfold lbi; split <;> omega
    have := Nat.mul_le_mul_left (pp lbi (17 + d)) this
    omega
theorem PF.k16 {D q left k : Nat} {f : Nat → Nat} (h : PF D q left k f) (hD : 0 < D) (hb : D ≤ 9000000000000000000) : k ≤ 16 := by
  rcases Nat.lt_or_ge 16 k with h1 | h1
  · exfalso
    obtain ⟨d, rfl⟩ : ∃ d, k = 17 + d := ⟨k - 17, by omega⟩
    have h2 := asc_lb _ h.2.2.2.1 (fun i hi => (h.2.2.2.2.1 i hi).1)
    have h3 := pp_le _ h2
    have h4 := lb_mono d
    have h5 := lb_17
    have h6 := Nat.le_of_dvd hD h.2.1
    have h7 := Nat.mul_le_mul_left (pp f (17 + d)) h.1
    omega
  · exact h1
theorem PF.fin {D q left k : Nat} {f : Nat → Nat} (h : PF D q left k f) (hD : 0 < D) (hb : D ≤ 9000000000000000000) (hQ : QB (D : Int)) (hl : left = 1) : PL D k f := by
  have hk := h.k16 hD hb
  obtain ⟨h1, h2, h3, h4, h5, h6⟩ := h
  refine ⟨h4, fun i hi => ⟨(h5 i hi).1, (h5 i hi).2.1⟩, fun Q hq hd => ?_, hk, fun i hi => ?_⟩
  · rcases Nat.lt_or_ge Q q with h7 | h7
    · exact h6 Q hq hd h7
    · have h8 := (h3 Q hq).mpr ⟨hd, h7⟩
      have := Nat.le_of_dvd (by omega) h8
      have := pr_2 hq
      omega
  · obtain ⟨p1, p2, -⟩ := h5 i hi
    rcases Nat.lt_or_ge (f i) 11 with h7 | h7
    · omega
    · have := hQ (f i) (nd_int.mpr p2) (fun Q hq hd => by
        rcases pr_div p1 hd with h | h
        · have := pr_2 hq; omega
        · omega)
      omega
theorem PF.last {D q left k : Nat} {f : Nat → Nat} (h : PF D q left k f) (h2 : 2 ≤ q) (hp : Pr left) : PF D (left + 1) 1 (k + 1) (ud f k left) := by
  have hql : q ≤ left := ((h.2.2.1 left hp).mp (Nat.dvd_refl _)).2
  have up : ∀ d, q + d ≤ left → PF D (q + d) left k f := by
    intro d
    induction d with
    | zero => intro _; exact h
    | succ d ih =>
      intro hd
      refine (ih (by omega)).no (fun hdv => ?_)
      rcases pr_div hp hdv with h1 | h1 <;> omega
  have := (up (left - q) (by omega))
  rw [show q + (left - q) = left by omega] at this
  exact this.take (pr_2 hp) (v := 1) (by rw [Nat.pow_one, Nat.mul_one]) (by omega) (fun h => by have := Nat.le_of_dvd (by omega) h; have := pr_2 hp; omega)
/-- what is left is a prime, or 1 -/
theorem PF.end {D q left k : Nat} {f : Nat → Nat} (h : PF D q left k f) (hQ : QB (D : Int)) (h11 : left < q * q ∨ 31623 < q) (h1 : 2 ≤ left) : Pr left := by
  refine pr_small h1 (fun Q hq hd => ?_)
  have h3 := ((h.2.2.1 Q hq).mp hd).2
  have h4 := Nat.mul_le_mul h3 h3
  rcases h11 with h5 | h5
  · omega
  · have hl : left ∣ D := Nat.dvd_trans (Nat.dvd_mul_left _ _) h.2.1
    have := hQ left (nd_int.mpr hl) (fun R hr hd' => by have := ((h.2.2.1 R hr).mp hd').2; omega)
    have := Nat.mul_le_mul h5 h5
    omega
theorem asc_one {P : Nat → Prop} {k k' : Nat} {f f' : Nat → Nat} (h1 : ∀ i j, i < j → j < k → f i < f j) (h2 : ∀ i, i < k → P (f i)) (h3 : ∀ Q, P Q → ∃ i, i < k ∧ f i = Q) (g1 : ∀ i j, i < j → j < k' → f' i < f' j) (g2 : ∀ i, i < k' → P (f' i)) (g3 : ∀ Q, P Q → ∃ i, i < k' ∧ f' i = Q) : k ≤ k' ∧ ∀ i, i < k → f i = f' i := by
  have key : ∀ b i, i < b → i < k → i < k' ∧ f i = f' i := by
    intro b
    induction b with
    | zero => intro i h; omega
    | succ b ih =>
      intro i hb hi
      obtain ⟨j, j1, j2⟩ := g3 (f i) (h2 i hi)
      have hji : i ≤ j := by
        rcases Nat.lt_or_ge j i with h | h
        · have := (ih j (by omega) (by omega)).2
          have := h1 j i h hi
          omega
        · exact h
      have hik : i < k' := by omega
      refine ⟨hik, ?_⟩
      have a1 : f' i ≤ f i := by
        rcases (show i = j ∨ i < j by omega) with h | h
        · subst h; omega
        · have := g1 i j h j1; omega
      obtain ⟨l, l1, l2⟩ := h3 (f' i) (g2 i hik)
      have hli : i ≤ l := by
        rcases Nat.lt_or_ge l i with h | h
        · have e := (ih l (by omega) (by omega)).2
          have := g1 l i h hik
          omega
        · exact h
      rcases (show i = l ∨ i < l by omega) with h | h
      · subst h; omega
      · have := h1 i l h l1; omega
  refine ⟨?_, fun i hi => (key (i + 1) i (by omega) hi).2⟩
  rcases Nat.eq_zero_or_pos k with h | h
  · omega
  · have := (key k (k - 1) (by omega) (by omega)).1; omega
theorem PL.one {D k k' : Nat} {f f' : Nat → Nat} (h : PL D k f) (h' : PL D k' f') : k = k' ∧ ∀ i, i < k → f i = f' i := by
  have a := asc_one (P := fun Q => Pr (Q : Nat) ∧ Q ∣ D) h.1 h.2.1 (fun Q hq => h.2.2.1 Q hq.1 hq.2) h'.1 h'.2.1 (fun Q hq => h'.2.2.1 Q hq.1 hq.2)
  have b := asc_one (P := fun Q => Pr (Q : Nat) ∧ Q ∣ D) h'.1 h'.2.1 (fun Q hq => h'.2.2.1 Q hq.1 hq.2) h.1 h.2.1 (fun Q hq => h.2.2.1 Q hq.1 hq.2)
  exact ⟨by omega, a.2⟩
