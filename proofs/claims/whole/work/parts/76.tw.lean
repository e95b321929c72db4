/-! whence the curves come: numbers of a small one, twisted by a divisor of 210, and scaled -/
def TWn (x y D : Int) : Prop := ∃ x0 y0 D0 d s t : Int, 0 < s ∧ 0 < t ∧ d ∣ 210 ∧ D0 ≠ 0 ∧ (-732497742 ≤ D0 ∧ D0 ≤ 732497742) ∧ t ^ 4 * x = s ^ 4 * (d ^ 2 * x0) ∧ t ^ 6 * y = s ^ 6 * (d ^ 3 * y0) ∧ t ^ 12 * D = s ^ 12 * (d ^ 6 * D0)
def TW (E : Cv) : Prop := TWn (c4 E) (c6 E) (dd E)
theorem TW.eqv {E F : Cv} (h : Eqv E F) (k : TW E) : TW F := by unfold TW; rw [h.c4, h.c6, h.dd]; exact k
theorem TW.up {L : Cv} {u : Int} (hu : 0 < u) (k : TW L) : TW (sc L u) := by
  obtain ⟨x0, y0, D0, d, s, t, h1, h2, h3, h4, h5, e4, e6, e12⟩ := k
  refine ⟨x0, y0, D0, d, s * u, t, Int.mul_pos h1 hu, h2, h3, h4, h5, ?_, ?_, ?_⟩
  · rw [c4_sc, Int.mul_pow]
    have : t ^ 4 * (u ^ 4 * c4 L) = u ^ 4 * (t ^ 4 * c4 L) := by generalize t ^ 4 = A; generalize u ^ 4 = B; grind
    rw [this, e4]; generalize s ^ 4 = A; generalize u ^ 4 = B; grind
  · rw [c6_sc, Int.mul_pow]
    have : t ^ 6 * (u ^ 6 * c6 L) = u ^ 6 * (t ^ 6 * c6 L) := by generalize t ^ 6 = A; generalize u ^ 6 = B; grind
    rw [this, e6]; generalize s ^ 6 = A; generalize u ^ 6 = B; generalize d ^ 3 = C; grind
  · rw [dd_sc, Int.mul_pow]
    have : t ^ 12 * (u ^ 12 * dd L) = u ^ 12 * (t ^ 12 * dd L) := by generalize t ^ 12 = A; generalize u ^ 12 = B; grind
    rw [this, e12]; generalize s ^ 12 = A; generalize u ^ 12 = B; generalize d ^ 6 = C; grind
theorem TW.dn {L : Cv} {u : Int} (hu : 0 < u) (k : TW (sc L u)) : TW L := by
  obtain ⟨x0, y0, D0, d, s, t, h1, h2, h3, h4, h5, e4, e6, e12⟩ := k
  rw [c4_sc] at e4
  rw [c6_sc] at e6
  rw [dd_sc] at e12
  refine ⟨x0, y0, D0, d, s, t * u, h1, Int.mul_pos h2 hu, h3, h4, h5, ?_, ?_, ?_⟩
  · rw [← e4, Int.mul_pow, Int.mul_assoc]
  · rw [← e6, Int.mul_pow, Int.mul_assoc]
  · rw [← e12, Int.mul_pow, Int.mul_assoc]
theorem sq210 {P : Nat} (hp : Pr P) {d : Int} (hd : d ∣ 210) : ¬ (P : Int) ^ 2 ∣ d := by
  intro h
  have h1 : (P : Int) ^ 2 ∣ 210 := Int.dvd_trans h hd
  have hp1 := hp.1
  have e : (P : Int) ^ 2 = P * P := by grind
  have h2 := Int.le_of_dvd (by omega) h1
  rw [e] at h1 h2
  have h14 : P ≤ 14 := by
    rcases Nat.lt_or_ge 14 P with h | h
    · exfalso
      have := Int.mul_le_mul (show (15 : Int) ≤ P by omega) (show (15 : Int) ≤ P by omega) (by omega) (by omega)
      omega
    · exact h
  rcases (show P = 2 ∨ P = 3 ∨ P = 4 ∨ P = 5 ∨ P = 6 ∨ P = 7 ∨ P = 8 ∨ P = 9 ∨ P = 10 ∨ P = 11 ∨ P = 12 ∨ P = 13 ∨ P = 14 by omega) with h | h | h | h | h | h | h | h | h | h | h | h | h <;> subst h <;> revert h1 <;> decide
theorem pw_split (w : Int) (p : Int) (a n : Nat) : (w * p ^ a) ^ n = w ^ n * p ^ (n * a) := by
  rw [Int.mul_pow, ← Int.pow_mul, Nat.mul_comm]
theorem perm5 {A B S T x w : Int} (e : T * A * x = S * B * w) : A * (T * x) = B * (S * w) := by
  have h1 : A * (T * x) = T * A * x := by grind
  have h2 : B * (S * w) = S * B * w := by grind
  rw [h1, h2, e]
theorem tw_dv {P : Nat} (hp : Pr P) {x y D : Int} (h : TWn x y D) (hm : ¬ ((P : Int) ^ 4 ∣ x ∧ (P : Int) ^ 6 ∣ y)) :
    ∃ D0 : Int, D0 ≠ 0 ∧ (-732497742 ≤ D0 ∧ D0 ≤ 732497742) ∧ (∀ n : Nat, (P : Int) ^ (n + 6) ∣ D → (P : Int) ^ n ∣ D0) ∧ (¬ (P : Int) ∣ 210 → ∀ n : Nat, (P : Int) ^ n ∣ D → (P : Int) ^ n ∣ D0) := by
  obtain ⟨x0, y0, D0, d, s, t, h1, h2, h3, h4, h5, e4, e6, e12⟩ := h
  obtain ⟨a, t', et, nt, -⟩ := val_ex hp (t.natAbs + 1) t h2 (by omega)
  obtain ⟨b, s', es, ns, -⟩ := val_ex hp (s.natAbs + 1) s h1 (by omega)
  have hne := hp.ne
  rw [et, es, pw_split, pw_split] at e4 e6 e12
  have nd : ∀ {q : Int} (n : Nat), ¬ (P : Int) ∣ q → ¬ (P : Int) ∣ q ^ n := fun n hq hh => hq (hp.pow n hh)
  rcases Nat.lt_or_ge a b with hab | hab
  · exfalso
    obtain ⟨c, hc⟩ : ∃ c, b = a + 1 + c := ⟨b - a - 1, by omega⟩
    apply hm
    constructor
    · apply hp.can (nd 4 nt) 4
      have e : t' ^ 4 * x = (P : Int) ^ (4 * (1 + c)) * (s' ^ 4 * (d ^ 2 * x0)) := by
        apply Int.eq_of_mul_eq_mul_left (a := (P : Int) ^ (4 * a)) (Int.pow_ne_zero hne)
        rw [← Int.mul_assoc ((P : Int) ^ (4 * a)) ((P : Int) ^ (4 * (1 + c))), ← Int.pow_add, show 4 * a + 4 * (1 + c) = 4 * b by omega]
        exact perm5 e4
      rw [e]
      exact Int.dvd_trans (dv_pow (n := 4 * (1 + c)) (Int.dvd_refl _) (by omega)) (Int.dvd_mul_right _ _)
    · apply hp.can (nd 6 nt) 6
      have e : t' ^ 6 * y = (P : Int) ^ (6 * (1 + c)) * (s' ^ 6 * (d ^ 3 * y0)) := by
        apply Int.eq_of_mul_eq_mul_left (a := (P : Int) ^ (6 * a)) (Int.pow_ne_zero hne)
        rw [← Int.mul_assoc ((P : Int) ^ (6 * a)) ((P : Int) ^ (6 * (1 + c))), ← Int.pow_add, show 6 * a + 6 * (1 + c) = 6 * b by omega]
        exact perm5 e6
      rw [e]
      exact Int.dvd_trans (dv_pow (n := 6 * (1 + c)) (Int.dvd_refl _) (by omega)) (Int.dvd_mul_right _ _)
  · obtain ⟨c, hc⟩ : ∃ c, a = b + c := ⟨a - b, by omega⟩
    have e : s' ^ 12 * (d ^ 6 * D0) = (P : Int) ^ (12 * c) * (t' ^ 12 * D) := by
      apply Int.eq_of_mul_eq_mul_left (a := (P : Int) ^ (12 * b)) (Int.pow_ne_zero hne)
      rw [← Int.mul_assoc ((P : Int) ^ (12 * b)) ((P : Int) ^ (12 * c)), ← Int.pow_add, show 12 * b + 12 * c = 12 * a by omega]
      exact perm5 e12.symm
    have key : ∀ n : Nat, (P : Int) ^ n ∣ D → (P : Int) ^ n ∣ d ^ 6 * D0 := by
      intro n hn
      apply hp.can (nd 12 ns) n
      rw [e]
      exact Int.dvd_mul_of_dvd_right (Int.dvd_mul_of_dvd_right hn)
    refine ⟨D0, h4, h5, ?_, ?_⟩
    · intro n hn
      have h6 := key (n + 6) hn
      by_cases hd : (P : Int) ∣ d
      · obtain ⟨d', rfl⟩ := hd
        have nd' : ¬ (P : Int) ∣ d' := fun ⟨q, hq⟩ => sq210 hp h3 ⟨q, by rw [hq]; grind⟩
        rw [Int.mul_pow, Int.mul_assoc] at h6
        obtain ⟨q, hq⟩ := h6
        apply hp.can (nd 6 nd') n
        refine ⟨q, ?_⟩
        apply Int.eq_of_mul_eq_mul_left (a := (P : Int) ^ 6) (Int.pow_ne_zero hne)
        rw [hq, Int.pow_add]
        generalize (P : Int) ^ n = A
        generalize (P : Int) ^ 6 = B
        grind
      · exact hp.can (nd 6 hd) n (dv_pow h6 (by omega))
    · intro h210 n hn
      exact hp.can (nd 6 (fun hd => h210 (Int.dvd_trans hd h3))) n (key n hn)
theorem pw_lt {P : Nat} {n : Nat} {D0 : Int} (h0 : D0 ≠ 0) (hb : -732497742 ≤ D0 ∧ D0 ≤ 732497742) (h : (P : Int) ^ n ∣ D0) : (P : Int) ^ n ≤ 732497742 := by
  rcases (show 0 < D0 ∨ 0 < -D0 by omega) with h1 | h1
  · have := Int.le_of_dvd h1 h; omega
  · have := Int.le_of_dvd h1 (Int.dvd_neg.mpr h); omega
theorem pw_ge {P m n : Nat} (h : m ≤ P) : (m : Int) ^ n ≤ (P : Int) ^ n := by
  have := Nat.pow_le_pow_left h n
  have e1 : ((m ^ n : Nat) : Int) = (m : Int) ^ n := by push_cast; rfl
  have e2 : ((P ^ n : Nat) : Int) = (P : Int) ^ n := by push_cast; rfl
  rw [← e1, ← e2]
  exact Int.ofNat_le.mpr this
theorem pw_cap {P n : Nat} (m : Nat) (hm : 732497742 < (m : Int) ^ n) {D0 : Int} (h0 : D0 ≠ 0) (hb : -732497742 ≤ D0 ∧ D0 ≤ 732497742) (h : (P : Int) ^ n ∣ D0) : P < m := by
  rcases Nat.lt_or_ge P m with h1 | h1
  · exact h1
  · have := pw_ge (n := n) h1
    have := pw_lt h0 hb h
    omega
theorem pr_210 {P : Nat} (hp : Pr P) (h : 11 ≤ P) : ¬ (P : Int) ∣ 210 := by
  intro hd
  rcases hp.2 2 105 hd with h1 | h1
  · have := Int.le_of_dvd (by omega) h1; omega
  · rcases hp.2 3 35 h1 with h2 | h2
    · have := Int.le_of_dvd (by omega) h2; omega
    · rcases hp.2 5 7 h2 with h3 | h3
      · have := Int.le_of_dvd (by omega) h3; omega
      · have := Int.le_of_dvd (by omega) h3; omega
theorem pr_18 {P : Nat} (hp : Pr P) (h : P ≤ 18) : P = 2 ∨ P = 3 ∨ P = 5 ∨ P = 7 ∨ P = 11 ∨ P = 13 ∨ P = 17 := by
  rcases pr_cases hp with h1 | h1 | h1
  · exact Or.inl h1
  · exact Or.inr (Or.inl h1)
  · have := pr_eul hp h1 (by omega)
    simp only [eulL, List.mem_cons, List.not_mem_nil, or_false] at this
    omega
theorem tw_2 {P : Nat} (hp : Pr P) (h11 : 11 ≤ P) {L : Cv} (k : TW L) (hm : MinF P L) : ∃ D0 : Int, D0 ≠ 0 ∧ (-732497742 ≤ D0 ∧ D0 ≤ 732497742) ∧ ∀ n : Nat, (P : Int) ^ n ∣ dd L → (P : Int) ^ n ∣ D0 := by
  obtain ⟨D0, h0, hb, -, h⟩ := tw_dv hp k hm
  exact ⟨D0, h0, hb, h (pr_210 hp h11)⟩
theorem add_sq {P : Nat} (hp : Pr P) (h5 : 5 ≤ P) {L : Cv} (h4 : (P : Int) ∣ c4 L) (hd : (P : Int) ∣ dd L) : (P : Int) ^ 2 ∣ dd L := by
  have e := dd_1728 L
  obtain ⟨x, hx⟩ := h4
  obtain ⟨q, hq⟩ := hd
  have h6 : (P : Int) ∣ c6 L := by
    apply hp.sq
    exact ⟨x * (c4 L * c4 L) - 1728 * q, by rw [hq] at e; rw [hx] at e ⊢; grind⟩
  obtain ⟨y, hy⟩ := h6
  have h1728 : ¬ (P : Int) ∣ 1728 := by
    have h5' : 5 ≤ (P : Int) := by omega
    have n1 : ¬ (P : Int) ∣ 1 := fun hd => by have := Int.le_of_dvd (by omega) hd; omega
    exact (hp.n23 h5' (hp.n23 h5' (hp.n23 h5' (hp.n23 h5' (hp.n23 h5' (hp.n23 h5' (hp.n23 h5' (hp.n23 h5' (hp.n23 h5' n1).2).2).2).1).1).1).1).1).1
  apply hp.can h1728 2
  exact ⟨P * x * x * x - y * y, by rw [e, hx, hy]; grind⟩
theorem d9_62 {D : Int} (h0 : D ≠ 0) (hb : b9 D) {N : Nat} (h : (2 : Int) ^ N ∣ D) : N ≤ 62 := by
  rcases Nat.lt_or_ge 62 N with h' | h'
  · exfalso
    have h63 : (2 : Int) ^ 63 ∣ D := dv_pow h (by omega)
    have e : (2 : Int) ^ 63 = 9223372036854775808 := by decide
    rw [e] at h63
    have h1 := hb.1
    have h2 := hb.2
    rcases (show 0 < D ∨ 0 < -D by omega) with h0 | h0
    · have := Int.le_of_dvd h0 h63; omega
    · have := Int.le_of_dvd h0 (Int.dvd_neg.mpr h63); omega
  · exact h'
theorem tw_cap {P : Nat} (hp : Pr P) {L : Cv} (k : TW L) (h3 : ¬ (P : Int) ^ 3 ∣ c4 L) (n : Nat) (hn : 732497742 < (P : Int) ^ n) : ¬ (P : Int) ^ (n + 6) ∣ dd L := by
  intro h
  obtain ⟨D0, h0, hb, h1, -⟩ := tw_dv hp k (fun h' => h3 (dv_pow h'.1 (by omega)))
  have := pw_lt h0 hb (h1 n h)
  omega
theorem q_small {P q m : Nat} (h : q ≤ m) (hm : (P : Int) ^ m ≤ 1000000) (hp : 1 ≤ P) : (P : Int) ^ q ≤ 1000000 := by
  have := Nat.pow_le_pow_right hp h
  have e1 : ((P ^ q : Nat) : Int) = (P : Int) ^ q := by push_cast; rfl
  have e2 : ((P ^ m : Nat) : Int) = (P : Int) ^ m := by push_cast; rfl
  rw [← e1]
  rw [← e2] at hm
  omega
theorem tw_PA {L : Cv} (k : TW L) (hmin : ∀ P : Nat, Pr P → Min P L) (h0 : dd L ≠ 0) (hb : b9 (dd L)) : (∀ P : Nat, Pr P → PA P L) ∧ (∀ P : Nat, Pr P → (P : Int) ∣ c4 L → (P : Int) ^ 4 ∣ dd L → P ≤ 165) := by
  have cap : ∀ (P : Nat), Pr P → 11 ≤ P → ∀ (n m : Nat), 732497742 < (m : Int) ^ n → (P : Int) ^ n ∣ dd L → P < m := by
    intro P hp h11 n m hm hd
    obtain ⟨D0, d0, db, h⟩ := tw_2 hp h11 k ((hmin P hp).f hp (by omega))
    exact pw_cap m hm d0 db (h n hd)
  have a7 : ∀ P : Nat, Pr P → (P : Int) ^ 7 ∣ dd L → P ≤ 18 := by
    intro P hp h7
    rcases Nat.lt_or_ge P 11 with h | h
    · omega
    · have := cap P hp h 7 19 (by decide) h7
      omega
  refine ⟨fun P hp => ⟨?_, ?_, fun _ => a7 P hp, ?_⟩, ?_⟩
  · intro h4 hd
    rcases Nat.lt_or_ge P 11 with h | h
    · omega
    · have := cap P hp h 2 27065 (by decide) (add_sq hp (by omega) h4 hd)
      omega
  · intro h4 h6
    rcases Nat.lt_or_ge P 11 with h | h
    · omega
    · have := cap P hp h 6 31 (by decide) h6
      omega
  · intro N hN1 hN h3 h4 h7
    have h18 := a7 P hp h7
    rcases pr_18 hp h18 with h | h | h | h | h | h | h
    · subst h; exact Or.inl ⟨rfl, d9_62 h0 hb hN⟩
    · subst h
      refine Or.inr ⟨by omega, by omega, q_small (m := 11) ?_ (by decide) (by omega)⟩
      have h3' := h3.resolve_left (by omega)
      rcases Nat.lt_or_ge 24 N with h | h
      · exact absurd (dv_pow hN (show 19 + 6 ≤ N by omega)) (tw_cap hp k h3' 19 (by decide))
      · omega
    · subst h
      refine Or.inr ⟨by omega, by omega, q_small (m := 8) ?_ (by decide) (by omega)⟩
      have h3' := h3.resolve_left (by omega)
      rcases Nat.lt_or_ge 18 N with h | h
      · exact absurd (dv_pow hN (show 13 + 6 ≤ N by omega)) (tw_cap hp k h3' 13 (by decide))
      · omega
    · subst h
      refine Or.inr ⟨by omega, by omega, q_small (m := 7) ?_ (by decide) (by omega)⟩
      have h3' := h3.resolve_left (by omega)
      rcases Nat.lt_or_ge 16 N with h | h
      · exact absurd (dv_pow hN (show 11 + 6 ≤ N by omega)) (tw_cap hp k h3' 11 (by decide))
      · omega
    all_goals
      have hN9 : N < 9 := by
        rcases Nat.lt_or_ge N 9 with h9 | h9
        · exact h9
        · have := cap P hp (by omega) 9 10 (by decide) (dv_pow hN h9)
          omega
      refine Or.inr ⟨by omega, by omega, ?_⟩
      refine q_small (m := 3) (by omega) ?_ (by omega)
      rw [h]; decide
  · intro P hp h4 hd
    rcases Nat.lt_or_ge P 11 with h | h
    · omega
    · have := cap P hp h 4 165 (by decide) hd
      omega
theorem pr3 : Pr 3 := ⟨by omega, fun _ _ h => mul_dv (Or.inr rfl) h⟩
theorem tw_H3 {E : Cv} (k : TW E) : H3 3 E := by
  intro _ F n hE h3 h27
  have kF : TW F := TW.dn (u := (3 : Int) ^ n) (Int.pow_pos (by omega)) (k.eqv hE)
  exact tw_cap (P := 3) pr3 kF h3 21 (by decide) h27
/-- what is asked of an equation and its least one -/
def HI (E L : Cv) (u : Int) : Prop := (0 < u ∧ Eqv E (sc L u) ∧ LB L ∧ dd E ≠ 0 ∧ b9 (dd E)) ∧ (b9 (c4 E) ∧ b9 (c6 E) ∧ BndU E ∧ BndB E) ∧ (∀ P : Nat, Pr P → Min P L) ∧ TW E
theorem HI.pair {E L : Cv} {u : Int} (h : HI E L u) : Pair E L u := by
  obtain ⟨⟨h1, h2, h3, h4, h5⟩, ⟨h6, h7, h8, h9⟩, h10, h11⟩ := h
  have eD : dd E = u ^ 12 * dd L := by rw [← h2.dd, dd_sc]
  have d0 : dd L ≠ 0 := by intro h; rw [h, Int.mul_zero] at eD; exact h4 eD
  have h12 : 0 < u ^ 12 := Int.pow_pos h1
  have db : b9 (dd L) := by
    have := dv_bnd (q := u ^ 12) (b := dd L) (m := 1) (by omega) (by omega) (by rw [← eD]; exact h5)
    exact ⟨by omega, by omega⟩
  obtain ⟨a, b⟩ := tw_PA (TW.dn h1 (h11.eqv h2)) h10 d0 db
  exact ⟨h1, h2, h3, h4, h5, h6, h7, h8, h9, h10, a, b, tw_H3 h11⟩
