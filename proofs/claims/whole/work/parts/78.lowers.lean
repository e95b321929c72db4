/-! Lowering: its loop over the primes to 31, and what it builds -/
def pq (i : Nat) : Nat := ([2, 3, 5, 7, 11, 13, 17, 19, 23, 29, 31] : List Nat).getD i 32
theorem pq_tw {i : Nat} (h : i < 11) : tw3 i = nI (pq i) := by
  rcases (show i = 0 ∨ i = 1 ∨ i = 2 ∨ i = 3 ∨ i = 4 ∨ i = 5 ∨ i = 6 ∨ i = 7 ∨ i = 8 ∨ i = 9 ∨ i = 10 by omega) with rfl | rfl | rfl | rfl | rfl | rfl | rfl | rfl | rfl | rfl | rfl <;> rfl
theorem pr_31 {P : Nat} (hp : Pr P) (h : P ≤ 31) : P = 2 ∨ P = 3 ∨ P = 5 ∨ P = 7 ∨ P = 11 ∨ P = 13 ∨ P = 17 ∨ P = 19 ∨ P = 23 ∨ P = 29 ∨ P = 31 := by
  rcases pr_cases hp with h1 | h1 | h1
  · exact Or.inl h1
  · exact Or.inr (Or.inl h1)
  · have := pr_eul hp h1 (by omega)
    simp only [eulL, List.mem_cons, List.not_mem_nil, or_false] at this
    omega
theorem pq_next {i : Nat} (h : i < 11) {Q : Nat} (hq : Pr Q) (h31 : Q ≤ 31) (h2 : Q < pq (i + 1)) : Q < pq i ∨ Q = pq i := by
  have hm := pr_31 hq h31
  rcases (show i = 0 ∨ i = 1 ∨ i = 2 ∨ i = 3 ∨ i = 4 ∨ i = 5 ∨ i = 6 ∨ i = 7 ∨ i = 8 ∨ i = 9 ∨ i = 10 by omega) with rfl | rfl | rfl | rfl | rfl | rfl | rfl | rfl | rfl | rfl | rfl <;>
    simp only [pq, List.getD_cons_zero, List.getD_cons_succ, List.getD_nil] at h2 ⊢ <;> omega
theorem pq_lt {i : Nat} (h : i < 11) : pq i < pq (i + 1) ∧ pq i ≤ 31 ∧ 2 ≤ pq i := by
  rcases (show i = 0 ∨ i = 1 ∨ i = 2 ∨ i = 3 ∨ i = 4 ∨ i = 5 ∨ i = 6 ∨ i = 7 ∨ i = 8 ∨ i = 9 ∨ i = 10 by omega) with rfl | rfl | rfl | rfl | rfl | rfl | rfl | rfl | rfl | rfl | rfl <;> decide
/-- small primes are primes -/
def prO (P : Nat) : Bool := (List.range P).all (fun x => (List.range P).all (fun y => x == 0 || y == 0 || (x * y) % P != 0))
theorem pr_of {P : Nat} (h2 : 2 ≤ P) (h : prO P = true) : Pr P := by
  refine ⟨by omega, fun x y hd => ?_⟩
  have k0 : (P : Int) ≠ 0 := by omega
  have k1 := Int.emod_nonneg x k0
  have k2 := Int.emod_lt_of_pos x (show 0 < (P : Int) by omega)
  have k3 := Int.emod_nonneg y k0
  have k4 := Int.emod_lt_of_pos y (show 0 < (P : Int) by omega)
  obtain ⟨a, ha⟩ : ∃ a : Nat, (a : Int) = x % P := ⟨(x % P).toNat, by omega⟩
  obtain ⟨b, hb⟩ : ∃ b : Nat, (b : Int) = y % P := ⟨(y % P).toNat, by omega⟩
  have h1 := List.all_eq_true.mp (List.all_eq_true.mp h a (List.mem_range.mpr (by omega))) b (List.mem_range.mpr (by omega))
  have hm : (a * b) % P = 0 := by
    have : ((a * b % P : Nat) : Int) = 0 := by
      have e : ((a * b % P : Nat) : Int) = ((a : Int) * b) % P := by push_cast; rfl
      rw [e, ha, hb, ← Int.mul_emod]
      exact Int.emod_eq_zero_of_dvd hd
    omega
  by_cases ha0 : a = 0
  · left; exact Int.dvd_of_emod_eq_zero (by omega)
  · by_cases hb0 : b = 0
    · right; exact Int.dvd_of_emod_eq_zero (by omega)
    · exfalso
      simp [ha0, hb0, hm] at h1
theorem pq_pr {i : Nat} (h : i < 11) : Pr (pq i) := by
  refine pr_of (pq_lt h).2.2 ?_
  rcases (show i = 0 ∨ i = 1 ∨ i = 2 ∨ i = 3 ∨ i = 4 ∨ i = 5 ∨ i = 6 ∨ i = 7 ∨ i = 8 ∨ i = 9 ∨ i = 10 by omega) with rfl | rfl | rfl | rfl | rfl | rfl | rfl | rfl | rfl | rfl | rfl <;> decide +kernel
theorem min_dn {Q : Nat} {G G' : Cv} {w : Int} (h : Min Q G) (hE : Eqv G (sc G' w)) : Min Q G' := by
  intro ⟨H, hH⟩
  apply h
  refine ⟨sc H w, ?_⟩
  have := hE.tr (hH.sc w)
  rwa [sc_sc, Int.mul_comm, ← sc_sc] at this
theorem dvd_ab {x y s : Int} (hs : 1 ≤ s) {M : Int} (e : x = s * y) (h : -M ≤ x ∧ x ≤ M) : -M ≤ y ∧ y ≤ M := by
  have := dv_bnd (m := 1) (by omega) hs (by rw [← e]; exact h)
  omega
theorem low22 {ev : EV} {l6 : Nat} {z : PS} {E : Cv} (hD0 : dd E ≠ 0) (hDb : b9 (dd E)) (h4 : b9 (c4 E)) (h6 : b9 (c6 E)) : ∀ (d n i : Nat) (G : Cv) (s : Int), i + d = 11 → 0 < s → Eqv E (sc G s) →
    (∀ Q : Nat, Pr Q → Q < pq i → Q ≤ 31 → Min Q G) → (∀ Q : Nat, Pr Q → pq i ≤ Q → ¬ (Q : Int) ∣ s) →
    ∃ G' s', 0 < s' ∧ Eqv E (sc G' s') ∧ (∀ Q : Nat, Pr Q → Q ≤ 31 → Min Q G') ∧
      q_X3_lower_22 ev l6 (n + d + 1) (ph (dd E)) (ph s) (ph (c4 G)) (ph (c6 G)) (11 : Int32) (nI i) z = ob (g_X3_build ev z (ph (c4 G')) (ph (c6 G')) l6) (fun z2 => some (ph s', z2)) := by
  intro d
  induction d with
  | zero =>
    intro n i G s hi hs hE hm _
    have : i = 11 := by omega
    subst this
    refine ⟨G, s, hs, hE, fun Q hq h => hm Q hq (show Q < 32 by omega) h, ?_⟩
    rw [q_X3_lower_22, if_pos (by decide)]
  | succ d ih =>
    intro n i G s hi hs hE hm hns
    have hi' : i < 11 := by omega
    obtain ⟨q1, q2, q3⟩ := pq_lt hi'
    have hp := pq_pr hi'
    generalize hP : pq i = P at *
    have hPs : P < 2147483648 := by omega
    have e4 : c4 E = s ^ 4 * c4 G := by rw [← hE.c4, c4_sc]
    have e6 : c6 E = s ^ 6 * c6 G := by rw [← hE.c6, c6_sc]
    have e12 : dd E = s ^ 12 * dd G := by rw [← hE.dd, dd_sc]
    have p4 : 1 ≤ s ^ 4 := Int.pow_pos hs
    have p6 : 1 ≤ s ^ 6 := Int.pow_pos hs
    have p12 : 1 ≤ s ^ 12 := Int.pow_pos hs
    have b4 := dvd_ab p4 e4 h4
    have b6 := dvd_ab p6 e6 h6
    have b12 : b9 (dd G) := dvd_ab p12 e12 hDb
    have r4 : inR (c4 G) := ⟨by omega, by omega⟩
    have r6 : inR (c6 G) := ⟨by omega, by omega⟩
    have rD : inR (dd E) := ⟨by have := hDb.1; omega, by have := hDb.2; omega⟩
    have hns' := hns P hp (by omega)
    have n12 : ¬ (P : Int) ∣ s ^ 12 := fun h => hns' (hp.pow 12 h)
    have hG0 : dd G ≠ 0 := by intro h; rw [h, Int.mul_zero] at e12; exact hD0 e12
    obtain ⟨K, K5, hK, hKj⟩ := c_most hp hPs r4 r6 rD hD0
    obtain ⟨t4, t6, t12⟩ := (hKj K).mp (by omega)
    have dG : ∀ {j : Nat}, (P : Int) ^ j ∣ dd E → (P : Int) ^ j ∣ dd G := fun {j} h => hp.can n12 j (by rw [← e12]; exact h)
    obtain ⟨fn, hfn⟩ := FU_ge (d := K) (by omega)
    obtain ⟨j, x, y, j1, j2, j3, j4, j5, j6⟩ := low50 (ev := ev) (l6 := l6) hPs r4 r6 hG0 b12 (by omega) (q_X3_lower_22 ev l6 (n + (d + 1))) (ph (dd E)) (ph s) (11 : Int32) (nI i) z K fn K5 t4 t6 (dG t12)
    obtain ⟨D', hD'⟩ := dG (dv_pow t12 (show 12 * j ≤ 12 * K by omega))
    have hex : ∃ G', c4 G' = x ∧ c6 G' = y ∧ dd G' = D' ∧ Eqv G (sc G' ((P : Int) ^ j)) := by
      rcases j4 with j4 | j4
      · subst j4
        rw [Nat.mul_zero, Int.pow_zero, Int.one_mul] at j2 j3 hD'
        exact ⟨G, j2, j3, hD', by rw [Int.pow_zero, sc_1]; exact Eqv.rf G⟩
      · exact low_ex hp j2 j3 hD' j4
    obtain ⟨G', g4, g6, g12, gE⟩ := hex
    have hpj : 0 < (P : Int) ^ j := Int.pow_pos (by omega)
    have hE' : Eqv E (sc G' (s * (P : Int) ^ j)) := by
      have := hE.tr (gE.sc s)
      rwa [sc_sc, Int.mul_comm] at this
    have hmin : Min P G' := by
      intro ⟨H, hH⟩
      have f4 : x = (P : Int) ^ 4 * c4 H := by rw [← g4, ← hH.c4, c4_sc]
      have f6 : y = (P : Int) ^ 6 * c6 H := by rw [← g6, ← hH.c6, c6_sc]
      have f12 : D' = (P : Int) ^ 12 * dd H := by rw [← g12, ← hH.dd, dd_sc]
      have k4 : c4 G = (P : Int) ^ (4 * (j + 1)) * c4 H := by rw [j2, f4, ← Int.mul_assoc, ← Int.pow_add]; rfl
      have k6 : c6 G = (P : Int) ^ (6 * (j + 1)) * c6 H := by rw [j3, f6, ← Int.mul_assoc, ← Int.pow_add]; rfl
      have k12 : dd G = (P : Int) ^ (12 * (j + 1)) * dd H := by rw [hD', f12, ← Int.mul_assoc, ← Int.pow_add]; rfl
      have hjK : j + 1 ≤ K := (hKj (j + 1)).mpr ⟨⟨_, k4⟩, ⟨_, k6⟩, by rw [e12]; exact Int.dvd_mul_of_dvd_right ⟨_, k12⟩⟩
      exact j5 (j + 1) _ _ (by omega) hjK k4 k6 ⟨fun _ => K2_of H, fun _ => K3_of H⟩
    obtain ⟨G2, s2, a1, a2, a3, a4⟩ := ih n (i + 1) G' (s * (P : Int) ^ j) (by omega) (Int.mul_pos hs hpj) hE' (by
      intro Q hq h1 h2
      rcases pq_next hi' hq h2 h1 with h | h
      · exact min_dn (hm Q hq (by omega) h2) gE
      · rw [show Q = P by omega]; exact hmin) (by
      intro Q hq h1 hd
      rcases hq.2 _ _ hd with h | h
      · exact hns Q hq (by omega) h
      · have := Int.le_of_dvd (by omega) (hq.pow j h)
        omega)
    refine ⟨G2, s2, a1, a2, a3, ?_⟩
    rw [q_X3_lower_22, if_neg (by rw [show (11 : Int32) = nI 11 from rfl, i_le (by omega) (by omega)]; omega), ck_e (inB_n hi' (by omega)), nI_clamp (by omega), pq_tw hi', hP, bd_e, nI_L hPs, hK, ob_e, hfn, j6, nI_s, ph_mul, ← g4, ← g6]
    exact a4
theorem c_build {ev : EV} {z : PS} {l6 : Nat} {G : Cv} (h4 : -10000000000000000 ≤ c4 G ∧ c4 G ≤ 10000000000000000) (h6 : -1000000000000000000 ≤ c6 G ∧ c6 G ≤ 1000000000000000000) :
    ∃ L, Eqv G L ∧ Red L ∧ g_X3_build ev z (ph (c4 G)) (ph (c6 G)) l6 = some (sE z l6 L) := by
  obtain ⟨F, hE, hR⟩ := red_ex G
  refine ⟨F, hE, hR, ?_⟩
  rw [← hE.c4] at *
  rw [← hE.c6] at *
  have hb := ldb_red hR
  obtain ⟨r1, r2, r3⟩ := hR
  have q1 : a1 F * a1 F = a1 F := by rcases r1 with h | h <;> rw [h] <;> rfl
  have q3 : a3 F * a3 F = a3 F := by rcases r3 with h | h <;> rw [h] <;> rfl
  have m2 : -4 ≤ b2 F ∧ b2 F ≤ 5 := by unfold b2; rw [q1]; omega
  have e4 : b2 F * b2 F - c4 F = 24 * b4 F := by unfold c4; omega
  have bb := mb (X := 5) (Y := 5) (x := b2 F) (y := b2 F) (by omega) (by omega)
  have bbb := mb bb (show -5 ≤ b2 F ∧ b2 F ≤ 5 by omega)
  have m4 : -500000000000000 ≤ b4 F ∧ b4 F ≤ 500000000000000 := by omega
  have b24 := mb (show -180 ≤ 36 * b2 F ∧ 36 * b2 F ≤ 180 by omega) m4
  have e6 : 36 * b2 F * b4 F - b2 F * b2 F * b2 F - c6 F = 216 * b6 F := by unfold c6; omega
  have m6 : -10000000000000000 ≤ b6 F ∧ b6 F ≤ 10000000000000000 := by omega
  have s1 : b2 F % 2 = a1 F := by unfold b2; rcases r1 with h | h <;> rw [h] <;> omega
  have s3 : b6 F % 2 = a3 F := by unfold b6; rcases r3 with h | h <;> rw [h] <;> omega
  have t2 : b2 F - a1 F = 4 * a2 F := by unfold b2; omega
  have t4 : b4 F - a1 F * a3 F = 2 * a4 F := by unfold b4; omega
  have t6 : b6 F - a3 F = 4 * a6 F := by unfold b6; omega
  have q13 : 0 ≤ a1 F * a3 F ∧ a1 F * a3 F ≤ 1 := by rcases r1 with h | h <;> rw [h] <;> omega
  have key : q_X3_build_27 ev l6 (ph (c4 F)) (ph (c6 F)) (ph (b2 F)) z = some (sE z l6 F) := by
    unfold q_X3_build_27
    have r : ∀ (q m : Int), inR q → 0 < m → m < 1000 → g_X4_rest (ph q) (ph m) = some (ph (q % m)) := fun q m hq h1 h2 => c_rest h1 ⟨by omega, by omega⟩ (Or.inl hq)
    rw [show (24 : Int64) = ph 24 from rfl, show (216 : Int64) = ph 216 from rfl, show (36 : Int64) = ph 36 from rfl, show (2 : Int64) = ph 2 from rfl, show (4 : Int64) = ph 4 from rfl, ph_mul, ph_sub, e4,
      c_quot_ex (by omega) ⟨by omega, by omega⟩ ⟨by omega, by omega⟩, ob_e, ph_neg, ph_mul, ph_mul, ph_mul, ph_mul, ph_add, ph_sub,
      show -b2 F * b2 F * b2 F + 36 * b2 F * b4 F - c6 F = 216 * b6 F by rw [← e6]; grind,
      c_quot_ex (by omega) ⟨by omega, by omega⟩ ⟨by omega, by omega⟩, ob_e, r _ 2 ⟨by omega, by omega⟩ (by omega) (by omega), ob_e, r _ 2 ⟨by omega, by omega⟩ (by omega) (by omega), ob_e, s1, s3,
      ph_sub, t2, c_quot_ex (by omega) ⟨by omega, by omega⟩ ⟨by omega, by omega⟩, ob_e, ph_mul, ph_sub, t4, c_quot_ex (by omega) ⟨by omega, by omega⟩ ⟨by omega, by omega⟩, ob_e,
      ph_sub, t6, c_quot_ex (by omega) ⟨by omega, by omega⟩ ⟨by omega, by omega⟩, ob_e, c_put, ob_e]
  unfold g_X3_build
  rw [show (12 : Int64) = ph 12 from rfl, show (6 : Int64) = ph 6 from rfl, ph_neg, c_rest (by omega) ⟨by omega, by omega⟩ (Or.inl ⟨by omega, by omega⟩), ob_e]
  unfold ldb at hb
  have k1 := Int.emod_nonneg (-c6 F) (show (12 : Int) ≠ 0 by omega)
  have k2 := Int.emod_lt_of_pos (-c6 F) (show (0 : Int) < 12 by omega)
  by_cases hc : 6 < -c6 F % 12
  · rw [if_pos hc] at hb
    rw [if_neg (by rw [ph_le ⟨by omega, by omega⟩ ⟨by omega, by omega⟩]; omega), bd_e, ph_sub, hb, key]
  · rw [if_neg hc] at hb
    rw [if_pos (by rw [ph_le ⟨by omega, by omega⟩ ⟨by omega, by omega⟩]; omega), hb, key]
/-- LEAST for all, of an equation -/
theorem c_lower {ev : EV} {z : PS} {l6 : Nat} {E : Cv} (hD0 : dd E ≠ 0) (hDb : b9 (dd E)) (h4 : -10000000000000000 ≤ c4 E ∧ c4 E ≤ 10000000000000000) (h6 : -1000000000000000000 ≤ c6 E ∧ c6 E ≤ 1000000000000000000) (hbig : ∀ Q : Nat, Pr Q → 32 ≤ Q → ¬ (Q : Int) ^ 12 ∣ dd E) :
    ∃ L u, 0 < u ∧ Eqv E (sc L u) ∧ Red L ∧ (∀ Q : Nat, Pr Q → Min Q L) ∧ g_X3_lower ev z (ph (c4 E)) (ph (c6 E)) (ph (dd E)) l6 = some (ph u, sE z l6 L) := by
  obtain ⟨n, hn⟩ := FU_ge (d := 11) (by omega)
  obtain ⟨G, s, g1, g2, g3, g4⟩ := low22 (ev := ev) (l6 := l6) (z := z) hD0 hDb ⟨by omega, by omega⟩ ⟨by omega, by omega⟩ 11 n 0 E 1 (by omega) (by omega) (by rw [sc_1]; exact Eqv.rf E) (fun Q hq h => by have := hq.1; exact absurd h (show ¬ Q < 2 by omega)) (fun Q hq _ hd => by have := Int.le_of_dvd (by omega) hd; have := hq.1; omega)
  have e4 : c4 E = s ^ 4 * c4 G := by rw [← g2.c4, c4_sc]
  have e6 : c6 E = s ^ 6 * c6 G := by rw [← g2.c6, c6_sc]
  have b4 := dvd_ab (show 1 ≤ s ^ 4 from Int.pow_pos g1) e4 h4
  have b6 := dvd_ab (show 1 ≤ s ^ 6 from Int.pow_pos g1) e6 h6
  obtain ⟨L, l1, l2, l3⟩ := c_build (ev := ev) (z := z) (l6 := l6) b4 b6
  have hE : Eqv E (sc L s) := g2.tr (l1.sc s)
  refine ⟨L, s, g1, hE, l2, ?_, ?_⟩
  · intro Q hq
    rcases Nat.lt_or_ge Q 32 with h | h
    · have hm := g3 Q hq (by omega)
      intro ⟨H, hH⟩
      exact hm ⟨H, l1.tr hH⟩
    · intro ⟨H, hH⟩
      apply hbig Q hq h
      rw [← hE.dd, dd_sc, ← hH.dd, dd_sc]
      exact ⟨s ^ 12 * dd H, by generalize (Q : Int) ^ 12 = A; generalize s ^ 12 = B; grind⟩
  · unfold g_X3_lower
    rw [hn]
    refine Eq.trans g4 ?_
    rw [l3, ob_e]
