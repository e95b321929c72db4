/-! the class from the cubic on -/
theorem NK1_c4G {p : Int} (hp : Pr p) (h3 : 3 ≤ p) {E : Cv} (h : NK p 1 E) : ¬ p ^ 3 ∣ c4 E := by
  obtain ⟨h2, h⟩ := h
  rw [if_pos (by decide)] at h
  obtain ⟨⟨x1, e1⟩, ⟨x2, e2⟩, ⟨x3, e3⟩, ⟨x4, e4⟩, -⟩ := h
  intro ⟨q, hq⟩
  apply h2
  rw [show (1 + 3) / 2 = 2 by omega] at e3 e4
  have e4 : a4 E = p ^ 3 * x4 := e4
  unfold c4 b2 b4 at hq
  rw [e1, e2, e3, e4] at hq
  rw [e2]
  have hne := hp.ne
  have : p ∣ 2 * (2 * (2 * (2 * (x2 * x2)))) := by
    refine ⟨q - p * x1 * x1 * x1 * x1 - 8 * x1 * x1 * x2 + 24 * (x1 * x3 + 2 * x4), ?_⟩
    apply Int.eq_of_mul_eq_mul_left (a := p ^ 2) (Int.pow_ne_zero hne)
    clear e1 e2 e3 e4
    grind
  obtain ⟨v, hv⟩ := hp.sq (hp.c2 h3 (hp.c2 h3 (hp.c2 h3 (hp.c2 h3 this))))
  exact ⟨v, by rw [hv]; grind⟩
def tailC (ev : EV) (th : Nat) (z13 : PS) : Option PS := ob (g_X1_part ev z13 th (r64 z13 1 (rf ev 27 th)) (1 : Int32)) (fun v14 => ob (g_X4_rest v14 ((r32 z13 28 th).toInt64)) (fun v15 => ob (g_X1_part ev z13 th (r64 z13 3 (rf ev 27 th)) (2 : Int32)) (fun v16 => ob (g_X4_rest v16 ((r32 z13 28 th).toInt64)) (fun v17 => ob (g_X1_part ev z13 th (r64 z13 4 (rf ev 27 th)) (3 : Int32)) (fun v18 => ob (g_X4_rest v18 ((r32 z13 28 th).toInt64)) (fun v19 => ob (g_X4_rest ((((((((18 : Int64) * v15) * v17) * v19) + (((v15 * v15) * v17) * v17)) - (((((4 : Int64) * v15) * v15) * v15) * v19)) - ((((4 : Int64) * v17) * v17) * v17)) - (((27 : Int64) * v19) * v19)) ((r32 z13 28 th).toInt64)) (fun v20 => if v20 = (0 : Int64) then (ob (g_X1_multipleRoot ev z13 th v15 v17 v19) (fun v22 => ob (g_X0_shift ev z13 (rf ev 27 th) (((r32 z13 28 th).toInt64) * v22) (0 : Int64) (0 : Int64)) (fun z23 => ob (g_X4_rest ((v15 * v15) - ((3 : Int64) * v17)) ((r32 z23 28 th).toInt64)) (fun v24 => if v24 = (0 : Int64) then (ob (g_X1_tellLateKind ev z23 th) (fun z26 => some z26)) else (ob (g_X1_tellByTurns ev z23 th) (fun z27 => some z27)))))) else (ob (g_X1_cubicRoots ev z13 th v15 v17 v19) (fun v28 => ob (g_X1_tell ev z13 th (5 : Int32) ((r32 z13 25 th) - (4 : Int32)) (5 : Int32) ((1 : Int32) + v28)) (fun z29 => some z29))))))))))
theorem c_tail {ev : EV} {z : PS} {th P N : Nat} {L : Cv} {r s t : Int} (hpr : Pr P) (hL : LB L) (hmin : Min P L) (hr : 0 ≤ r ∧ r < P) (hs : 0 ≤ s ∧ s < P) (ht : 0 ≤ t ∧ t < (P : Int) * P) (C : CF ev z th P N (sh L r s t)) (fl : FL P (sh L r s t))
    (hND : ¬ (P : Int) ^ (N + 1) ∣ dd L) (hD0 : dd L ≠ 0) (hDb : -9000000000000000000 ≤ dd L ∧ dd L ≤ 9000000000000000000) (h6 : (P : Int) ^ 6 ∣ dd L → P ≤ 30) (h7 : (P : Int) ^ 7 ∣ dd L → P ≤ 18) (hB : P = 2 ∨ ¬ (P : Int) ^ 3 ∣ c4 L → (P : Int) ^ 7 ∣ dd L → NB P N) (hN9 : N < 900) :
    ∃ k i c z', k ≠ 1 ∧ LateG P (sh L r s t) k i c ∧ tailC ev th z = some z' ∧ AnsC ev th z z' N k i c 0 := by
  have hp := hpr.1
  have C0 := C
  obtain ⟨hP, hN, hS, hE⟩ := C
  obtain ⟨b, c, d, hc⟩ := fl.cb
  have h30 : P ≤ 30 := h6 (by have := FL_D fl; rwa [dd_sh] at this)
  have hPP : (P : Int) * P ≤ 900 := by have := mb (X := 30) (Y := 30) (x := (P : Int)) (y := P) (by omega) (by omega); omega
  have hM : SM P r s t := by
    by_cases h2 : P = 2
    · exact Or.inl h2
    · exact Or.inr ⟨by omega, by omega, by omega⟩
  have f := hM.fit hL
  have hc' := hc
  obtain ⟨e2, e4, e6⟩ := hc'
  obtain ⟨v1, g1, w1⟩ := k_pm (ev := ev) (n := 1) hP (PK_30 (by omega) h30 (by omega)) (a := b) (by rw [Int.pow_one, ← e2]; exact f 1) (by omega)
  obtain ⟨v2, g2, w2⟩ := k_pm (ev := ev) (n := 2) hP (PK_30 (by omega) h30 (by omega)) (a := c) (by rw [← e4]; exact f 3) (by omega)
  obtain ⟨v3, g3, w3⟩ := k_pm (ev := ev) (n := 3) hP (PK_30 (by omega) h30 (by omega)) (a := d) (by rw [← e6]; exact f 4) (by omega)
  rw [Int.pow_one, ← e2] at g1
  rw [← e4] at g2
  rw [← e6] at g3
  have g1 : g_X1_part ev z th (ph (a2 (sh L r s t))) (1 : Int32) = some v1 := g1
  have g2 : g_X1_part ev z th (ph (a4 (sh L r s t))) (2 : Int32) = some v2 := g2
  have g3 : g_X1_part ev z th (ph (a6 (sh L r s t))) (3 : Int32) = some v3 := g3
  have md : ∀ x : Int, (P : Int) ∣ x % P - x ∧ 0 ≤ x % (P : Int) ∧ x % (P : Int) < 30 := by
    intro x
    have m1 := Int.emod_nonneg x (show (P : Int) ≠ 0 by omega)
    have m2 := Int.emod_lt_of_pos x (show 0 < (P : Int) by omega)
    have m3 := Int.emod_add_mul_ediv x P
    exact ⟨⟨-(x / P), by rw [Int.mul_neg]; omega⟩, m1, by omega⟩
  obtain ⟨b1, b2⟩ := md b
  obtain ⟨c1, c2⟩ := md c
  obtain ⟨d1, d2⟩ := md d
  generalize b % (P : Int) = b' at *
  generalize c % (P : Int) = c' at *
  generalize d % (P : Int) = d' at *
  obtain ⟨i1, i2, i3, i4⟩ := cub_cg b1 c1 d1
  have rng : (P : Int) = 2 ∨ ((-400 ≤ b' ∧ b' ≤ 400) ∧ (-800000 ≤ c' ∧ c' ≤ 800000) ∧ (-268000000 ≤ d' ∧ d' ≤ 268000000)) := Or.inr ⟨by omega, by omega, by omega⟩
  have fD : fit P (18 * b' * c' * d' + b' * b' * c' * c' - 4 * b' * b' * b' * d' - 4 * c' * c' * c' - 27 * d' * d') := by
    rcases rng with h | ⟨h1, h2, h3⟩
    · exact Or.inl h
    · exact Or.inr (cubD_rng h1 h2 h3)
  have fT : fit P (b' * b' - 3 * c') := by
    rcases rng with h | ⟨h1, h2, h3⟩
    · exact Or.inl h
    · right; have := mb h1 h1; exact ⟨by omega, by omega⟩
  have fc : ∀ T : Int, 0 ≤ T → T < P → fit P (cub b' c' d' T) ∧ fit P ((3 * T + 2 * b') * T + c') := by
    intro T t0 t1
    rcases rng with h | ⟨h1, h2, h3⟩
    · exact ⟨Or.inl h, Or.inl h⟩
    · have tt : -30 ≤ T ∧ T ≤ 30 := by omega
      have m1 := mb (mb tt tt) tt
      have m2 := mb (mb h1 tt) tt
      have m3 := mb h2 tt
      have m4 := mb (X := 1000) (Y := 30) (x := 3 * T + 2 * b') (y := T) (by omega) tt
      refine ⟨Or.inr ?_, Or.inr ⟨by omega, by omega⟩⟩
      unfold cub
      exact ⟨by omega, by omega⟩
  have eD : ph (18 * b' * c' * d' + b' * b' * c' * c' - 4 * b' * b' * b' * d' - 4 * c' * c' * c' - 27 * d' * d') = (((((((18 : Int64) * ph b') * ph c') * ph d') + (((ph b' * ph b') * ph c') * ph c')) - (((((4 : Int64) * ph b') * ph b') * ph b') * ph d')) - ((((4 : Int64) * ph c') * ph c') * ph c')) - (((27 : Int64) * ph d') * ph d') := by
    rw [show (18 : Int64) = ph 18 from rfl, l4, l27]; simp only [ph_mul, ph_add, ph_sub]
  have dD : cubD b' c' d' = 18 * b' * c' * d' + b' * b' * c' * c' - 4 * b' * b' * b' * d' - 4 * c' * c' * c' - 27 * d' * d' := rfl
  generalize ho : tailC ev th z = o
  unfold tailC at ho
  rw [hE.a2, hE.a4, hE.a6, hP, nI_L (by omega), g1, ob_e, w1, ob_e, g2, ob_e, w2, ob_e, g3, ob_e, w3, ob_e, ← eD, k_rest (by omega) (by omega) fD, ob_e, ← dD] at ho
  by_cases hD : (P : Int) ∣ cubD b c d
  · rw [if_pos ((mod_n (by omega) (by omega)).mpr (i2.mpr hD))] at ho
    obtain ⟨T, hT, hT1, hT2⟩ := dbl_G hpr hD
    obtain ⟨R, R1, R2, R3, R4⟩ := k_mult (ev := ev) (z := z) (th := th) hP (by omega) (by omega) fc hT ((i1 T).mpr hT1) ((i4 T).mpr hT2)
    have R2 := (i1 R).mp R2
    have R3 := (i4 R).mp R3
    have hE3 : sh (sh L r s t) (P * R) 0 0 = sh L (r + P * R) s (t + s * (P * R)) := by
      rw [sh_sh]; congr 1 <;> omega
    rw [R4, ob_e, ph_mul, l0, c_shift hE, ob_e, hE3] at ho
    have C3 := C0.sE (sh L (r + P * R) s (t + s * (P * R)))
    rw [C3.1, nI_L (by omega), ph_mul, show (3 : Int64) = ph 3 from rfl, ph_mul, ph_sub, k_rest (by omega) (by omega) fT, ob_e] at ho
    have mPR : 0 ≤ (P : Int) * R ∧ (P : Int) * R ≤ (P : Int) * P - P := by
      have h0 := Int.mul_nonneg (show 0 ≤ (P : Int) by omega) (show 0 ≤ (R : Int) by omega)
      have h1 := Int.mul_le_mul_of_nonneg_left (show (R : Int) ≤ P - 1 by omega) (show 0 ≤ (P : Int) by omega)
      have h2 : (P : Int) * (P - 1) = P * P - P := by grind
      omega
    have F3 := FrC_sE ev th z (sh L (r + P * R) s (t + s * (P * R)))
    by_cases hT' : (P : Int) ∣ b * b - 3 * c
    · rw [if_pos (show ph ((b' * b' - 3 * c') % P) = ph 0 from (mod_n (by omega) (by omega)).mpr (i3.mpr hT'))] at ho
      have n3 := mv_ntG hpr fl hc hD hT' R2
      rw [hE3] at n3
      have h18 : P ≤ 18 := h7 (by have := NT_D n3; rwa [dd_sh] at this)
      have hPP : (P : Int) * P ≤ 324 := by have := mb (X := 18) (Y := 18) (x := (P : Int)) (y := P) (by omega) (by omega); omega
      obtain ⟨y, hy⟩ := n3.2.2.1
      obtain ⟨w, hw⟩ := n3.2.2.2.2
      have msr : 0 ≤ s * ((P : Int) * R) ∧ s * ((P : Int) * R) ≤ 18 * 324 := by
        have h0 := Int.mul_nonneg (show 0 ≤ s by omega) mPR.1
        have := mb (X := 18) (Y := 324) (x := s) (y := (P : Int) * R) (by omega) (by omega)
        omega
      have hM3 : SM P (r + P * R) s (t + s * (P * R)) ∧ SM P (r + P * R) s (t + s * (P * R) + 6000) := by
        by_cases h2 : P = 2
        · exact ⟨Or.inl h2, Or.inl h2⟩
        · exact ⟨Or.inr ⟨by omega, by omega, by omega⟩, Or.inr ⟨by omega, by omega, by omega⟩⟩
      obtain ⟨kk, cc, z', l1, l2, l3, l4⟩ := c_late hpr h18 hL hmin hM3.1 hM3.2 C3 n3 hy (w := -w) (by rw [hw, Int.neg_neg])
      rw [l2, ob_e] at ho
      refine ⟨kk, 0, cc, z', l1, ⟨b, c, d, hc.1, hc.2.1, hc.2.2, Or.inr (Or.inr ⟨hD, hT', rfl, _, ?_, n3, y, -w, hy, by rw [hw, Int.neg_neg], l4⟩)⟩, ho.symm, ⟨F3.tr l3.1, l3.2⟩⟩
      rw [← hE3]; exact Eqv.sh _ _ _ _
    · rw [if_neg (fun h => hT' (i3.mp ((mod_n (by omega) (by omega)).mp (show ph ((b' * b' - 3 * c') % P) = ph 0 from h))))] at ho
      have n3 := mv_nkG hpr fl hc hT' R2 R3
      rw [hE3] at n3
      have h7d : (P : Int) ^ 7 ∣ dd L := by have := NK_D (by omega) n3; rwa [dd_sh] at this
      have nc4 : P = 2 ∨ ¬ (P : Int) ^ 3 ∣ c4 L := by
        by_cases h2 : P = 2
        · exact Or.inl h2
        · right
          have := NK1_c4G hpr (by omega) n3
          rwa [c4_sh] at this
      have hNB := hB nc4 h7d
      have h18 := h7 h7d
      have h7N : 7 ≤ N := by
        rcases Nat.lt_or_ge N 7 with h | h
        · exact absurd (dv_pow h7d (by omega)) hND
        · exact h
      obtain ⟨n, hn⟩ := FU_ge (d := N - 6) (by omega)
      have tc : TC P 1 (r + P * R) s (t + s * (P * R)) := by
        by_cases h2 : P = 2
        · exact Or.inl h2
        · right
          rw [show (1 + 3) / 2 = 2 by omega, show (P : Int) ^ 2 = P * P by grind]
          exact ⟨hs, by omega, t, P * R, rfl, ht, by omega⟩
      obtain ⟨j, cc, z', k1, k2, k3, k4⟩ := c_loop hpr (by omega) hL hND hD0 hDb hNB hN9 (N - 6) 1 n (r + P * R) s (t + s * (P * R)) _ (by omega) (by omega) C3 tc n3
      unfold g_X1_tellByTurns at ho
      rw [hn, show (1 : Int32) = nI 1 from rfl, k3, ob_e] at ho
      refine ⟨6, 1 + j, cc, z', by omega, ⟨b, c, d, hc.1, hc.2.1, hc.2.2, Or.inr (Or.inl ⟨hD, hT', rfl, _, ?_, n3, j, by omega, k1⟩)⟩, ho.symm, ⟨F3.tr k4.1, k4.2⟩⟩
      rw [← hE3]; exact Eqv.sh _ _ _ _
  · rw [if_neg (fun h => hD (i2.mp ((mod_n (by omega) (by omega)).mp h))), k_cnt hP (by omega) (by omega) (fun T t0 t1 => (fc T t0 t1).1), ob_e, hN, c_tell, ob_e, cnt_cg i1] at ho
    refine ⟨5, 0, 1 + cnt P b c d P, _, by omega, ⟨b, c, d, hc.1, hc.2.1, hc.2.2, Or.inl ⟨hD, rfl, rfl, rfl⟩⟩, ho.symm, ?_⟩
    exact ansC0 (FrC.rf ev th z) C0 (by omega) rfl rfl rfl (by rw [← i_add]; rfl)
