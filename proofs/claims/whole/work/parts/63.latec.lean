theorem PK_30 {P : Nat} (h2 : 2 ≤ P) (hp : P ≤ 30) {n : Nat} (hn : n ≤ 12) : PK P n := by
  have h12 : PK P 12 := by
    have h : ∀ a : Fin 31, (a.val : Int) ^ 12 < 9223372036854775808 := by decide +kernel
    have := h ⟨P, by omega⟩
    dsimp only at this
    have h0 : 0 < (P : Int) ^ 12 := Int.pow_pos (by omega)
    exact ⟨by omega, by omega, h0, ⟨by omega, by omega⟩, fun _ => by omega⟩
  exact h12.dn hn
/-- small moves -/
def SM (P : Nat) (r s t : Int) : Prop := P = 2 ∨ ((0 ≤ r ∧ r ≤ 1000) ∧ (0 ≤ s ∧ s ≤ 30) ∧ (0 ≤ t ∧ t ≤ 60000))
theorem SM.fit {P : Nat} {L : Cv} (hL : LB L) {r s t : Int} (h : SM P r s t) : ∀ j, fit P (co (sh L r s t) j) := by
  intro j
  rcases h with h | ⟨hr, hs, ht⟩
  · exact Or.inl (by omega)
  · right
    obtain ⟨f1, f2, f3, f4, f6⟩ := lb_sh hL (r := r) (s := s) (t := t) (by omega) (by omega) (by omega)
    unfold co inR
    repeat' split
    all_goals omega
theorem c_late {ev : EV} {z : PS} {th P N : Nat} {L : Cv} {r s t : Int} (hpr : Pr P) (hp2 : P ≤ 18) (hL : LB L) (hmin : Min P L) (hM : SM P r s t) (hM' : SM P r s (t + 6000)) (C : CF ev z th P N (sh L r s t)) (n3 : NT P (sh L r s t)) {y w : Int} (q3 : a3 (sh L r s t) = (P : Int) ^ 2 * y) (q6 : a6 (sh L r s t) = (P : Int) ^ 4 * (-w)) :
    ∃ k c z', k ≠ 1 ∧ g_X1_tellLateKind ev z th = some z' ∧ AnsC ev th z z' N k 0 c 0 ∧
    ((¬ (P : Int) ∣ y * y - 4 * 1 * w ∧ k = 7 ∧ ((qr P 1 y w ∧ c = 3) ∨ (¬ qr P 1 y w ∧ c = 1))) ∨
      ((P : Int) ∣ y * y - 4 * 1 * w ∧ ∃ E4 : Cv, Eqv (sh L r s t) E4 ∧ NT2 P E4 ∧ ((¬ (P : Int) ^ 4 ∣ a4 E4 ∧ k = 8 ∧ c = 2) ∨ ((P : Int) ^ 4 ∣ a4 E4 ∧ ¬ (P : Int) ^ 6 ∣ a6 E4 ∧ k = 9 ∧ c = 1)))) := by
  have hp := hpr.1
  have C0 := C
  obtain ⟨hP, hN, hS, hE⟩ := C
  have f := hM.fit hL
  obtain ⟨v1, g1, g2⟩ := k_pm (ev := ev) (n := 2) hP (PK_30 (by omega) (by omega) (by omega)) (a := y) (by rw [← q3]; exact f 2) (by omega)
  obtain ⟨v2, g3, g4⟩ := k_pmn (ev := ev) (n := 4) hP (PK_30 (by omega) (by omega) (by omega)) (by omega) (a := -w) (by rw [← q6]; exact f 4) (by omega)
  rw [← q3] at g1
  rw [← q6] at g3
  rw [Int.neg_neg] at g4
  have g1 : g_X1_part ev z th (ph (a3 (sh L r s t))) (2 : Int32) = some v1 := g1
  have g3 : g_X1_part ev z th (ph (a6 (sh L r s t))) (4 : Int32) = some v2 := g3
  have o1 : (1 : Int64) = ph (1 % (P : Int)) := by rw [Int.emod_eq_of_lt (by omega) (by omega)]; rfl
  have bx : (0 : Int) ≤ 1 % (P : Int) ∧ 1 % (P : Int) ≤ 1 := by rw [Int.emod_eq_of_lt (by omega) (by omega)]; omega
  have bY := em_lt (x := y) hp
  have bw := em_lt (x := w) hp
  obtain ⟨i1, i2, i3⟩ := q_mod (p := (P : Int)) (x := 1) (y := y) (z := w)
  have ff : ∀ T : Int, 0 ≤ T → T < P → fit P ((1 % P * T + y % P) * T + w % P) := by
    intro T t0 t1
    right
    have m1 := mb (X := 1) (Y := 27064) (x := 1 % (P : Int)) (y := T) (by omega) (by omega)
    have m2 := mb (X := 800000000) (Y := 27064) (x := 1 % P * T + y % P) (y := T) (by omega) (by omega)
    exact ⟨by omega, by omega⟩
  have fu : fit P (y % P * (y % P) - 4 * (1 % P) * (w % P)) := by
    right
    have m1 := mb (X := 27064) (Y := 27064) (x := y % P) (y := y % P) (by omega) (by omega)
    have m2 := mb (X := 108256) (Y := 27064) (x := 4 * (1 % (P : Int))) (y := w % P) (by omega) (by omega)
    exact ⟨by omega, by omega⟩
  have ku := k_unl (ev := ev) (z := z) (th := th) hP (by omega) (by omega) fu
  generalize ho : g_X1_tellLateKind ev z th = o
  unfold g_X1_tellLateKind at ho
  rw [hE.a3, hE.a6, g1, ob_e, hP, nI_L (by omega), g2, ob_e, g3, ob_e, g4, ob_e, o1, ku] at ho
  by_cases hd : (P : Int) ∣ y * y - 4 * 1 * w
  · have hq : qr P (1 % P) (y % P) (w % P) := i2.mpr (dsc_G hpr (fun hd => by have := Int.le_of_dvd (by omega) hd; omega) hd)
    rcases k_root (ev := ev) (z := z) (th := th) hP (by omega) (by omega) ff with ⟨n1, n2⟩ | ⟨n1, R, n2, m3, n4⟩
    · exact absurd hq n1
    · have n4' := nt_moveG hpr n3 q3 q6 hd ((i3 R).mp m3)
      have hE4 : sh (sh L r s t) 0 0 (R * (P : Int) ^ 2) = sh L r s (t + R * P * P) := by
        rw [sh_sh]; congr 1 <;> grind
      have hE4' : sh (sh L r s t) 0 0 (R * P * P) = sh L r s (t + R * P * P) := by
        rw [sh_sh]; congr 1 <;> grind
      rw [hE4'] at n4'
      have p2 : g_X4_power (ph P) (2 : Int32) = some (ph ((P : Int) ^ 2)) := c_power P (e := 2) (by omega)
      rw [n4, ob_e, ob_e, if_pos (i1.mpr hd), if_pos rfl, p2, ob_e, nI_L (by omega), ph_mul, l0, c_shift hE, ob_e, hE4] at ho
      have C1 := C0.sE (sh L r s (t + R * P * P))
      have hRp : 0 ≤ (R : Int) * P * P ∧ (R : Int) * P * P ≤ 6000 := by
        have m1 := mb (X := 18) (Y := 18) (x := (R : Int)) (y := P) (by omega) (by omega)
        have m1' : 0 ≤ (R : Int) * P := Int.mul_nonneg (by omega) (by omega)
        have m2 := mb (X := 324) (Y := 18) (x := (R : Int) * P) (y := P) (by omega) (by omega)
        have m2' : 0 ≤ (R : Int) * P * P := Int.mul_nonneg (by omega) (by omega)
        omega
      have hM4 : SM P r s (t + R * P * P) := by
        rcases hM with h | ⟨h1, h2, h3⟩
        · exact Or.inl h
        · rcases hM' with h | ⟨h1', h2', h3'⟩
          · exact Or.inl h
          · exact Or.inr ⟨h1, h2, by omega⟩
      have f4 := hM4.fit hL
      have w4 : g_X1_goesIn ev (sE z (rf ev 27 th) (sh L r s (t + R * P * P))) th (ph (a4 (sh L r s (t + R * P * P)))) (4 : Int32) = some (if (P : Int) ^ 4 ∣ a4 (sh L r s (t + R * P * P)) then 1 else 0) := k_in (n := 4) C1.1 (PK_30 (by omega) (by omega) (by omega)) (f4 3) (by omega)
      rw [C1.2.2.2.a4, w4, ob_e, C1.2.1] at ho
      have hEq4 : Eqv (sh L r s t) (sh L r s (t + R * P * P)) := by rw [← hE4]; exact Eqv.sh _ _ _ _
      by_cases h4 : (P : Int) ^ 4 ∣ a4 (sh L r s (t + R * P * P))
      · rw [if_pos h4, if_neg (by decide), c_tell, ob_e] at ho
        have h6 : ¬ (P : Int) ^ 6 ∣ a6 (sh L r s (t + R * P * P)) := by
          intro h6
          obtain ⟨F, hF⟩ := sc_ex n4' h4 h6
          exact hmin ⟨F, by rw [hF]; exact Eqv.sh _ _ _ _⟩
        refine ⟨9, 1, _, by omega, ho.symm, ansC0 (FrC_sE ev th z _) C1 (by omega) rfl rfl rfl rfl, Or.inr ⟨hd, _, hEq4, n4', Or.inr ⟨h4, h6, rfl, rfl⟩⟩⟩
      · rw [if_neg h4, if_pos rfl, c_tell, ob_e] at ho
        refine ⟨8, 2, _, by omega, ho.symm, ansC0 (FrC_sE ev th z _) C1 (by omega) rfl rfl rfl rfl, Or.inr ⟨hd, _, hEq4, n4', Or.inl ⟨h4, rfl, rfl⟩⟩⟩
  · rcases k_root (ev := ev) (z := z) (th := th) hP (by omega) (by omega) ff with ⟨n1, n2⟩ | ⟨n1, R, n2, m3, n4⟩
    · rw [n2, ob_e, ob_e, if_neg (fun h => hd (i1.mp h)), if_neg (by decide), if_pos rfl, hN, c_tell, ob_e] at ho
      exact ⟨7, 1, _, by omega, ho.symm, ansC0 (FrC.rf ev th z) C0 (by omega) rfl rfl rfl rfl, Or.inl ⟨hd, rfl, Or.inr ⟨fun h => n1 (i2.mpr h), rfl⟩⟩⟩
    · have hR1 : ¬ nI R = (-1 : Int32) := by
        intro h
        have h1 := nI_toInt (n := R) (by omega)
        rw [h] at h1
        have : ((-1 : Int32)).toInt = -1 := by decide
        omega
      rw [n4, ob_e, ob_e, if_neg (fun h => hd (i1.mp h)), if_neg (by decide), if_neg hR1, hN, c_tell, ob_e] at ho
      exact ⟨7, 3, _, by omega, ho.symm, ansC0 (FrC.rf ev th z) C0 (by omega) rfl rfl rfl rfl, Or.inl ⟨hd, rfl, Or.inl ⟨i2.mp n1, rfl⟩⟩⟩
