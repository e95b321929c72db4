theorem m1_two {E : Cv} (h4 : (2 : Int) ∣ c4 E) (hd : (2 : Int) ∣ dd E) : (2 : Int) ∣ a1 E ∧ (2 : Int) ∣ a3 E := by
  have h1 : (2 : Int) ∣ a1 E := by
    have : (2 : Int) ∣ a1 E * a1 E * (a1 E * a1 E) := by
      obtain ⟨x, hx⟩ := h4
      unfold c4 b2 at hx
      exact ⟨x - 4 * a1 E * a1 E * a2 E - 8 * a2 E * a2 E + 12 * b4 E, by grind⟩
    exact sq_dv (Or.inl rfl) (sq_dv (Or.inl rfl) this)
  refine ⟨h1, ?_⟩
  have : (2 : Int) ∣ a3 E * a3 E * (a3 E * a3 E) := by
    obtain ⟨x, hx⟩ := h1
    obtain ⟨y, hy⟩ := hd
    have e2 : b2 E = 2 * (2 * x * x + 2 * a2 E) := by unfold b2; rw [hx]; grind
    unfold dd at hy
    rw [e2] at hy
    generalize 2 * x * x + 2 * a2 E = w at hy
    have e6 : b6 E = a3 E * a3 E + 4 * a6 E := rfl
    refine ⟨-y + 9 * w * b4 E * b6 E - 2 * w * w * b8 E - 4 * b4 E * b4 E * b4 E - 13 * b6 E * b6 E - 4 * a6 E * a3 E * a3 E - 8 * a6 E * a6 E, ?_⟩
    have : b6 E * b6 E = a3 E * a3 E * (a3 E * a3 E) + 8 * a6 E * a3 E * a3 E + 16 * a6 E * a6 E := by rw [e6]; grind
    grind
  exact sq_dv (Or.inl rfl) (sq_dv (Or.inl rfl) this)
theorem m1_three {E : Cv} (h4 : (3 : Int) ∣ c4 E) (hd : (3 : Int) ∣ dd E) : (3 : Int) ∣ b2 E ∧ (3 : Int) ∣ b4 E := by
  have h1 : (3 : Int) ∣ b2 E := by
    apply sq_dv (Or.inr rfl)
    obtain ⟨x, hx⟩ := h4
    unfold c4 at hx
    exact ⟨x + 8 * b4 E, by grind⟩
  refine ⟨h1, ?_⟩
  obtain ⟨x, hx⟩ := h1
  obtain ⟨y, hy⟩ := hd
  unfold dd at hy
  rw [hx] at hy
  have h3 : (3 : Int) ∣ b4 E * b4 E * b4 E := ⟨y - 9 * x * b4 E * b6 E + 3 * x * x * b8 E + 3 * b4 E * b4 E * b4 E + 9 * b6 E * b6 E, by grind⟩
  obtain ⟨q, i, e, hi⟩ := md3 (b4 E)
  obtain ⟨v, hv⟩ := h3
  rcases hi with rfl | rfl | rfl
  · exact ⟨q, by omega⟩
  · exfalso
    rw [e] at hv
    have : 3 * (9 * q * q * q + 9 * q * q + 3 * q - v) = -1 := by grind
    omega
  · exfalso
    rw [e] at hv
    have : 3 * (9 * q * q * q + 18 * q * q + 12 * q + 2 - v) = -2 := by grind
    omega
/-- the move of the singular point -/
theorem c_move {ev : EV} {z : PS} {th P : Nat} {L : Cv} (hP : r32 z 28 th = nI P) (hpr : Pr P) (hp2 : P ≤ 27064) (hE : EQ z (rf ev 27 th) L) (hL : LB L) (h4 : (P : Int) ∣ c4 L) (hd : (P : Int) ∣ dd L) :
    ∃ r t : Int, (0 ≤ r ∧ r < P) ∧ (0 ≤ t ∧ t < P) ∧ N1 P (sh L r 0 t) ∧ (P : Int) ∣ b2 (sh L r 0 t) ∧ g_X1_moveSingularPoint ev z th = some (sE z (rf ev 27 th) (sh L r 0 t)) := by
  have hp := hpr.1
  have hL0 := hL
  obtain ⟨⟨l1', l2', l3'⟩, l4', l6'⟩ := hL
  have c4' : ∀ r t : Int, c4 (sh L r 0 t) = c4 L := fun r t => c4_sh L r 0 t
  have d' : ∀ r t : Int, dd (sh L r 0 t) = dd L := fun r t => dd_sh L r 0 t
  by_cases p2 : P = 2
  · subst p2
    have h4 : (2 : Int) ∣ c4 L := h4
    have hd : (2 : Int) ∣ dd L := hd
    refine ⟨a4 L % 2, (((a4 L % 2 + a2 L) * (a4 L % 2) + a4 L) * (a4 L % 2) + a6 L) % 2, ⟨by omega, by omega⟩, ⟨by omega, by omega⟩, ?_, ?_, ?_⟩
    · have h1 := m1_two (E := L) h4 hd
      have z1 : a1 L = 0 := by obtain ⟨⟨x, hx⟩, -⟩ := h1; omega
      have z3 : a3 L = 0 := by obtain ⟨-, ⟨x, hx⟩⟩ := h1; omega
      have ht : ∀ q : Int, 0 ≤ q % 2 ∧ q % 2 < 2 := fun q => by omega
      have h2 := ht (((a4 L % 2 + a2 L) * (a4 L % 2) + a4 L) * (a4 L % 2) + a6 L)
      clear c4' d' h4 hd hE
      unfold N1
      show (2 : Int) ∣ a3 L + _ * a1 L + 2 * _ ∧ (2 : Int) ∣ a4 L - _ * a3 L + 2 * _ * a2 L - _ * a1 L + 3 * _ * _ - 2 * _ * _ ∧ (2 : Int) ∣ a6 L + _ * a4 L + _ * _ * a2 L + _ * _ * _ - _ * a3 L - _ * _ - _ * _ * a1 L
      rw [z1, z3]
      rcases (show a4 L % 2 = 0 ∨ a4 L % 2 = 1 by omega) with h | h
      · rw [h]
        rcases (show (((0 + a2 L) * 0 + a4 L) * 0 + a6 L) % 2 = 0 ∨ (((0 + a2 L) * 0 + a4 L) * 0 + a6 L) % 2 = 1 by omega) with h' | h' <;> rw [h'] <;> refine ⟨by omega, by omega, by omega⟩
      · rw [h]
        rcases (show (((1 + a2 L) * 1 + a4 L) * 1 + a6 L) % 2 = 0 ∨ (((1 + a2 L) * 1 + a4 L) * 1 + a6 L) % 2 = 1 by omega) with h' | h' <;> rw [h'] <;> refine ⟨by omega, by omega, by omega⟩
    · have h1 := m1_two (E := L) h4 hd
      rw [b2_sh]
      obtain ⟨x, hx⟩ := h1.1
      unfold b2; rw [hx]
      exact ⟨2 * x * x + 2 * a2 L + 6 * (a4 L % 2), by grind⟩
    · unfold g_X1_moveSingularPoint
      rw [hP, if_pos (by rfl), hE.a4, l2, k_rest (by omega) (by omega) (Or.inl rfl), ob_e, c_right hE, ob_e, k_rest (by omega) (by omega) (Or.inl rfl), ob_e, l0, c_shift hE, ob_e]
  · have ho : P % 2 = 1 := hpr.odd (by omega)
    have hp3 : 3 ≤ P := by omega
    have fin : ∀ r : Int, (0 ≤ r ∧ r < P) → (P : Int) ∣ b2 L + 12 * r → (P : Int) ∣ b4 (sh L r 0 0) → (P : Int) ∣ b6 (sh L r 0 0) → g_X1_moveSingularPoint ev z th = q_X1_moveSingularPoint_108 ev th (ph r) z →
        ∃ r t : Int, (0 ≤ r ∧ r < P) ∧ (0 ≤ t ∧ t < P) ∧ N1 P (sh L r 0 t) ∧ (P : Int) ∣ b2 (sh L r 0 t) ∧ g_X1_moveSingularPoint ev z th = some (sE z (rf ev 27 th) (sh L r 0 t)) := by
      intro r hr k2 k4 k6 hg
      have m := mb (X := 27064) (Y := 1) (x := r) (y := a1 L) (by omega) (by omega)
      have m' : a1 L * r = r * a1 L := Int.mul_comm _ _
      obtain ⟨h, hh, hd2, he⟩ := k_half (ev := ev) hP hp3 ho (by omega) (x := -(a1 L * r + a3 L)) ⟨by omega, by omega⟩
      refine ⟨r, h, hr, hh, ?_, by rw [b2_sh]; exact k2, ?_⟩
      · refine n1_odd hpr (by omega) ?_ (by rw [b4_sh] at k4 ⊢; exact k4) (by rw [b6_sh] at k6 ⊢; exact k6)
        obtain ⟨q, hq⟩ := hd2
        exact ⟨q, by show a3 L + r * a1 L + 2 * h = _; rw [← hq]; omega⟩
      · rw [hg]
        unfold q_X1_moveSingularPoint_108
        rw [c_slope hE, ob_e, ph_neg, he, ob_e, l0, c_shift hE, ob_e]
    by_cases p3 : P = 3
    · subst p3
      have h4 : (3 : Int) ∣ c4 L := h4
      have hd : (3 : Int) ∣ dd L := hd
      obtain ⟨⟨x, hx⟩, ⟨y, hy⟩⟩ := m1_three h4 hd
      refine fin ((-b6 L) % 3) ⟨by omega, by omega⟩ ?_ ?_ ?_ ?_
      · show (3 : Int) ∣ _; rw [hx]; omega
      · rw [b4_sh, hx, hy]
        generalize (-b6 L) % 3 = q
        exact ⟨y + q * x + 2 * q * q, by grind⟩
      · rw [b6_sh, hx, hy]
        rcases (show (-b6 L) % 3 = 0 ∨ (-b6 L) % 3 = 1 ∨ (-b6 L) % 3 = 2 by omega) with h | h | h <;> rw [h] <;> show (3 : Int) ∣ _ <;> omega
      · unfold g_X1_moveSingularPoint
        rw [hP, if_neg (by decide), if_pos (by rfl), hE.b6, ph_neg, l3, k_rest (by omega) (by omega) (Or.inr ?_), ob_e]
        have := lb_b hL0 (r := 0) (s := 0) (t := 0) (by omega)
        rw [sh_0] at this
        have e6 : b6 L = a3 L * a3 L + 4 * a6 L := rfl
        have q3 : a3 L * a3 L = a3 L := by rcases (show a3 L = 0 ∨ a3 L = 1 by omega) with h | h <;> rw [h] <;> rfl
        exact ⟨by omega, by omega⟩
    · have h5 : 5 ≤ P := by
        rcases (show P = 4 ∨ 5 ≤ P by omega) with h | h
        · omega
        · exact h
      have n2 := hpr.n2 (by omega)
      have n3 : ¬ (P : Int) ∣ 3 := fun hd => by have := Int.le_of_dvd (by omega) hd; omega
      have n12 : ¬ (P : Int) ∣ 12 := fun hd => by
        rcases hpr.2 2 6 hd with h | h
        · exact n2 h
        · rcases hpr.2 2 3 h with h | h
          · exact n2 h
          · exact n3 h
      have hinv : (P : Int) ∣ 12 * (12 ^ (P - 2) % P) - 1 := by
        have h1 := fermat1 hpr n12
        have e1 : (12 : Int) ^ (P - 1) = 12 * 12 ^ (P - 2) := by
          rw [show P - 1 = (P - 2) + 1 by omega, Int.pow_succ]; grind
        rw [e1] at h1
        obtain ⟨a, ha⟩ := h1
        obtain ⟨b, hb⟩ := em_dv (P : Int) (12 ^ (P - 2))
        exact ⟨a + 12 * b, by grind⟩
      have hr2 : (P : Int) ∣ b2 L + 12 * ((-(b2 L % P)) * (12 ^ (P - 2) % P) % P) := by
        obtain ⟨a, ha⟩ := hinv
        obtain ⟨b, hb⟩ := em_dv (P : Int) ((-(b2 L % P)) * (12 ^ (P - 2) % P))
        obtain ⟨c, hc⟩ := em_dv (P : Int) (b2 L)
        generalize (12 : Int) ^ (P - 2) % P = v at *
        generalize b2 L % P = w at *
        refine ⟨12 * b - w * a - c, ?_⟩
        have e1 : -w * v % P = P * b + -w * v := by omega
        rw [e1]
        have e2 : 12 * v = P * a + 1 := by omega
        have e3 : b2 L = w - P * c := by omega
        rw [e3]
        have : 12 * (-w * v) = -w * (P * a + 1) := by rw [← e2]; grind
        grind
      have n1f := n1_far hpr (by omega) (E := sh L ((-(b2 L % P)) * (12 ^ (P - 2) % P) % P) 0 0) (by rw [b2_sh]; exact hr2) (by rw [c4']; exact h4) (by rw [d']; exact hd)
      refine fin ((-(b2 L % P)) * (12 ^ (P - 2) % P) % P) ⟨Int.emod_nonneg _ (by omega), Int.emod_lt_of_pos _ (by omega)⟩ hr2 n1f.1 n1f.2.1 ?_
      unfold g_X1_moveSingularPoint
      have hP2 : ¬ nI P = (2 : Int32) := fun h => p2 ((nI_eq (by omega) (by omega)).mp (show nI P = nI 2 from h))
      have hP3 : ¬ nI P = (3 : Int32) := fun h => p3 ((nI_eq (by omega) (by omega)).mp (show nI P = nI 3 from h))
      have q1 : a1 L * a1 L = a1 L := by rcases (show a1 L = 0 ∨ a1 L = 1 by omega) with h | h <;> rw [h] <;> rfl
      have e2 : b2 L = a1 L * a1 L + 4 * a2 L := rfl
      have k1 := Int.emod_nonneg (b2 L) (show (P : Int) ≠ 0 by omega)
      have k2 := Int.emod_lt_of_pos (b2 L) (show 0 < (P : Int) by omega)
      have k3 := Int.emod_nonneg ((12 : Int) ^ (P - 2)) (show (P : Int) ≠ 0 by omega)
      have k4 := Int.emod_lt_of_pos ((12 : Int) ^ (P - 2)) (show 0 < (P : Int) by omega)
      have hsub : (nI P - (2 : Int32)).toInt64 = ph ((P - 2 : Nat) : Int) := by
        have : nI P - (2 : Int32) = nI (P - 2) := by
          rw [show P = (P - 2) + 2 by omega, ← i_add, show (nI 2) = (2 : Int32) from rfl]
          rw [show P - 2 + 2 - 2 = P - 2 by omega]; grind
        rw [this, nI_L (by omega)]
      rw [hP, if_neg hP2, if_neg hP3, hE.b2, nI_L (by omega), k_rest (by omega) (by omega) (Or.inr ⟨by omega, by omega⟩), ob_e, show (12 : Int64) = ph 12 from rfl, hsub, c_powr (by omega) (by omega) ⟨by omega, by omega⟩ (by omega), ob_e, ph_neg, ph_mul, k_rest (by omega) (by omega) (Or.inr ?_), ob_e]
      have m := mb (X := 27064) (Y := 27064) (x := -(b2 L % P)) (y := (12 : Int) ^ (P - 2) % P) (by omega) (by omega)
      exact ⟨by omega, by omega⟩
