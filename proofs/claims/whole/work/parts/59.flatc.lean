theorem b8_4 (E : Cv) : 4 * b8 E = b2 E * b6 E - b4 E * b4 E := by unfold b8 b2 b6 b4; grind
theorem sq3 {p x : Int} (h : Pr p) (hx : p ^ 3 ∣ x * x) : p ^ 2 ∣ x := by
  have hp := h.1
  obtain ⟨y, rfl⟩ := h.sq (Int.dvd_trans ⟨p ^ 2, by grind⟩ hx)
  obtain ⟨q, hq⟩ := hx
  have : p ∣ y * y := ⟨q, by
    apply Int.eq_of_mul_eq_mul_left (a := p ^ 2) (Int.pow_ne_zero (by omega))
    grind⟩
  obtain ⟨w, rfl⟩ := h.sq this
  exact ⟨w, by grind⟩
theorem flat_odd {p : Int} (h : Pr p) (h3 : 3 ≤ p) {E : Cv} {s g α : Int} (k2 : p ∣ b2 E) (k8 : p ^ 3 ∣ b8 E) (k6 : p ^ 3 ∣ b6 E) (hα : a3 E = p * α) (hs : p ∣ 2 * s - -a1 E) (hg : p ∣ 2 * g - -α) : FL p (sh E 0 s (p * g)) := by
  have n2 := h.n2 h3
  have n4 : ¬ p ∣ 4 := fun hd => by rcases h.2 2 2 hd with h | h <;> exact n2 h
  have e1 : p ∣ a1 (sh E 0 s (p * g)) := by obtain ⟨x, hx⟩ := hs; exact ⟨x, by show a1 E + 2 * s = _; omega⟩
  have e3 : p ^ 2 ∣ a3 (sh E 0 s (p * g)) := by
    obtain ⟨x, hx⟩ := hg
    exact ⟨x, by show a3 E + 0 * a1 E + 2 * (p * g) = _; rw [hα]; have : 2 * g = p * x - α := by omega
                 grind⟩
  have f2 : p ∣ b2 (sh E 0 s (p * g)) := by rw [b2_sh]; obtain ⟨x, hx⟩ := k2; exact ⟨x, by omega⟩
  have f6 : p ^ 3 ∣ b6 (sh E 0 s (p * g)) := by rw [b6_sh]; obtain ⟨x, hx⟩ := k6; exact ⟨x, by grind⟩
  have f8 : p ^ 3 ∣ b8 (sh E 0 s (p * g)) := by rw [b8_sh]; obtain ⟨x, hx⟩ := k8; exact ⟨x, by grind⟩
  generalize sh E 0 s (p * g) = G at *
  have g2 : p ∣ a2 G := by
    have : p ∣ 4 * a2 G := by
      obtain ⟨x, hx⟩ := e1; obtain ⟨y, hy⟩ := f2
      unfold b2 at hy
      exact ⟨y - a1 G * x, by grind⟩
    exact (h.2 _ _ this).resolve_left n4
  have g6 : p ^ 3 ∣ a6 G := by
    apply h.can n4 3
    obtain ⟨x, hx⟩ := e3; obtain ⟨y, hy⟩ := f6
    unfold b6 at hy
    exact ⟨y - p * x * x, by grind⟩
  have g4 : p ^ 2 ∣ b4 G := by
    apply sq3 h
    have := b8_4 G
    obtain ⟨x, hx⟩ := f8; obtain ⟨y, hy⟩ := f6
    exact ⟨b2 G * y - 4 * x, by grind⟩
  refine ⟨e1, g2, e3, ?_, g6⟩
  apply h.can n2 2
  obtain ⟨x, hx⟩ := e3; obtain ⟨y, hy⟩ := g4
  unfold b4 at hy
  exact ⟨y - a1 G * x, by grind⟩
theorem c_flat {ev : EV} {z : PS} {th P N : Nat} {L : Cv} {r t : Int} (hpr : Pr P) (hp2 : P ≤ 27064) (hL : LB L) (hr : 0 ≤ r ∧ r < P) (ht : 0 ≤ t ∧ t < P) (C : CF ev z th P N (sh L r 0 t)) (hN1 : N1 P (sh L r 0 t)) (h2 : (P : Int) ∣ b2 (sh L r 0 t)) (h6 : (P : Int) ^ 2 ∣ a6 (sh L r 0 t)) (h8 : (P : Int) ^ 3 ∣ b8 (sh L r 0 t)) (hb : (P : Int) ^ 3 ∣ b6 (sh L r 0 t)) :
    ∃ s g : Int, (0 ≤ s ∧ s < P) ∧ (0 ≤ g ∧ g < P) ∧ FL P (sh (sh L r 0 t) 0 s (P * g)) ∧ g_X1_moveForCubic ev z th = some (sE z (rf ev 27 th) (sh (sh L r 0 t) 0 s (P * g))) := by
  have hp := hpr.1
  obtain ⟨hP, hN, hS, hE⟩ := C
  obtain ⟨f1, f2, f3, f4, f6⟩ := lb_sh hL (r := r) (s := 0) (t := t) (by omega) (by omega) (by omega)
  generalize sh L r 0 t = E at *
  by_cases p2 : P = 2
  · subst p2
    have fl := flat_ex2 (E := E) hN1 h2 h6 h8 hb
    refine ⟨a2 E % 2, a6 E / 4 % 2, ⟨by omega, by omega⟩, ⟨by omega, by omega⟩, fl, ?_⟩
    obtain ⟨δ, hδ⟩ := h6
    obtain ⟨v, e1, e2⟩ := k_pm (ev := ev) (n := 2) hP (PK_small (by omega) hp2 (by omega)) (a := δ) (Or.inl rfl) (by omega)
    have e1 : g_X1_part ev z th (ph (a6 E)) (2 : Int32) = some v := by rw [hδ]; exact e1
    have hδ' : a6 E / 4 = δ := by
      rw [hδ]; show (2 : Int) ^ 2 * δ / 4 = δ; omega
    unfold g_X1_moveForCubic
    rw [hP, if_pos (by rfl), hE.a2, hE.a6, l2, k_rest (by omega) (by omega) (Or.inl rfl), ob_e, e1, ob_e]
    have e2 : g_X4_rest v (ph 2) = some (ph (δ % 2)) := e2
    rw [e2, ob_e, ph_mul, l0, c_shift hE, ob_e, hδ']
    rfl
  · have ho : P % 2 = 1 := hpr.odd (by omega)
    obtain ⟨α, hα⟩ := hN1.1
    have b1 : -2100000000 ≤ α ∧ α ≤ 2100000000 := by
      rw [hα] at f3
      rcases (show α < 0 ∨ 0 ≤ α by omega) with h | h
      · have := Int.mul_le_mul_of_nonneg_right (show 1 ≤ (P : Int) by omega) (show 0 ≤ -α by omega)
        have e : (P : Int) * -α = -(P * α) := by grind
        omega
      · have := Int.mul_le_mul_of_nonneg_right (show 1 ≤ (P : Int) by omega) h
        omega
    obtain ⟨s, s1, s2, s3⟩ := k_half (ev := ev) hP (by omega) ho (by omega) (x := -a1 E) ⟨by omega, by omega⟩
    obtain ⟨g, g1, g2, g3⟩ := k_half (ev := ev) hP (by omega) ho (by omega) (x := -α) ⟨by omega, by omega⟩
    obtain ⟨w, e1, wR, w1, w2⟩ := k_part (ev := ev) (n := 1) hP (PK_small (by omega) hp2 (by omega)) (a := α) (by rw [Int.pow_one, ← hα]; exact Or.inr ⟨by omega, by omega⟩) (by omega)
    have hw : w = α := by rcases w2 with h | h
                          · omega
                          · exact h
    have e1 : g_X1_part ev z th (ph (a3 E)) (1 : Int32) = some (ph α) := by
      rw [← hw]; rw [hα]; rw [Int.pow_one] at e1; exact e1
    refine ⟨s, g, s1, g1, flat_odd hpr (by omega) h2 h8 hb hα s2 g2, ?_⟩
    have hP2 : ¬ nI P = (2 : Int32) := fun h => p2 ((nI_eq (by omega) (by omega)).mp (show nI P = nI 2 from h))
    unfold g_X1_moveForCubic
    rw [hP, if_neg hP2, hE.a1, hE.a3, ph_neg, s3, ob_e, e1, ob_e, ph_neg, g3, ob_e, nI_L (by omega), ph_mul, l0, c_shift hE, ob_e]
