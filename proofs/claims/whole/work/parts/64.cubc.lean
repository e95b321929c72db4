theorem cub_cg {p b c d b' c' d' : Int} (hb : p ∣ b' - b) (hc : p ∣ c' - c) (hd : p ∣ d' - d) : (∀ T, p ∣ cub b' c' d' T ↔ p ∣ cub b c d T) ∧ (p ∣ cubD b' c' d' ↔ p ∣ cubD b c d) ∧ (p ∣ b' * b' - 3 * c' ↔ p ∣ b * b - 3 * c) ∧ (∀ T, p ∣ 3 * T * T + 2 * b' * T + c' ↔ p ∣ 3 * T * T + 2 * b * T + c) := by
  obtain ⟨u, hu⟩ := hb; obtain ⟨v, hv⟩ := hc; obtain ⟨w, hw⟩ := hd
  have e1 : b' = b + p * u := by omega
  have e2 : c' = c + p * v := by omega
  have e3 : d' = d + p * w := by omega
  subst e1 e2 e3
  clear hu hv hw
  refine ⟨fun T => ?_, ?_, ?_, fun T => ?_⟩
  · apply Iff.symm; apply dv_iff; unfold cub
    exact ⟨u * T * T + v * T + w, by grind⟩
  · apply Iff.symm; apply dv_iff; unfold cubD
    exact ⟨18 * (u * c * d + b * v * d + b * c * w + p * (u * v * d + u * c * w + b * v * w) + p * p * u * v * w) + (2 * b * u + p * u * u) * (c + p * v) * (c + p * v) + b * b * (2 * c * v + p * v * v) - 4 * ((3 * b * b * u + 3 * b * p * u * u + p * p * u * u * u) * (d + p * w) + b * b * b * w) - 4 * (3 * c * c * v + 3 * c * p * v * v + p * p * v * v * v) - 27 * (2 * d * w + p * w * w), by grind⟩
  · apply Iff.symm; apply dv_iff
    exact ⟨2 * b * u + p * u * u - 3 * v, by grind⟩
  · apply Iff.symm; apply dv_iff
    exact ⟨2 * u * T + v, by grind⟩
theorem cnt_cg {p b c d b' c' d' : Int} (h : ∀ T, p ∣ cub b' c' d' T ↔ p ∣ cub b c d T) : ∀ n, cnt p b' c' d' n = cnt p b c d n := by
  intro n
  induction n with
  | zero => rfl
  | succ n ih =>
    show cnt p b' c' d' n + _ = cnt p b c d n + _
    rw [ih]
    congr 1
    by_cases hd : p ∣ cub b c d n
    · rw [if_pos hd, if_pos ((h n).mpr hd)]
    · rw [if_neg hd, if_neg (fun h' => hd ((h n).mp h'))]
theorem NT_D {p : Int} {E : Cv} (h : NT p E) : p ^ 7 ∣ dd E := by
  obtain ⟨⟨x1, h1⟩, ⟨x2, h2⟩, ⟨x3, h3⟩, ⟨x4, h4⟩, ⟨x6, h6⟩⟩ := h
  have e2 : b2 E = p ^ 2 * (x1 * x1 + 4 * x2) := by unfold b2; rw [h1, h2]; grind
  have e4 : b4 E = p ^ 3 * (x1 * x3 + 2 * x4) := by unfold b4; rw [h1, h3, h4]; grind
  have e6 : b6 E = p ^ 4 * (x3 * x3 + 4 * x6) := by unfold b6; rw [h3, h6]; grind
  have e8 : b8 E = p ^ 6 * (x1 * x1 * x6 + 4 * x2 * x6 - x1 * x3 * x4 + x2 * x3 * x3 - x4 * x4) := by unfold b8; rw [h1, h2, h3, h4, h6]; grind
  unfold dd
  rw [e2, e4, e6, e8]
  generalize x1 * x1 + 4 * x2 = A
  generalize x1 * x3 + 2 * x4 = B
  generalize x3 * x3 + 4 * x6 = X
  generalize x1 * x1 * x6 + 4 * x2 * x6 - x1 * x3 * x4 + x2 * x3 * x3 - x4 * x4 = Y
  exact ⟨p ^ 2 * 9 * A * B * X - p ^ 3 * A * A * Y - p ^ 2 * 8 * B * B * B - p * 27 * X * X, by grind⟩
theorem FL_D {p : Int} {E : Cv} (h : FL p E) : p ^ 6 ∣ dd E := by
  obtain ⟨⟨x1, h1⟩, ⟨x2, h2⟩, ⟨x3, h3⟩, ⟨x4, h4⟩, ⟨x6, h6⟩⟩ := h
  have e2 : b2 E = p * (p * x1 * x1 + 4 * x2) := by unfold b2; rw [h1, h2]; grind
  have e4 : b4 E = p ^ 2 * (p * x1 * x3 + 2 * x4) := by unfold b4; rw [h1, h3, h4]; grind
  have e6 : b6 E = p ^ 3 * (p * x3 * x3 + 4 * x6) := by unfold b6; rw [h3, h6]; grind
  have e8 : b8 E = p ^ 4 * (p * x1 * x1 * x6 + 4 * x2 * x6 - p * x1 * x3 * x4 + p * x2 * x3 * x3 - x4 * x4) := by unfold b8; rw [h1, h2, h3, h4, h6]; grind
  unfold dd
  rw [e2, e4, e6, e8]
  generalize p * x1 * x1 + 4 * x2 = A
  generalize p * x1 * x3 + 2 * x4 = B
  generalize p * x3 * x3 + 4 * x6 = X
  generalize p * x1 * x1 * x6 + 4 * x2 * x6 - p * x1 * x3 * x4 + p * x2 * x3 * x3 - x4 * x4 = Y
  exact ⟨9 * A * B * X - A * A * Y - 8 * B * B * B - 27 * X * X, by grind⟩
theorem dv_bnd {q b M m : Int} (hm : 0 < m) (hq : m ≤ q) (h : -M ≤ q * b ∧ q * b ≤ M) : -M ≤ m * b ∧ m * b ≤ M := by
  rcases (show b < 0 ∨ 0 ≤ b by omega) with hb | hb
  · have h1 := Int.mul_le_mul_of_nonneg_right hq (show 0 ≤ -b by omega)
    have h2 := Int.mul_nonneg (show 0 ≤ m by omega) (show 0 ≤ -b by omega)
    have e1 : m * -b = -(m * b) := by grind
    have e2 : q * -b = -(q * b) := by grind
    omega
  · have h1 := Int.mul_le_mul_of_nonneg_right hq hb
    have h2 := Int.mul_nonneg (show 0 ≤ m by omega) hb
    omega
theorem cub_rng {P : Nat} (h3 : 3 ≤ P) (h30 : P ≤ 30) {L : Cv} (hL : LB L) {r s t b c d : Int} (hr : 0 ≤ r ∧ r < P) (hs : 0 ≤ s ∧ s < P) (ht : 0 ≤ t ∧ t ≤ 900) (hc : CB P (sh L r s t) b c d) : (-400 ≤ b ∧ b ≤ 400) ∧ (-800000 ≤ c ∧ c ≤ 800000) ∧ (-268000000 ≤ d ∧ d ≤ 268000000) := by
  obtain ⟨e2, e4, e6⟩ := hc
  have q2 : 9 ≤ (P : Int) ^ 2 := by
    have := Int.mul_le_mul (show (3 : Int) ≤ P by omega) (show (3 : Int) ≤ P by omega) (by omega) (by omega)
    rw [show (P : Int) ^ 2 = P * P by grind]; omega
  have q3 : 27 ≤ (P : Int) ^ 3 := by
    have := Int.mul_le_mul q2 (show (3 : Int) ≤ P by omega) (by omega) (by omega)
    rw [show (P : Int) ^ 3 = P ^ 2 * P by grind]; omega
  obtain ⟨⟨h1, h2, h3'⟩, h4, h6⟩ := hL
  have k2 : -1000 ≤ a2 (sh L r s t) ∧ a2 (sh L r s t) ≤ 1000 := by
    simp only [sh, a1, a2, a3, a4, a6] at *
    have m1 := mb (X := 30) (Y := 1) (x := s) (y := L.1) (by omega) (by omega)
    have m2 := mb (X := 29) (Y := 29) (x := s) (y := s) (by omega) (by omega)
    omega
  have k4 : -7100000 ≤ a4 (sh L r s t) ∧ a4 (sh L r s t) ≤ 7100000 := by
    simp only [sh, a1, a2, a3, a4, a6] at *
    have m1 := mb (X := 30) (Y := 1) (x := s) (y := L.2.2.1) (by omega) (by omega)
    have m2 := mb (X := 60) (Y := 1) (x := 2 * r) (y := L.2.1) (by omega) (by omega)
    have m3 := mb (X := 30) (Y := 30) (x := r) (y := s) (by omega) (by omega)
    have m4 := mb (X := 2000) (Y := 1) (x := t + r * s) (y := L.1) (by omega) (by omega)
    have m5 := mb (X := 90) (Y := 30) (x := 3 * r) (y := r) (by omega) (by omega)
    have m6 := mb (X := 60) (Y := 900) (x := 2 * s) (y := t) (by omega) (by omega)
    omega
  have k6 : -7230000000 ≤ a6 (sh L r s t) ∧ a6 (sh L r s t) ≤ 7230000000 := by
    simp only [sh, a1, a2, a3, a4, a6] at *
    have m1 := mb (X := 30) (Y := 7000000) (x := r) (y := L.2.2.2.1) (by omega) (by omega)
    have m2 := mb (X := 30) (Y := 30) (x := r) (y := r) (by omega) (by omega)
    have m3 := mb m2 (show -1 ≤ L.2.1 ∧ L.2.1 ≤ 1 by omega)
    have m4 := mb m2 (show -30 ≤ r ∧ r ≤ 30 by omega)
    have m5 := mb (X := 900) (Y := 1) (x := t) (y := L.2.2.1) (by omega) (by omega)
    have m6 := mb (X := 900) (Y := 900) (x := t) (y := t) (by omega) (by omega)
    have m7 := mb (X := 30) (Y := 900) (x := r) (y := t) (by omega) (by omega)
    have m8 := mb m7 (show -1 ≤ L.1 ∧ L.1 ≤ 1 by omega)
    omega
  rw [e2] at k2; rw [e4] at k4; rw [e6] at k6
  have d2 := dv_bnd (m := 3) (by omega) (show (3 : Int) ≤ P by omega) k2
  have d4 := dv_bnd (m := 9) (by omega) q2 k4
  have d6 := dv_bnd (m := 27) (by omega) q3 k6
  omega
theorem cubD_rng {b c d : Int} (hb : -400 ≤ b ∧ b ≤ 400) (hc : -800000 ≤ c ∧ c ≤ 800000) (hd : -268000000 ≤ d ∧ d ≤ 268000000) : inR (18 * b * c * d + b * b * c * c - 4 * b * b * b * d - 4 * c * c * c - 27 * d * d) := by
  have m1 := mb (mb (mb (X := 18) (Y := 400) (x := 18) (y := b) (by omega) hb) hc) hd
  have m2 := mb (mb (mb hb hb) hc) hc
  have m3 := mb (mb (mb (mb (X := 4) (Y := 400) (x := 4) (y := b) (by omega) hb) hb) hb) hd
  have m4 := mb (mb (mb (X := 4) (Y := 800000) (x := 4) (y := c) (by omega) hc) hc) hc
  have m5 := mb (mb (X := 27) (Y := 268000000) (x := 27) (y := d) (by omega) hd) hd
  exact ⟨by omega, by omega⟩
