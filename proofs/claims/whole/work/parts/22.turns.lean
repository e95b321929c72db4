/-! the cubic, the turns of a star, the late kinds -/
theorem cubD_sh {p b c d b' c' d' ρ : Int} (hb : p ∣ b' - (b + 3 * ρ)) (hc : p ∣ c' - (c + 2 * ρ * b + 3 * ρ * ρ)) (hd : p ∣ d' - (d + ρ * c + ρ * ρ * b + ρ * ρ * ρ)) : p ∣ cubD b c d ↔ p ∣ cubD b' c' d' := by
  obtain ⟨x, hx⟩ := hb
  obtain ⟨y, hy⟩ := hc
  obtain ⟨w, hw⟩ := hd
  have e1 : b' = b + 3 * ρ + p * x := by omega
  have e2 : c' = c + 2 * ρ * b + 3 * ρ * ρ + p * y := by omega
  have e3 : d' = d + ρ * c + ρ * ρ * b + ρ * ρ * ρ + p * w := by omega
  have e0 : cubD (b + 3 * ρ) (c + 2 * ρ * b + 3 * ρ * ρ) (d + ρ * c + ρ * ρ * b + ρ * ρ * ρ) = cubD b c d := by unfold cubD; grind
  rw [← e0]
  generalize b + 3 * ρ = B at *
  generalize c + 2 * ρ * b + 3 * ρ * ρ = C at *
  generalize d + ρ * c + ρ * ρ * b + ρ * ρ * ρ = D at *
  subst e1; subst e2; subst e3
  apply dv_iff
  unfold cubD
  refine ⟨18 * (x * C * D + B * y * D + B * C * w + p * (x * y * D + x * C * w + B * y * w) + p * p * x * y * w) + (2 * B * x + p * x * x) * (C + p * y) * (C + p * y) + B * B * (2 * C * y + p * y * y) - 4 * ((3 * B * B * x + 3 * p * B * x * x + p * p * x * x * x) * (D + p * w) + B * B * B * w) - 4 * (3 * C * C * y + 3 * p * C * y * y + p * p * y * y * y) - 27 * (2 * D * w + p * w * w), ?_⟩
  grind
theorem cubT_sh {p b c b' c' ρ : Int} (hb : p ∣ b' - (b + 3 * ρ)) (hc : p ∣ c' - (c + 2 * ρ * b + 3 * ρ * ρ)) : p ∣ b * b - 3 * c ↔ p ∣ b' * b' - 3 * c' := by
  obtain ⟨x, hx⟩ := hb
  obtain ⟨y, hy⟩ := hc
  have e1 : b' = b + 3 * ρ + p * x := by omega
  have e2 : c' = c + 2 * ρ * b + 3 * ρ * ρ + p * y := by omega
  subst e1; subst e2
  apply dv_iff
  exact ⟨2 * (b + 3 * ρ) * x + p * x * x - 3 * y, by grind⟩
theorem cub_sh {p b c d b' c' d' ρ : Int} (hb : p ∣ b' - (b + 3 * ρ)) (hc : p ∣ c' - (c + 2 * ρ * b + 3 * ρ * ρ)) (hd : p ∣ d' - (d + ρ * c + ρ * ρ * b + ρ * ρ * ρ)) (T : Int) : p ∣ cub b c d (T + ρ) ↔ p ∣ cub b' c' d' T := by
  obtain ⟨x, hx⟩ := hb
  obtain ⟨y, hy⟩ := hc
  obtain ⟨w, hw⟩ := hd
  have e1 : b' = b + 3 * ρ + p * x := by omega
  have e2 : c' = c + 2 * ρ * b + 3 * ρ * ρ + p * y := by omega
  have e3 : d' = d + ρ * c + ρ * ρ * b + ρ * ρ * ρ + p * w := by omega
  subst e1; subst e2; subst e3
  apply dv_iff
  unfold cub
  exact ⟨x * T * T + y * T + w, by grind⟩
/-- at a turn of an odd number, of an even one; where the root is triple, and behind its first step -/
def NO (p : Int) (e : Nat) (E : Cv) : Prop := p ∣ a1 E ∧ p ∣ a2 E ∧ p ^ e ∣ a3 E ∧ p ^ (e + 1) ∣ a4 E ∧ p ^ (2 * e) ∣ a6 E
def NE (p : Int) (e : Nat) (E : Cv) : Prop := p ∣ a1 E ∧ p ∣ a2 E ∧ p ^ e ∣ a3 E ∧ p ^ e ∣ a4 E ∧ p ^ (2 * e - 1) ∣ a6 E
/-- the quadratic of a turn moves with the equation -/
theorem NO_q {p : Int} (hp0 : p ≠ 0) {e : Nat} (he : 1 ≤ e) {E : Cv} {r s t α γ α' γ' : Int} (h1 : p ∣ a1 E) (h2 : p ∣ a2 E) (h4 : p ^ (e + 1) ∣ a4 E) (hr : p ^ e ∣ r) (ht : p ^ e ∣ t) (eα : a3 E = p ^ e * α) (eγ : a6 E = p ^ (2 * e) * γ) (eα' : a3 (sh E r s t) = p ^ e * α') (eγ' : a6 (sh E r s t) = p ^ (2 * e) * γ') :
    ∃ τ, t = p ^ e * τ ∧ p ∣ α' - (α + 2 * τ) ∧ p ∣ γ' - (γ - τ * α - τ * τ) := by
  obtain ⟨ρ, rfl⟩ := hr
  obtain ⟨τ, rfl⟩ := ht
  obtain ⟨η, h1⟩ := h1
  obtain ⟨δ, h2⟩ := h2
  obtain ⟨β, h4⟩ := h4
  simp only [sh, a1, a2, a3, a4, a6] at *
  rw [h1, eα] at eα'
  rw [h1, h2, h4, eα, eγ] at eγ'
  have hq : p ^ e ≠ 0 := Int.pow_ne_zero hp0
  have e3 : p ^ (2 * e) = p ^ e * p ^ e := by rw [← Int.pow_add]; congr 1; omega
  have e4 : p ^ (e + 1) = p ^ e * p := Int.pow_succ p e
  obtain ⟨k, rfl⟩ : ∃ k, e = k + 1 := ⟨e - 1, by omega⟩
  have e5 : p ^ (k + 1) = p * p ^ k := by rw [Int.pow_succ, Int.mul_comm]
  rw [e3] at eγ'
  rw [e4] at eγ'
  generalize hP : p ^ (k + 1) = P at *
  generalize p ^ k = K at *
  refine ⟨τ, rfl, ⟨ρ * η, ?_⟩, ⟨ρ * β + ρ * ρ * δ + K * ρ * ρ * ρ - ρ * τ * η, ?_⟩⟩
  · apply Int.eq_of_mul_eq_mul_left hq; clear eγ' h1 h2 h4 eα eγ e3 e4 e5 hP; grind
  · apply Int.eq_of_mul_eq_mul_left hq; apply Int.eq_of_mul_eq_mul_left hq; clear eα' h1 h2 h4 eα eγ e3 e4 hP; subst e5; grind
theorem NE_q {p : Int} (hp0 : p ≠ 0) {e : Nat} (he : 3 ≤ e) {E : Cv} {r s t δ β γ δ' β' γ' : Int} (h1 : p ∣ a1 E) (h3 : p ^ e ∣ a3 E) (hr : p ^ (e - 1) ∣ r) (hs : p ∣ s) (ht : p ^ e ∣ t) (eδ : a2 E = p * δ) (eβ : a4 E = p ^ e * β) (eγ : a6 E = p ^ (2 * e - 1) * γ) (eδ' : a2 (sh E r s t) = p * δ') (eβ' : a4 (sh E r s t) = p ^ e * β') (eγ' : a6 (sh E r s t) = p ^ (2 * e - 1) * γ') :
    ∃ ρ, r = p ^ (e - 1) * ρ ∧ p ∣ δ' - δ ∧ p ∣ β' - (β + 2 * ρ * δ) ∧ p ∣ γ' - (γ + ρ * β + ρ * ρ * δ) := by
  obtain ⟨ρ, rfl⟩ := hr
  obtain ⟨τ, rfl⟩ := ht
  obtain ⟨σ, rfl⟩ := hs
  obtain ⟨η, h1⟩ := h1
  obtain ⟨α, h3⟩ := h3
  obtain ⟨k, rfl⟩ : ∃ k, e = k + 3 := ⟨e - 3, by omega⟩
  have q1 : p ^ (k + 3) = p * p * p * p ^ k := by rw [Int.pow_succ, Int.pow_succ, Int.pow_succ]; grind
  have q2 : p ^ (k + 3 - 1) = p * p * p ^ k := by rw [show k + 3 - 1 = k + 1 + 1 by omega, Int.pow_succ, Int.pow_succ]; grind
  have q3 : p ^ (2 * (k + 3) - 1) = p * p * p * p * p * (p ^ k * p ^ k) := by rw [show 2 * (k + 3) - 1 = (k + k) + 1 + 1 + 1 + 1 + 1 by omega, Int.pow_succ, Int.pow_succ, Int.pow_succ, Int.pow_succ, Int.pow_succ, Int.pow_add]; grind
  have hK : p ^ k ≠ 0 := Int.pow_ne_zero hp0
  simp only [sh, a1, a2, a3, a4, a6] at *
  rw [h1, eδ, q2] at eδ'
  rw [h1, h3, eδ, eβ, q1, q2] at eβ'
  rw [h1, h3, eδ, eβ, eγ, q1, q2, q3] at eγ'
  rw [q2]
  generalize p ^ k = K at *
  clear q1 q2 q3 h1 h3 eδ eβ eγ
  refine ⟨ρ, rfl, ⟨-σ * η + 3 * K * ρ - σ * σ, ?_⟩, ⟨-σ * α - τ * η - ρ * σ * η + 3 * K * ρ * ρ - 2 * σ * τ, ?_⟩, ⟨K * ρ * ρ * ρ - τ * α - τ * τ - ρ * τ * η, ?_⟩⟩
  · apply Int.eq_of_mul_eq_mul_left hp0; clear eβ' eγ'; grind
  · apply Int.eq_of_mul_eq_mul_left (Int.mul_ne_zero (Int.mul_ne_zero (Int.mul_ne_zero hp0 hp0) hp0) hK); clear eδ' eγ'; grind
  · apply Int.eq_of_mul_eq_mul_left (Int.mul_ne_zero (Int.mul_ne_zero (Int.mul_ne_zero (Int.mul_ne_zero (Int.mul_ne_zero hp0 hp0) hp0) hp0) hp0) (Int.mul_ne_zero hK hK)); clear eδ' eβ'; grind
