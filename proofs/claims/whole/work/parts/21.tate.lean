/-! Tate's list at 2 and 3: the same for two equations that differ by a shift -/
theorem md2 (x : Int) : ∃ q i : Int, x = 2 * q + i ∧ (i = 0 ∨ i = 1) := ⟨x / 2, x % 2, by omega, by omega⟩
theorem md3 (x : Int) : ∃ q i : Int, x = 3 * q + i ∧ (i = 0 ∨ i = 1 ∨ i = 2) := ⟨x / 3, x % 3, by omega, by omega⟩
theorem sq_dv {p : Int} (hp : p = 2 ∨ p = 3) {x : Int} (h : p ∣ x * x) : p ∣ x := by
  rcases hp with rfl | rfl
  · obtain ⟨q, i, rfl, hi⟩ := md2 x
    rcases hi with rfl | rfl <;> grind
  · obtain ⟨q, i, rfl, hi⟩ := md3 x
    rcases hi with rfl | rfl | rfl <;> grind
/-- the point that is none lies at 0, 0 modulo p -/
def N1 (p : Int) (E : Cv) : Prop := p ∣ a3 E ∧ p ∣ a4 E ∧ p ∣ a6 E
theorem n1_two (A1 A2 r s t : Int) (h3 : (2 : Int) ∣ r * A1 + 2 * t) (h4 : (2 : Int) ∣ 2 * r * A2 - (t + r * s) * A1 + 3 * r * r - 2 * s * t) (h6 : (2 : Int) ∣ r * r * A2 + r * r * r - t * t - r * t * A1) : (2 : Int) ∣ r ∧ (2 : Int) ∣ t := by
  obtain ⟨q1, i1, rfl, e1⟩ := md2 A1
  obtain ⟨q2, i2, rfl, e2⟩ := md2 A2
  obtain ⟨q3, i3, rfl, e3⟩ := md2 r
  obtain ⟨q4, i4, rfl, e4⟩ := md2 s
  obtain ⟨q5, i5, rfl, e5⟩ := md2 t
  rcases e1 with rfl | rfl <;> rcases e2 with rfl | rfl <;> rcases e3 with rfl | rfl <;> rcases e4 with rfl | rfl <;> rcases e5 with rfl | rfl <;> grind
theorem n1_three (A1 A2 r s t : Int) (h3 : (3 : Int) ∣ r * A1 + 2 * t) (h4 : (3 : Int) ∣ 2 * r * A2 - (t + r * s) * A1 + 3 * r * r - 2 * s * t) (h6 : (3 : Int) ∣ r * r * A2 + r * r * r - t * t - r * t * A1) : (3 : Int) ∣ r ∧ (3 : Int) ∣ t := by
  obtain ⟨q1, i1, rfl, e1⟩ := md3 A1
  obtain ⟨q2, i2, rfl, e2⟩ := md3 A2
  obtain ⟨q3, i3, rfl, e3⟩ := md3 r
  obtain ⟨q4, i4, rfl, e4⟩ := md3 s
  obtain ⟨q5, i5, rfl, e5⟩ := md3 t
  rcases e1 with rfl | rfl | rfl <;> rcases e2 with rfl | rfl | rfl <;> rcases e3 with rfl | rfl | rfl <;> rcases e4 with rfl | rfl | rfl <;> rcases e5 with rfl | rfl | rfl <;> grind
/-- two equations with the point at 0, 0: the shift between them is one by numbers that p goes in -/
theorem N1_sh {p : Int} (hp : p = 2 ∨ p = 3) {E : Cv} {r s t : Int} (h : N1 p E) (h' : N1 p (sh E r s t)) : p ∣ r ∧ p ∣ t := by
  obtain ⟨⟨c3, e3⟩, ⟨c4, e4⟩, ⟨c6, e6⟩⟩ := h
  obtain ⟨⟨d3, f3⟩, ⟨d4, f4⟩, ⟨d6, f6⟩⟩ := h'
  simp only [sh, a1, a2, a3, a4, a6] at e3 e4 e6 f3 f4 f6
  rw [e3] at f3 f4 f6
  rw [e4] at f4 f6
  rw [e6] at f6
  have g3 : p ∣ r * E.1 + 2 * t := ⟨d3 - c3, by grind⟩
  have g4 : p ∣ 2 * r * E.2.1 - (t + r * s) * E.1 + 3 * r * r - 2 * s * t := ⟨d4 - c4 + s * c3, by grind⟩
  have g6 : p ∣ r * r * E.2.1 + r * r * r - t * t - r * t * E.1 := ⟨d6 - c6 - r * c4 + t * c3, by grind⟩
  rcases hp with rfl | rfl
  · exact n1_two _ _ _ _ _ g3 g4 g6
  · exact n1_three _ _ _ _ _ g3 g4 g6
theorem dv_iff {m x y : Int} (h : m ∣ y - x) : m ∣ x ↔ m ∣ y := by
  constructor
  · intro h1; have := Int.dvd_add h h1; rwa [Int.sub_add_cancel] at this
  · intro h1; have := Int.dvd_sub h1 h; rwa [Int.sub_sub_self] at this
theorem b2_dv {p : Int} (hp : p = 2 ∨ p = 3) (E : Cv) (r s t : Int) : p ∣ b2 E ↔ p ∣ b2 (sh E r s t) := by
  apply dv_iff; rw [b2_sh]; rcases hp with rfl | rfl
  · exact ⟨6 * r, by grind⟩
  · exact ⟨4 * r, by grind⟩
/-- II: whether p p goes in a6 -/
theorem a6_dv {p : Int} {E : Cv} {r s t : Int} (h : N1 p E) (hr : p ∣ r) (ht : p ∣ t) : p ^ 2 ∣ a6 E ↔ p ^ 2 ∣ a6 (sh E r s t) := by
  obtain ⟨⟨c3, e3⟩, ⟨c4, e4⟩, -⟩ := h
  obtain ⟨u, rfl⟩ := hr
  obtain ⟨v, rfl⟩ := ht
  apply dv_iff
  simp only [sh, a1, a2, a3, a4, a6] at *
  rw [e3, e4]
  exact ⟨u * c4 + u * u * E.2.1 + p * u * u * u - v * c3 - v * v - u * v * E.1, by grind⟩
/-- III -/
theorem b8_dv {p : Int} {E : Cv} {r s t : Int} (h : N1 p E) (hr : p ∣ r) (h6 : p ^ 2 ∣ a6 E) : p ^ 3 ∣ b8 E ↔ p ^ 3 ∣ b8 (sh E r s t) := by
  obtain ⟨⟨c3, e3⟩, ⟨c4, e4⟩, -⟩ := h
  obtain ⟨u, rfl⟩ := hr
  obtain ⟨w, e6⟩ := h6
  apply dv_iff
  rw [b8_sh]
  have k6 : b6 E = p ^ 2 * (c3 * c3 + 4 * w) := by unfold b6; rw [e3, e6]; grind
  have k4 : b4 E = p * (E.1 * c3 + 2 * c4) := by unfold b4; rw [e3, e4]; grind
  rw [k6, k4]
  exact ⟨3 * u * (c3 * c3 + 4 * w) + 3 * u * u * (E.1 * c3 + 2 * c4) + u * u * u * b2 E + 3 * p * u * u * u * u, by grind⟩
theorem b4_sq {p : Int} (hp : p = 2 ∨ p = 3) {E : Cv} (h : N1 p E) (h2 : p ∣ b2 E) (h6 : p ^ 2 ∣ a6 E) (h8 : p ^ 3 ∣ b8 E) : p ^ 2 ∣ b4 E := by
  obtain ⟨⟨c3, e3⟩, ⟨c4, e4⟩, -⟩ := h
  obtain ⟨w, e6⟩ := h6
  obtain ⟨x, e8⟩ := h8
  obtain ⟨y, e2⟩ := h2
  have k6 : b6 E = p ^ 2 * (c3 * c3 + 4 * w) := by unfold b6; rw [e3, e6]; grind
  have k4 : b4 E = p * (E.1 * c3 + 2 * c4) := by unfold b4; rw [e3, e4]; grind
  have hs := b_syz E
  rw [e8, e2, k6, k4] at hs
  rw [k4]
  generalize E.1 * c3 + 2 * c4 = g at *
  generalize c3 * c3 + 4 * w = f at *
  have : p ∣ g * g := by
    refine ⟨y * f - 4 * x, ?_⟩
    rcases hp with rfl | rfl <;> grind
  obtain ⟨k, hk⟩ := sq_dv hp this
  exact ⟨k, by rw [hk]; grind⟩
/-- IV -/
theorem b6_dv {p : Int} (hp : p = 2 ∨ p = 3) {E : Cv} {r s t : Int} (h : N1 p E) (hr : p ∣ r) (h2 : p ∣ b2 E) (h6 : p ^ 2 ∣ a6 E) (h8 : p ^ 3 ∣ b8 E) : p ^ 3 ∣ b6 E ↔ p ^ 3 ∣ b6 (sh E r s t) := by
  obtain ⟨x, e4⟩ := b4_sq hp h h2 h6 h8
  obtain ⟨u, rfl⟩ := hr
  obtain ⟨y, e2⟩ := h2
  apply dv_iff
  rw [b6_sh, e4, e2]
  exact ⟨2 * u * x + u * u * y + 4 * u * u * u, by grind⟩
/-- a quadratic is 0 for some number modulo p -/
def qr (p x y z : Int) : Prop := ∃ T : Int, p ∣ x * T * T + y * T + z
theorem qr3 (y z : Int) : qr 3 1 y z ↔ ¬ (3 : Int) ∣ y * y - 4 * z - 2 := by
  constructor
  · rintro ⟨T, h⟩
    obtain ⟨q1, i1, rfl, e1⟩ := md3 y
    obtain ⟨q2, i2, rfl, e2⟩ := md3 z
    obtain ⟨q3, i3, rfl, e3⟩ := md3 T
    rcases e1 with rfl | rfl | rfl <;> rcases e2 with rfl | rfl | rfl <;> rcases e3 with rfl | rfl | rfl <;> grind
  · intro h
    obtain ⟨q1, i1, rfl, e1⟩ := md3 y
    obtain ⟨q2, i2, rfl, e2⟩ := md3 z
    by_cases h0 : (3 : Int) ∣ 1 * 0 * 0 + (3 * q1 + i1) * 0 + (3 * q2 + i2)
    · exact ⟨0, h0⟩
    by_cases h1 : (3 : Int) ∣ 1 * 1 * 1 + (3 * q1 + i1) * 1 + (3 * q2 + i2)
    · exact ⟨1, h1⟩
    by_cases h2 : (3 : Int) ∣ 1 * 2 * 2 + (3 * q1 + i1) * 2 + (3 * q2 + i2)
    · exact ⟨2, h2⟩
    exfalso
    rcases e1 with rfl | rfl | rfl <;> rcases e2 with rfl | rfl | rfl <;> grind
theorem qr2 (y z : Int) : qr 2 1 y z ↔ (2 : Int) ∣ y * z ∨ (2 : Int) ∣ z := by
  constructor
  · rintro ⟨T, h⟩
    obtain ⟨q1, i1, rfl, e1⟩ := md2 y
    obtain ⟨q2, i2, rfl, e2⟩ := md2 z
    obtain ⟨q3, i3, rfl, e3⟩ := md2 T
    rcases e1 with rfl | rfl <;> rcases e2 with rfl | rfl <;> rcases e3 with rfl | rfl <;> grind
  · intro h
    obtain ⟨q1, i1, rfl, e1⟩ := md2 y
    obtain ⟨q2, i2, rfl, e2⟩ := md2 z
    by_cases h0 : (2 : Int) ∣ 1 * 0 * 0 + (2 * q1 + i1) * 0 + (2 * q2 + i2)
    · exact ⟨0, h0⟩
    by_cases h1 : (2 : Int) ∣ 1 * 1 * 1 + (2 * q1 + i1) * 1 + (2 * q2 + i2)
    · exact ⟨1, h1⟩
    exfalso
    rcases e1 with rfl | rfl <;> rcases e2 with rfl | rfl <;> grind
theorem even_a1 {E : Cv} (h : (2 : Int) ∣ b2 E) : (2 : Int) ∣ a1 E := by
  apply sq_dv (Or.inl rfl)
  obtain ⟨k, hk⟩ := h
  unfold b2 at hk
  exact ⟨k - 2 * a2 E, by grind⟩
/-- IV: whether the quadratic splits -/
theorem iv_qr {p : Int} (hp : p = 2 ∨ p = 3) {E : Cv} {r s t α δ α' δ' : Int} (h : N1 p E) (hr : p ∣ r) (ht : p ∣ t) (h2 : p ∣ b2 E) (h6 : p ^ 2 ∣ a6 E) (h8 : p ^ 3 ∣ b8 E) (n6 : ¬ p ^ 3 ∣ b6 E) (eα : a3 E = p * α) (eδ : a6 E = p ^ 2 * δ) (eα' : a3 (sh E r s t) = p * α') (eδ' : a6 (sh E r s t) = p ^ 2 * δ') : qr p 1 α (-δ) ↔ qr p 1 α' (-δ') := by
  have hb := b6_dv (s := s) (t := t) hp h hr h2 h6 h8
  rcases hp with rfl | rfl
  · have ha1 := even_a1 h2
    obtain ⟨-, ⟨c4, e4⟩, -⟩ := h
    obtain ⟨u, rfl⟩ := hr
    obtain ⟨v, rfl⟩ := ht
    obtain ⟨η, e1⟩ := ha1
    obtain ⟨x, e8⟩ := h8
    have hα : ¬ (2 : Int) ∣ α := by
      intro ⟨k, hk⟩
      apply n6
      refine ⟨2 * k * k + 2 * δ, ?_⟩
      unfold b6; rw [eα, eδ, hk]; grind
    have hc : (2 : Int) ∣ c4 - a2 E * α := by
      unfold b8 at e8
      rw [e1, eα, e4, eδ] at e8
      generalize a2 E = A2 at *
      obtain ⟨q1, i1, rfl, f1⟩ := md2 A2
      obtain ⟨q2, i2, rfl, f2⟩ := md2 α
      obtain ⟨q3, i3, rfl, f3⟩ := md2 c4
      rcases f1 with rfl | rfl <;> rcases f2 with rfl | rfl <;> rcases f3 with rfl | rfl <;> grind
    have k1 : α' = α + u * a1 E + 2 * v := by
      have : 2 * α' = 2 * (α + u * a1 E + 2 * v) := by rw [← eα']; simp only [sh, a3, a1] at *; rw [eα]; grind
      omega
    have k2 : δ' = δ + u * c4 + u * u * a2 E + 2 * u * u * u - v * α - v * v - u * v * a1 E := by
      have : 4 * δ' = 4 * (δ + u * c4 + u * u * a2 E + 2 * u * u * u - v * α - v * v - u * v * a1 E) := by
        have := eδ'; simp only [sh, a3, a1, a2, a4, a6] at *; rw [eα, e4, eδ] at this; grind
      omega
    rw [qr2, qr2, k1, k2, e1]
    generalize a2 E = A2 at *
    obtain ⟨w, hw⟩ := hc
    have hc4 : c4 = A2 * α + 2 * w := by omega
    subst hc4
    obtain ⟨q1, i1, rfl, f1⟩ := md2 A2
    obtain ⟨q2, i2, rfl, f2⟩ := md2 α
    obtain ⟨q3, i3, rfl, f3⟩ := md2 δ
    obtain ⟨q4, i4, rfl, f4⟩ := md2 u
    obtain ⟨q5, i5, rfl, f5⟩ := md2 v
    rcases f2 with rfl | rfl
    · exact absurd ⟨q2, by omega⟩ hα
    rcases f1 with rfl | rfl <;> rcases f3 with rfl | rfl <;> rcases f4 with rfl | rfl <;> rcases f5 with rfl | rfl <;> grind
  · have e6 : b6 (sh E r s t) - b6 E = 9 * ((α' * α' + 4 * δ') - (α * α + 4 * δ)) := by unfold b6; rw [eα, eδ, eα', eδ']; grind
    have e7 : (27 : Int) ∣ b6 (sh E r s t) - b6 E := by
      obtain ⟨x, e4⟩ := b4_sq (Or.inr rfl) h h2 h6 h8
      obtain ⟨u, rfl⟩ := hr
      obtain ⟨y, e2⟩ := h2
      rw [b6_sh, e4, e2]
      exact ⟨2 * u * x + u * u * y + 4 * u * u * u, by grind⟩
    rw [qr3, qr3]
    obtain ⟨k, hk⟩ := e7
    have : (α' * α' + 4 * δ') = (α * α + 4 * δ) + 3 * k := by omega
    apply not_congr
    apply dv_iff
    exact ⟨k, by grind⟩
/-- flat -/
def FL (p : Int) (E : Cv) : Prop := p ∣ a1 E ∧ p ∣ a2 E ∧ p ^ 2 ∣ a3 E ∧ p ^ 2 ∣ a4 E ∧ p ^ 3 ∣ a6 E
theorem FL.n1 {p : Int} {E : Cv} (h : FL p E) : N1 p E := by
  obtain ⟨-, -, ⟨x, h3⟩, ⟨y, h4⟩, ⟨w, h6⟩⟩ := h
  exact ⟨⟨p * x, by rw [h3]; grind⟩, ⟨p * y, by rw [h4]; grind⟩, ⟨p ^ 2 * w, by rw [h6]; grind⟩⟩
theorem FL_sh {p : Int} (hp : p = 2 ∨ p = 3) {E : Cv} {r s t : Int} (h : FL p E) (h' : FL p (sh E r s t)) : p ∣ r ∧ p ∣ s ∧ p ^ 2 ∣ t := by
  obtain ⟨hr, ht⟩ := N1_sh hp h.n1 h'.n1
  obtain ⟨u, rfl⟩ := hr
  obtain ⟨v, rfl⟩ := ht
  obtain ⟨⟨x1, h1⟩, ⟨x2, h2⟩, ⟨x3, h3⟩, ⟨x4, h4⟩, ⟨x6, h6⟩⟩ := h
  obtain ⟨⟨y1, g1⟩, ⟨y2, g2⟩, ⟨y3, g3⟩, ⟨y4, g4⟩, ⟨y6, g6⟩⟩ := h'
  simp only [sh, a1, a2, a3, a4, a6] at *
  rw [h1] at g1 g2 g3 g4 g6
  rw [h2] at g2 g4 g6
  rw [h3] at g3 g4 g6
  rw [h4] at g4 g6
  rw [h6] at g6
  refine ⟨⟨u, rfl⟩, ?_, ?_⟩
  · apply sq_dv hp
    exact ⟨x2 - s * x1 + 3 * u - y2, by clear hp g1 g3 g4 g6 h1 h2 h3 h4 h6; grind⟩
  · rcases hp with rfl | rfl
    · have : (2 : Int) ∣ v * v := ⟨x6 + u * x4 + u * u * x2 + u * u * u - v * x3 - u * v * x1 - y6, by grind⟩
      obtain ⟨k, hk⟩ := sq_dv (Or.inl rfl) this
      exact ⟨k, by rw [hk]; grind⟩
    · have : (3 : Int) ∣ v := ⟨v - y3 + x3 + u * x1, by clear g1 g2 g4 g6 h1 h2 h3 h4 h6; grind⟩
      obtain ⟨k, hk⟩ := this
      exact ⟨k, by rw [hk]; grind⟩
/-- the cubic T T T + b T T + c T + d of a flat equation -/
def cub (b c d T : Int) : Int := T * T * T + b * T * T + c * T + d
def cubD (b c d : Int) : Int := 18 * b * c * d + b * b * c * c - 4 * b * b * b * d - 4 * c * c * c - 27 * d * d
theorem FL_cub {p : Int} (hp0 : p ≠ 0) {E : Cv} {r s t b c d b' c' d' : Int} (h1 : p ∣ a1 E) (h3 : p ^ 2 ∣ a3 E) (hr : p ∣ r) (hs : p ∣ s) (ht : p ^ 2 ∣ t) (eb : a2 E = p * b) (ec : a4 E = p ^ 2 * c) (ed : a6 E = p ^ 3 * d) (eb' : a2 (sh E r s t) = p * b') (ec' : a4 (sh E r s t) = p ^ 2 * c') (ed' : a6 (sh E r s t) = p ^ 3 * d') :
    ∃ ρ, r = p * ρ ∧ p ∣ b' - (b + 3 * ρ) ∧ p ∣ c' - (c + 2 * ρ * b + 3 * ρ * ρ) ∧ p ∣ d' - (d + ρ * c + ρ * ρ * b + ρ * ρ * ρ) := by
  obtain ⟨ρ, rfl⟩ := hr
  obtain ⟨σ, rfl⟩ := hs
  obtain ⟨τ, rfl⟩ := ht
  obtain ⟨x1, h1⟩ := h1
  obtain ⟨x3, h3⟩ := h3
  simp only [sh, a1, a2, a3, a4, a6] at *
  rw [h1, eb] at eb'
  rw [h1, eb, ec, h3] at ec'
  rw [h1, eb, ec, ed, h3] at ed'
  refine ⟨ρ, rfl, ⟨-σ * x1 - σ * σ, ?_⟩, ⟨-σ * x3 - τ * x1 - ρ * σ * x1 - 2 * σ * τ, ?_⟩, ⟨-τ * x3 - τ * τ - ρ * τ * x1, ?_⟩⟩
  · apply Int.eq_of_mul_eq_mul_left hp0; clear ec' ed' h1 h3 eb ec ed; grind
  · apply Int.eq_of_mul_eq_mul_left (Int.pow_ne_zero (m := 2) hp0); clear eb' ed' h1 h3 eb ec ed; grind
  · apply Int.eq_of_mul_eq_mul_left (Int.pow_ne_zero (m := 3) hp0); clear eb' ec' h1 h3 eb ec ed; grind
