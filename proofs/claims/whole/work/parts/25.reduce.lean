/-! the equation with small coefficients, which c4 and c6 tell; Kraus's conditions -/
def ldb (y : Int) : Int := if 6 < (-y) % 12 then (-y) % 12 - 12 else (-y) % 12
def lead (x y : Int) : Cv :=
  let z := ldb y
  let v := (z * z - x) / 24
  let w := (36 * z * v - z * z * z - y) / 216
  (z % 2, (z - z % 2) / 4, w % 2, (v - z % 2 * (w % 2)) / 2, (w - w % 2) / 4)
def Red (E : Cv) : Prop := (a1 E = 0 ∨ a1 E = 1) ∧ (a2 E = -1 ∨ a2 E = 0 ∨ a2 E = 1) ∧ (a3 E = 0 ∨ a3 E = 1)
theorem red_ex (E : Cv) : ∃ F : Cv, Eqv E F ∧ Red F := by
  obtain ⟨s, hs⟩ : ∃ s : Int, a1 E + 2 * s = 0 ∨ a1 E + 2 * s = 1 := ⟨-(a1 E / 2), by omega⟩
  obtain ⟨r, hr⟩ : ∃ r : Int, a2 E - s * a1 E + 3 * r - s * s = -1 ∨ a2 E - s * a1 E + 3 * r - s * s = 0 ∨ a2 E - s * a1 E + 3 * r - s * s = 1 := by
    generalize a2 E - s * a1 E = q
    generalize s * s = w
    exact ⟨-((q - w + 1) / 3), by omega⟩
  obtain ⟨t, ht⟩ : ∃ t : Int, a3 E + r * a1 E + 2 * t = 0 ∨ a3 E + r * a1 E + 2 * t = 1 := by
    generalize a3 E + r * a1 E = q
    exact ⟨-(q / 2), by omega⟩
  exact ⟨sh E r s t, ⟨r, s, t, rfl⟩, hs, hr, ht⟩
theorem ldb_red {E : Cv} (h : Red E) : ldb (c6 E) = b2 E := by
  obtain ⟨h1, h2, h3⟩ := h
  unfold c6 ldb
  generalize hv : b4 E = v
  generalize hw : b6 E = w
  have hb : b2 E = -4 ∨ b2 E = 0 ∨ b2 E = 4 ∨ b2 E = -3 ∨ b2 E = 1 ∨ b2 E = 5 := by
    unfold b2
    rcases h1 with h1 | h1 <;> rcases h2 with h2 | h2 | h2 <;> rw [h1, h2] <;> omega
  rcases hb with hb | hb | hb | hb | hb | hb <;> rw [hb] <;> split <;> omega
theorem lead_red {E : Cv} (h : Red E) : lead (c4 E) (c6 E) = E := by
  unfold lead
  rw [ldb_red h]
  obtain ⟨h1, h2, h3⟩ := h
  have e4 : (b2 E * b2 E - c4 E) / 24 = b4 E := by unfold c4; omega
  dsimp only
  rw [e4]
  have e6 : (36 * b2 E * b4 E - b2 E * b2 E * b2 E - c6 E) / 216 = b6 E := by unfold c6; omega
  rw [e6]
  have m1 : b2 E % 2 = a1 E := by unfold b2; rcases h1 with h1 | h1 <;> rw [h1] <;> omega
  have m3 : b6 E % 2 = a3 E := by unfold b6; rcases h3 with h3 | h3 <;> rw [h3] <;> omega
  rw [m1, m3]
  have q1 : a1 E * a1 E = a1 E := by rcases h1 with h1 | h1 <;> rw [h1] <;> rfl
  have q3 : a3 E * a3 E = a3 E := by rcases h3 with h3 | h3 <;> rw [h3] <;> rfl
  refine Prod.ext rfl (Prod.ext ?_ (Prod.ext rfl (Prod.ext ?_ ?_)))
  · show (b2 E - a1 E) / 4 = a2 E; unfold b2; rw [q1]; omega
  · show (b4 E - a1 E * a3 E) / 2 = a4 E; unfold b4; omega
  · show (b6 E - a3 E) / 4 = a6 E; unfold b6; rw [q3]; omega
theorem lead_eqv (E : Cv) : Eqv E (lead (c4 E) (c6 E)) := by
  obtain ⟨F, ⟨r, s, t, rfl⟩, hF⟩ := red_ex E
  have := lead_red hF
  rw [c4_sh, c6_sh] at this
  rw [this]
  exact ⟨r, s, t, rfl⟩
theorem eqv_of_c {E F : Cv} (h4 : c4 E = c4 F) (h6 : c6 E = c6 F) : Eqv E F := by
  have h1 := lead_eqv E
  have h2 := lead_eqv F
  rw [h4, h6] at h1
  exact h1.tr h2.sy
/-- Kraus's conditions -/
def K2 (x y : Int) : Prop := y % 4 = 3 ∨ (x % 16 = 0 ∧ (y % 32 = 0 ∨ y % 32 = 8))
def K3 (y : Int) : Prop := ¬ y % 9 = 0 ∨ y % 27 = 0
theorem K2_of (E : Cv) : K2 (c4 E) (c6 E) := by
  obtain ⟨q, i, e, hi⟩ := md2 (a1 E)
  rcases hi with rfl | rfl
  · right
    have e2 : b2 E = 4 * (q * q + a2 E) := by unfold b2; rw [e]; grind
    have e4 : b4 E = 2 * (q * a3 E + a4 E) := by unfold b4; rw [e]; grind
    unfold c4 c6
    rw [e2, e4]
    generalize q * q + a2 E = n
    generalize q * a3 E + a4 E = m
    have e6 : b6 E % 4 = 0 ∨ b6 E % 4 = 1 := by
      unfold b6
      obtain ⟨q', i', e', hi'⟩ := md2 (a3 E)
      rw [e']
      rcases hi' with rfl | rfl
      · left; rw [show (2 * q' + 0) * (2 * q' + 0) = 4 * (q' * q') by grind]; omega
      · right; rw [show (2 * q' + 1) * (2 * q' + 1) = 4 * (q' * q') + 4 * q' + 1 by grind]; omega
    generalize b6 E = w at *
    constructor
    · rw [show 4 * n * (4 * n) = 16 * (n * n) by grind]; omega
    · rw [show 36 * (4 * n) * (2 * m) = 32 * (9 * (n * m)) by grind, show 4 * n * (4 * n) * (4 * n) = 32 * (2 * (n * n * n)) by grind]; omega
  · left
    have e2 : b2 E = 4 * (q * q + q + a2 E) + 1 := by unfold b2; rw [e]; grind
    unfold c6
    rw [e2]
    generalize q * q + q + a2 E = n
    rw [show 36 * (4 * n + 1) * b4 E = 4 * (9 * (4 * n + 1) * b4 E) by grind, show (4 * n + 1) * (4 * n + 1) * (4 * n + 1) = 4 * (16 * (n * n * n) + 12 * (n * n) + 3 * n) + 1 by grind]
    omega
theorem K3_of (E : Cv) : K3 (c6 E) := by
  obtain ⟨q, i, e, hi⟩ := md3 (b2 E)
  unfold K3 c6
  rw [e]
  rcases hi with rfl | rfl | rfl
  · right
    rw [show 36 * (3 * q + 0) * b4 E = 27 * (4 * (q * b4 E)) by grind, show (3 * q + 0) * (3 * q + 0) * (3 * q + 0) = 27 * (q * q * q) by grind]; omega
  · left
    rw [show 36 * (3 * q + 1) * b4 E = 9 * (4 * (3 * q + 1) * b4 E) by grind, show (3 * q + 1) * (3 * q + 1) * (3 * q + 1) = 9 * (3 * (q * q * q) + 3 * (q * q) + q) + 1 by grind]; omega
  · left
    rw [show 36 * (3 * q + 2) * b4 E = 9 * (4 * (3 * q + 2) * b4 E) by grind, show (3 * q + 2) * (3 * q + 2) * (3 * q + 2) = 9 * (3 * (q * q * q) + 6 * (q * q) + 4 * q) + 8 by grind]; omega
