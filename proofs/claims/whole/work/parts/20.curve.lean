/-! curves over the whole numbers -/
abbrev Cv : Type := Int × Int × Int × Int × Int
abbrev a1 (E : Cv) : Int := E.1
abbrev a2 (E : Cv) : Int := E.2.1
abbrev a3 (E : Cv) : Int := E.2.2.1
abbrev a4 (E : Cv) : Int := E.2.2.2.1
abbrev a6 (E : Cv) : Int := E.2.2.2.2
def b2 (E : Cv) : Int := a1 E * a1 E + 4 * a2 E
def b4 (E : Cv) : Int := a1 E * a3 E + 2 * a4 E
def b6 (E : Cv) : Int := a3 E * a3 E + 4 * a6 E
def b8 (E : Cv) : Int := a1 E * a1 E * a6 E + 4 * a2 E * a6 E - a1 E * a3 E * a4 E + a2 E * a3 E * a3 E - a4 E * a4 E
def c4 (E : Cv) : Int := b2 E * b2 E - 24 * b4 E
def c6 (E : Cv) : Int := 36 * b2 E * b4 E - b2 E * b2 E * b2 E - 216 * b6 E
def dd (E : Cv) : Int := 9 * b2 E * b4 E * b6 E - b2 E * b2 E * b8 E - 8 * b4 E * b4 E * b4 E - 27 * b6 E * b6 E
/-- x, y become x + r, y + s x + t -/
def sh (E : Cv) (r s t : Int) : Cv :=
  (a1 E + 2 * s, a2 E - s * a1 E + 3 * r - s * s, a3 E + r * a1 E + 2 * t, a4 E - s * a3 E + 2 * r * a2 E - (t + r * s) * a1 E + 3 * r * r - 2 * s * t, a6 E + r * a4 E + r * r * a2 E + r * r * r - t * a3 E - t * t - r * t * a1 E)
def sc (E : Cv) (u : Int) : Cv := (u * a1 E, u ^ 2 * a2 E, u ^ 3 * a3 E, u ^ 4 * a4 E, u ^ 6 * a6 E)
theorem b_syz (E : Cv) : 4 * b8 E = b2 E * b6 E - b4 E * b4 E := by unfold b8 b2 b4 b6; grind
theorem b2_sh (E : Cv) (r s t : Int) : b2 (sh E r s t) = b2 E + 12 * r := by unfold b2 sh; grind
theorem b4_sh (E : Cv) (r s t : Int) : b4 (sh E r s t) = b4 E + r * b2 E + 6 * r * r := by unfold b4 b2 sh; grind
theorem b6_sh (E : Cv) (r s t : Int) : b6 (sh E r s t) = b6 E + 2 * r * b4 E + r * r * b2 E + 4 * r * r * r := by unfold b6 b4 b2 sh; grind
theorem b8_sh (E : Cv) (r s t : Int) : b8 (sh E r s t) = b8 E + 3 * r * b6 E + 3 * r * r * b4 E + r * r * r * b2 E + 3 * r * r * r * r := by
  have h1 := b_syz (sh E r s t)
  have h2 := b_syz E
  rw [b2_sh, b4_sh, b6_sh] at h1
  generalize b8 (sh E r s t) = x at *
  generalize b8 E = y at *
  generalize b2 E = u at *
  generalize b4 E = v at *
  generalize b6 E = w at *
  grind
theorem c4_sh (E : Cv) (r s t : Int) : c4 (sh E r s t) = c4 E := by unfold c4; rw [b2_sh, b4_sh]; grind
theorem c6_sh (E : Cv) (r s t : Int) : c6 (sh E r s t) = c6 E := by unfold c6; rw [b2_sh, b4_sh, b6_sh]; grind
theorem dd_1728 (E : Cv) : 1728 * dd E = c4 E * c4 E * c4 E - c6 E * c6 E := by
  have h2 := b_syz E
  unfold dd c4 c6
  generalize b8 E = y at *
  generalize b2 E = u at *
  generalize b4 E = v at *
  generalize b6 E = w at *
  grind
theorem dd_sh (E : Cv) (r s t : Int) : dd (sh E r s t) = dd E := by
  have h1 := dd_1728 (sh E r s t)
  have h2 := dd_1728 E
  rw [c4_sh, c6_sh] at h1
  omega
theorem sh_sh (E : Cv) (r s t r' s' t' : Int) : sh (sh E r s t) r' s' t' = sh E (r + r') (s + s') (t + t' + s * r') := by
  unfold sh
  refine Prod.ext ?_ (Prod.ext ?_ (Prod.ext ?_ (Prod.ext ?_ ?_))) <;> dsimp only <;> grind
theorem sh_0 (E : Cv) : sh E 0 0 0 = E := by
  unfold sh
  refine Prod.ext ?_ (Prod.ext ?_ (Prod.ext ?_ (Prod.ext ?_ ?_))) <;> dsimp only <;> grind
theorem b2_sc (E : Cv) (u : Int) : b2 (sc E u) = u ^ 2 * b2 E := by unfold b2 sc; grind
theorem b4_sc (E : Cv) (u : Int) : b4 (sc E u) = u ^ 4 * b4 E := by unfold b4 sc; grind
theorem b6_sc (E : Cv) (u : Int) : b6 (sc E u) = u ^ 6 * b6 E := by unfold b6 sc; grind
theorem b8_sc (E : Cv) (u : Int) : b8 (sc E u) = u ^ 8 * b8 E := by unfold b8 sc; grind
theorem c4_sc (E : Cv) (u : Int) : c4 (sc E u) = u ^ 4 * c4 E := by unfold c4; rw [b2_sc, b4_sc]; grind
theorem c6_sc (E : Cv) (u : Int) : c6 (sc E u) = u ^ 6 * c6 E := by unfold c6; rw [b2_sc, b4_sc, b6_sc]; grind
theorem dd_sc (E : Cv) (u : Int) : dd (sc E u) = u ^ 12 * dd E := by unfold dd; rw [b2_sc, b4_sc, b6_sc, b8_sc]; grind
