/-! the point that is none comes to 0, 0; flat -/
theorem n1_of3 {E : Cv} {r : Int} (h4 : (3 : Int) ∣ b4 E + r * b2 E) (h6 : (3 : Int) ∣ b6 E + 2 * r * b4 E + r * r * b2 E + 4 * r * r * r) : N1 3 (sh E r 0 (a3 E + r * a1 E)) := by
  have k4 := b4_sh E r 0 (a3 E + r * a1 E)
  have k6 := b6_sh E r 0 (a3 E + r * a1 E)
  have e3 : a3 (sh E r 0 (a3 E + r * a1 E)) = 3 * (a3 E + r * a1 E) := by simp only [sh, a3, a1]; grind
  generalize sh E r 0 (a3 E + r * a1 E) = F at *
  unfold b4 at k4
  unfold b6 at k6
  rw [e3] at k4 k6
  generalize a3 E + r * a1 E = w at *
  refine ⟨⟨w, e3⟩, ?_, ?_⟩
  · obtain ⟨u, hu⟩ := h4
    have e : 2 * a4 F = 3 * (u + 2 * r * r - a1 F * w) := by
      have : a1 F * (3 * w) + 2 * a4 F = (b4 E + r * b2 E) + 6 * r * r := by rw [k4]; rfl
      rw [hu] at this; grind
    exact ⟨a4 F - (u + 2 * r * r - a1 F * w), by omega⟩
  · obtain ⟨u, hu⟩ := h6
    have e : 4 * a6 F = 3 * (u - 3 * w * w) := by
      have : 3 * w * (3 * w) + 4 * a6 F = b6 E + 2 * r * b4 E + r * r * b2 E + 4 * r * r * r := by rw [k6]; rfl
      rw [hu] at this; grind
    exact ⟨(u - 3 * w * w) - a6 F, by omega⟩
theorem n1_ex3 {E : Cv} (h : (3 : Int) ∣ dd E) : ∃ r, (r = 0 ∨ r = 1 ∨ r = 2) ∧ N1 3 (sh E r 0 (a3 E + r * a1 E)) := by
  have hs := b_syz E
  unfold dd at h
  have key : ∃ r, (r = 0 ∨ r = 1 ∨ r = 2) ∧ (3 : Int) ∣ b4 E + r * b2 E ∧ (3 : Int) ∣ b6 E + 2 * r * b4 E + r * r * b2 E + 4 * r * r * r := by
    generalize b2 E = x at *
    generalize b4 E = y at *
    generalize b6 E = w at *
    generalize b8 E = v at *
    have hD : (3 : Int) ∣ y * y * y - x * x * v := by
      obtain ⟨k, hk⟩ := h
      exact ⟨k - 3 * x * y * w + 3 * y * y * y + 9 * w * w, by grind⟩
    have hv : (3 : Int) ∣ v - (x * w - y * y) := ⟨-v, by omega⟩
    clear h
    obtain ⟨q1, i1, rfl, e1⟩ := md3 x
    obtain ⟨q2, i2, rfl, e2⟩ := md3 y
    obtain ⟨q3, i3, rfl, e3⟩ := md3 w
    obtain ⟨k, hk⟩ := hv
    have ev : v = (3 * q1 + i1) * (3 * q3 + i3) - (3 * q2 + i2) * (3 * q2 + i2) + 3 * k := by omega
    clear hs
    subst ev
    by_cases t0 : (3 : Int) ∣ (3 * q2 + i2) + 0 * (3 * q1 + i1) ∧ (3 : Int) ∣ (3 * q3 + i3) + 2 * 0 * (3 * q2 + i2) + 0 * 0 * (3 * q1 + i1) + 4 * 0 * 0 * 0
    · exact ⟨0, by omega, t0⟩
    by_cases t1 : (3 : Int) ∣ (3 * q2 + i2) + 1 * (3 * q1 + i1) ∧ (3 : Int) ∣ (3 * q3 + i3) + 2 * 1 * (3 * q2 + i2) + 1 * 1 * (3 * q1 + i1) + 4 * 1 * 1 * 1
    · exact ⟨1, by omega, t1⟩
    by_cases t2 : (3 : Int) ∣ (3 * q2 + i2) + 2 * (3 * q1 + i1) ∧ (3 : Int) ∣ (3 * q3 + i3) + 2 * 2 * (3 * q2 + i2) + 2 * 2 * (3 * q1 + i1) + 4 * 2 * 2 * 2
    · exact ⟨2, by omega, t2⟩
    exfalso
    obtain ⟨d, hd⟩ := hD
    clear hk
    rcases e1 with rfl | rfl | rfl <;> rcases e2 with rfl | rfl | rfl <;> rcases e3 with rfl | rfl | rfl <;>
      first
      | exact t0 ⟨by omega, by omega⟩
      | exact t1 ⟨by omega, by omega⟩
      | exact t2 ⟨by omega, by omega⟩
      | (clear t0 t1 t2; grind)
  obtain ⟨r, h1, h2, h3⟩ := key
  exact ⟨r, h1, n1_of3 h2 h3⟩
/-- at 2 -/
theorem n1_ex2 {E : Cv} (h : (2 : Int) ∣ dd E) : ∃ r t, (r = 0 ∨ r = 1) ∧ (t = 0 ∨ t = 1) ∧ N1 2 (sh E r 0 t) := by
  obtain ⟨A1, A2, A3, A4, A6⟩ := E
  unfold dd b2 b4 b6 b8 at h
  unfold N1
  simp only [sh, a1, a2, a3, a4, a6] at *
  have hD : (2 : Int) ∣ A1 * (A1 * A6 - A1 * A3 * A4 + A2 * A3 - A4) + A3 + A1 * A3 := by
    obtain ⟨q1, i1, rfl, e1⟩ := md2 A1
    obtain ⟨q3, i3, rfl, e3⟩ := md2 A3
    obtain ⟨q4, i4, rfl, e4⟩ := md2 A4
    rcases e1 with rfl | rfl <;> rcases e3 with rfl | rfl <;> rcases e4 with rfl | rfl <;> grind
  clear h
  obtain ⟨q1, i1, rfl, e1⟩ := md2 A1
  obtain ⟨q2, i2, rfl, e2⟩ := md2 A2
  obtain ⟨q3, i3, rfl, e3⟩ := md2 A3
  obtain ⟨q4, i4, rfl, e4⟩ := md2 A4
  obtain ⟨q6, i6, rfl, e6⟩ := md2 A6
  rcases e1 with rfl | rfl <;> rcases e2 with rfl | rfl <;> rcases e3 with rfl | rfl <;> rcases e4 with rfl | rfl <;> rcases e6 with rfl | rfl <;>
    first
    | exact ⟨0, 0, by omega, by omega, by omega, by omega, by omega⟩
    | exact ⟨0, 1, by omega, by omega, by omega, by omega, by omega⟩
    | exact ⟨1, 0, by omega, by omega, by omega, by omega, by omega⟩
    | exact ⟨1, 1, by omega, by omega, by omega, by omega, by omega⟩
    | (exfalso; grind)
