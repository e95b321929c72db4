/-! a number that p does not go in scales the equation: Tate's list is the same -/
theorem sc_sh (E : Cv) (r s t u : Int) : sc (sh E r s t) u = sh (sc E u) (u ^ 2 * r) (u * s) (u ^ 3 * t) := by
  unfold sc sh
  refine Prod.ext ?_ (Prod.ext ?_ (Prod.ext ?_ (Prod.ext ?_ ?_))) <;> dsimp only <;> grind
theorem Eqv.sc {E F : Cv} (h : Eqv E F) (u : Int) : Eqv (sc E u) (sc F u) := by
  obtain ⟨r, s, t, rfl⟩ := h
  exact ⟨_, _, _, sc_sh E r s t u⟩
theorem pow_nd {p : Int} (hp : p = 2 ∨ p = 3) {u : Int} (hu : ¬ p ∣ u) : ∀ n : Nat, ¬ p ∣ u ^ n := by
  intro n
  induction n with
  | zero => rw [Int.pow_zero]; rcases hp with rfl | rfl <;> omega
  | succ n ih => rw [Int.pow_succ]; intro h; rcases mul_dv hp h with h | h
                 · exact ih h
                 · exact hu h
theorem cop_dv {p : Int} (hp : p = 2 ∨ p = 3) {u : Int} (hu : ¬ p ∣ u) : ∀ (j : Nat) (x : Int), p ^ j ∣ u * x ↔ p ^ j ∣ x := by
  intro j
  induction j with
  | zero => intro x; rw [Int.pow_zero]; exact ⟨fun _ => Int.one_dvd x, fun _ => Int.one_dvd _⟩
  | succ j ih =>
    intro x
    constructor
    · intro h
      have h1 : p ∣ u * x := by have := dv_pow (m := 1) h (by omega); rwa [Int.pow_one] at this
      rcases mul_dv hp h1 with h2 | ⟨y, rfl⟩
      · exact absurd h2 hu
      · obtain ⟨k, hk⟩ := h
        have h3 : p ^ j ∣ u * y := ⟨k, by apply Int.eq_of_mul_eq_mul_left (p_ne hp); rw [Int.pow_succ] at hk; grind⟩
        obtain ⟨m, hm⟩ := (ih y).mp h3
        exact ⟨m, by rw [hm, Int.pow_succ]; grind⟩
    · rintro ⟨k, rfl⟩
      exact ⟨u * k, by grind⟩
theorem cop_p {p : Int} (hp : p = 2 ∨ p = 3) {u : Int} (hu : ¬ p ∣ u) (n : Nat) (x : Int) : p ∣ u ^ n * x ↔ p ∣ x := by
  have := cop_dv hp (pow_nd hp hu n) 1 x
  rwa [Int.pow_one] at this
theorem sq_one {p : Int} (hp : p = 2 ∨ p = 3) {u : Int} (hu : ¬ p ∣ u) : ∃ m, u ^ 2 = 1 + p * m := by
  rcases hp with rfl | rfl
  · obtain ⟨q, i, rfl, hi⟩ := md2 u
    rcases hi with rfl | rfl
    · exact absurd ⟨q, by omega⟩ hu
    · exact ⟨2 * q * q + 2 * q, by grind⟩
  · obtain ⟨q, i, rfl, hi⟩ := md3 u
    rcases hi with rfl | rfl | rfl
    · exact absurd ⟨q, by omega⟩ hu
    · exact ⟨3 * q * q + 2 * q, by grind⟩
    · exact ⟨3 * q * q + 4 * q + 1, by grind⟩
theorem qr_u {p : Int} {u m y z : Int} (hm : u ^ 2 = 1 + p * m) : qr p 1 y z ↔ qr p 1 (u ^ 3 * y) (u ^ 6 * z) := by
  have e3 : u ^ 3 = u + p * (m * u) := by rw [show u ^ 3 = u ^ 2 * u by grind, hm]; grind
  have e6 : u ^ 6 = 1 + p * (3 * m + 3 * p * m * m + p * p * m * m * m) := by rw [show u ^ 6 = u ^ 2 * u ^ 2 * u ^ 2 by grind, hm]; grind
  constructor
  · rintro ⟨T, k, hk⟩
    exact ⟨u ^ 3 * T, u ^ 6 * k, by grind⟩
  · rintro ⟨T, k, hk⟩
    refine ⟨u * T, k + m * T * T - m * u * y * T - (3 * m + 3 * p * m * m + p * p * m * m * m) * z, ?_⟩
    have e2 : u * u = 1 + p * m := by rw [← hm]; grind
    rw [e3, e6] at hk
    grind
theorem qr_n {p : Int} {u m y z : Int} (hm : u ^ 2 = 1 + p * m) : qr p 1 y z ↔ qr p 1 (u * y) (u ^ 2 * z) := by
  constructor
  · rintro ⟨T, k, hk⟩
    exact ⟨u * T, u ^ 2 * k, by grind⟩
  · rintro ⟨T, k, hk⟩
    refine ⟨u * T, k + m * T * T - m * z, ?_⟩
    have e2 : u * u = 1 + p * m := by rw [← hm]; grind
    rw [hm] at hk
    grind
theorem s1 {p : Int} (hp : p = 2 ∨ p = 3) {u : Int} (hu : ¬ p ∣ u) (E : Cv) (j : Nat) : p ^ j ∣ a1 (sc E u) ↔ p ^ j ∣ a1 E := cop_dv hp hu j (a1 E)
theorem s2 {p : Int} (hp : p = 2 ∨ p = 3) {u : Int} (hu : ¬ p ∣ u) (E : Cv) (j : Nat) : p ^ j ∣ a2 (sc E u) ↔ p ^ j ∣ a2 E := cop_dv hp (pow_nd hp hu 2) j (a2 E)
theorem s3 {p : Int} (hp : p = 2 ∨ p = 3) {u : Int} (hu : ¬ p ∣ u) (E : Cv) (j : Nat) : p ^ j ∣ a3 (sc E u) ↔ p ^ j ∣ a3 E := cop_dv hp (pow_nd hp hu 3) j (a3 E)
theorem s4 {p : Int} (hp : p = 2 ∨ p = 3) {u : Int} (hu : ¬ p ∣ u) (E : Cv) (j : Nat) : p ^ j ∣ a4 (sc E u) ↔ p ^ j ∣ a4 E := cop_dv hp (pow_nd hp hu 4) j (a4 E)
theorem s6 {p : Int} (hp : p = 2 ∨ p = 3) {u : Int} (hu : ¬ p ∣ u) (E : Cv) (j : Nat) : p ^ j ∣ a6 (sc E u) ↔ p ^ j ∣ a6 E := cop_dv hp (pow_nd hp hu 6) j (a6 E)
theorem t1 {p : Int} (hp : p = 2 ∨ p = 3) {u : Int} (hu : ¬ p ∣ u) (E : Cv) : p ∣ a1 (sc E u) ↔ p ∣ a1 E := by have := s1 hp hu E 1; rwa [Int.pow_one] at this
theorem t2 {p : Int} (hp : p = 2 ∨ p = 3) {u : Int} (hu : ¬ p ∣ u) (E : Cv) : p ∣ a2 (sc E u) ↔ p ∣ a2 E := by have := s2 hp hu E 1; rwa [Int.pow_one] at this
theorem t3 {p : Int} (hp : p = 2 ∨ p = 3) {u : Int} (hu : ¬ p ∣ u) (E : Cv) : p ∣ a3 (sc E u) ↔ p ∣ a3 E := by have := s3 hp hu E 1; rwa [Int.pow_one] at this
theorem t4 {p : Int} (hp : p = 2 ∨ p = 3) {u : Int} (hu : ¬ p ∣ u) (E : Cv) : p ∣ a4 (sc E u) ↔ p ∣ a4 E := by have := s4 hp hu E 1; rwa [Int.pow_one] at this
theorem t6 {p : Int} (hp : p = 2 ∨ p = 3) {u : Int} (hu : ¬ p ∣ u) (E : Cv) : p ∣ a6 (sc E u) ↔ p ∣ a6 E := by have := s6 hp hu E 1; rwa [Int.pow_one] at this
theorem N1_sc {p : Int} (hp : p = 2 ∨ p = 3) {u : Int} (hu : ¬ p ∣ u) {E : Cv} (h : N1 p E) : N1 p (sc E u) := ⟨(t3 hp hu E).mpr h.1, (t4 hp hu E).mpr h.2.1, (t6 hp hu E).mpr h.2.2⟩
theorem FL_sc {p : Int} (hp : p = 2 ∨ p = 3) {u : Int} (hu : ¬ p ∣ u) {E : Cv} (h : FL p E) : FL p (sc E u) := ⟨(t1 hp hu E).mpr h.1, (t2 hp hu E).mpr h.2.1, (s3 hp hu E 2).mpr h.2.2.1, (s4 hp hu E 2).mpr h.2.2.2.1, (s6 hp hu E 3).mpr h.2.2.2.2⟩
theorem NO_sc {p : Int} (hp : p = 2 ∨ p = 3) {u : Int} (hu : ¬ p ∣ u) {E : Cv} {e : Nat} (h : NO p e E) : NO p e (sc E u) := ⟨(t1 hp hu E).mpr h.1, (t2 hp hu E).mpr h.2.1, (s3 hp hu E _).mpr h.2.2.1, (s4 hp hu E _).mpr h.2.2.2.1, (s6 hp hu E _).mpr h.2.2.2.2⟩
theorem NE_sc {p : Int} (hp : p = 2 ∨ p = 3) {u : Int} (hu : ¬ p ∣ u) {E : Cv} {e : Nat} (h : NE p e E) : NE p e (sc E u) := ⟨(t1 hp hu E).mpr h.1, (t2 hp hu E).mpr h.2.1, (s3 hp hu E _).mpr h.2.2.1, (s4 hp hu E _).mpr h.2.2.2.1, (s6 hp hu E _).mpr h.2.2.2.2⟩
theorem NT_sc {p : Int} (hp : p = 2 ∨ p = 3) {u : Int} (hu : ¬ p ∣ u) {E : Cv} (h : NT p E) : NT p (sc E u) := ⟨(t1 hp hu E).mpr h.1, (s2 hp hu E _).mpr h.2.1, (s3 hp hu E _).mpr h.2.2.1, (s4 hp hu E _).mpr h.2.2.2.1, (s6 hp hu E _).mpr h.2.2.2.2⟩
theorem NT2_sc {p : Int} (hp : p = 2 ∨ p = 3) {u : Int} (hu : ¬ p ∣ u) {E : Cv} (h : NT2 p E) : NT2 p (sc E u) := ⟨(t1 hp hu E).mpr h.1, (s2 hp hu E _).mpr h.2.1, (s3 hp hu E _).mpr h.2.2.1, (s4 hp hu E _).mpr h.2.2.2.1, (s6 hp hu E _).mpr h.2.2.2.2⟩
theorem NK_sc {p : Int} (hp : p = 2 ∨ p = 3) {u : Int} (hu : ¬ p ∣ u) {E : Cv} {k : Nat} (h : NK p k E) : NK p k (sc E u) := by
  refine ⟨fun q => h.1 ((s2 hp hu E 2).mp q), ?_⟩
  have h2 := h.2
  by_cases hk : k % 2 = 1
  · rw [if_pos hk] at h2 ⊢; exact NO_sc hp hu h2
  · rw [if_neg hk] at h2 ⊢; exact NE_sc hp hu h2
theorem QK_sc {p : Int} (hp : p = 2 ∨ p = 3) {u : Int} (hu : ¬ p ∣ u) {E : Cv} {k : Nat} {x y z : Int} (h : QK p k E x y z) : ∃ x' y' z', QK p k (sc E u) x' y' z' ∧ (p ∣ y * y - 4 * x * z ↔ p ∣ y' * y' - 4 * x' * z') ∧ (qr p x y z ↔ qr p x' y' z') := by
  obtain ⟨m, hm⟩ := sq_one hp hu
  have e4 : u ^ 4 = 1 + p * (2 * m + p * m * m) := by rw [show u ^ 4 = u ^ 2 * u ^ 2 by grind, hm]; grind
  have e6 : u ^ 6 = 1 + p * (3 * m + 3 * p * m * m + p * p * m * m * m) := by rw [show u ^ 6 = u ^ 2 * u ^ 2 * u ^ 2 by grind, hm]; grind
  unfold QK at h ⊢
  by_cases hk : k % 2 = 1
  · simp only [if_pos hk] at h ⊢
    obtain ⟨rfl, h3, h6⟩ := h
    refine ⟨1, u ^ 3 * y, u ^ 6 * z, ⟨rfl, ?_, ?_⟩, ?_, qr_u hm⟩
    · show u ^ 3 * a3 E = _; rw [h3]; grind
    · show u ^ 6 * a6 E = _; rw [h6]; grind
    · have : u ^ 3 * y * (u ^ 3 * y) - 4 * 1 * (u ^ 6 * z) = u ^ 6 * (y * y - 4 * 1 * z) := by grind
      rw [this, cop_p hp hu 6]
  · simp only [if_neg hk] at h ⊢
    obtain ⟨h2, h4, h6⟩ := h
    refine ⟨u ^ 2 * x, u ^ 4 * y, u ^ 6 * z, ⟨?_, ?_, ?_⟩, ?_, ?_⟩
    · show u ^ 2 * a2 E = _; rw [h2]; grind
    · show u ^ 4 * a4 E = _; rw [h4]; grind
    · show u ^ 6 * a6 E = _; rw [h6]; grind
    · have : u ^ 4 * y * (u ^ 4 * y) - 4 * (u ^ 2 * x) * (u ^ 6 * z) = u ^ 8 * (y * y - 4 * x * z) := by grind
      rw [this, cop_p hp hu 8]
    · rw [hm, e4, e6]
      exact q_qr (τ := 0) ⟨m * x, by grind⟩ ⟨(2 * m + p * m * m) * y, by grind⟩ ⟨(3 * m + 3 * p * m * m + p * p * m * m * m) * z, by grind⟩
theorem TO_sc {p : Int} (hp : p = 2 ∨ p = 3) {u : Int} (hu : ¬ p ∣ u) : ∀ (j k : Nat) (E : Cv) (c : Nat), TO p j k E c → TO p j k (sc E u) c := by
  intro j
  induction j with
  | zero =>
    intro k E c h
    obtain ⟨x, y, z, q, nd, o⟩ := h
    obtain ⟨x', y', z', q', i1, i2⟩ := QK_sc hp hu q
    refine ⟨x', y', z', q', fun hh => nd (i1.mpr hh), ?_⟩
    rcases o with ⟨o1, o2⟩ | ⟨o1, o2⟩
    · exact Or.inl ⟨i2.mp o1, o2⟩
    · exact Or.inr ⟨fun hh => o1 (i2.mpr hh), o2⟩
  | succ j ih =>
    intro k E c h
    obtain ⟨⟨x, y, z, q, nd⟩, F, hF, nF, tF⟩ := h
    obtain ⟨x', y', z', q', i1, i2⟩ := QK_sc hp hu q
    exact ⟨⟨x', y', z', q', i1.mp nd⟩, sc F u, hF.sc u, NK_sc hp hu nF, ih (k + 1) F c tF⟩
theorem Late_sc {p : Int} (hp : p = 2 ∨ p = 3) {u : Int} (hu : ¬ p ∣ u) {E : Cv} {k i c : Nat} (h : Late p E k i c) : Late p (sc E u) k i c := by
  obtain ⟨m, hm⟩ := sq_one hp hu
  have e4 : u ^ 4 = 1 + p * (2 * m + p * m * m) := by rw [show u ^ 4 = u ^ 2 * u ^ 2 by grind, hm]; grind
  have e6 : u ^ 6 = 1 + p * (3 * m + 3 * p * m * m + p * p * m * m * m) := by rw [show u ^ 6 = u ^ 2 * u ^ 2 * u ^ 2 by grind, hm]; grind
  obtain ⟨b, cc, d, eb, ec, ed, o⟩ := h
  have m1 : p ∣ u ^ 2 * b - (b + 3 * 0) := ⟨m * b, by rw [hm]; grind⟩
  have m2 : p ∣ u ^ 4 * cc - (cc + 2 * 0 * b + 3 * 0 * 0) := ⟨(2 * m + p * m * m) * cc, by rw [e4]; grind⟩
  have m3 : p ∣ u ^ 6 * d - (d + 0 * cc + 0 * 0 * b + 0 * 0 * 0) := ⟨(3 * m + 3 * p * m * m + p * p * m * m * m) * d, by rw [e6]; grind⟩
  have iD := cubD_sh m1 m2 m3
  have iT := cubT_sh m1 m2
  have iN := nrt_sh hp (cub_sh m1 m2 m3)
  refine ⟨u ^ 2 * b, u ^ 4 * cc, u ^ 6 * d, ?_, ?_, ?_, ?_⟩
  · show u ^ 2 * a2 E = _; rw [eb]; grind
  · show u ^ 4 * a4 E = _; rw [ec]; grind
  · show u ^ 6 * a6 E = _; rw [ed]; grind
  rcases o with ⟨o1, o2, o3, o4⟩ | ⟨o1, o2, o3, E3, hE3, n3, j, o4, o5⟩ | ⟨o1, o2, o3, E3, hE3, n3, y, z, q3, q6, o4⟩
  · exact Or.inl ⟨fun hh => o1 (iD.mpr hh), o2, o3, by rw [o4, iN]⟩
  · exact Or.inr (Or.inl ⟨iD.mp o1, fun hh => o2 (iT.mpr hh), o3, sc E3 u, hE3.sc u, NK_sc hp hu n3, j, o4, TO_sc hp hu j 1 E3 c o5⟩)
  · refine Or.inr (Or.inr ⟨iD.mp o1, iT.mp o2, o3, sc E3 u, hE3.sc u, NT_sc hp hu n3, u ^ 3 * y, u ^ 6 * z, ?_, ?_, ?_⟩)
    · show u ^ 3 * a3 E3 = _; rw [q3]; grind
    · show u ^ 6 * a6 E3 = _; rw [q6]; grind
    have jD : p ∣ y * y - 4 * 1 * z ↔ p ∣ u ^ 3 * y * (u ^ 3 * y) - 4 * 1 * (u ^ 6 * z) := by
      have : u ^ 3 * y * (u ^ 3 * y) - 4 * 1 * (u ^ 6 * z) = u ^ 6 * (y * y - 4 * 1 * z) := by grind
      rw [this, cop_p hp hu 6]
    have jQ : qr p 1 y z ↔ qr p 1 (u ^ 3 * y) (u ^ 6 * z) := qr_u hm
    rcases o4 with ⟨o4, o5, o6⟩ | ⟨o4, E4, hE4, n4, o5⟩
    · refine Or.inl ⟨fun hh => o4 (jD.mpr hh), o5, ?_⟩
      rcases o6 with ⟨x1, x2⟩ | ⟨x1, x2⟩
      · exact Or.inl ⟨jQ.mp x1, x2⟩
      · exact Or.inr ⟨fun hh => x1 (jQ.mpr hh), x2⟩
    · refine Or.inr ⟨jD.mp o4, sc E4 u, hE4.sc u, NT2_sc hp hu n4, ?_⟩
      rcases o5 with ⟨x1, x2⟩ | ⟨x1, x4, x2⟩ | ⟨x1, x4, x2⟩
      · exact Or.inl ⟨fun hh => x1 ((s4 hp hu E4 4).mp hh), x2⟩
      · exact Or.inr (Or.inl ⟨(s4 hp hu E4 4).mpr x1, fun hh => x4 ((s6 hp hu E4 6).mp hh), x2⟩)
      · exact Or.inr (Or.inr ⟨(s4 hp hu E4 4).mpr x1, (s6 hp hu E4 6).mpr x4, x2⟩)
theorem Out_sc {p : Int} (hp : p = 2 ∨ p = 3) {u : Int} (hu : ¬ p ∣ u) {E : Cv} {k i c sp : Nat} (h : Out p E k i c sp) : Out p (sc E u) k i c sp := by
  obtain ⟨m, hm⟩ := sq_one hp hu
  obtain ⟨F, hF, n, o⟩ := h
  refine ⟨sc F u, hF.sc u, N1_sc hp hu n, ?_⟩
  have i2 : p ∣ b2 (sc F u) ↔ p ∣ b2 F := by rw [b2_sc]; exact cop_p hp hu 2 _
  have i8 : p ^ 3 ∣ b8 (sc F u) ↔ p ^ 3 ∣ b8 F := by rw [b8_sc]; exact cop_dv hp (pow_nd hp hu 8) 3 _
  have i6 : p ^ 3 ∣ b6 (sc F u) ↔ p ^ 3 ∣ b6 F := by rw [b6_sc]; exact cop_dv hp (pow_nd hp hu 6) 3 _
  rcases o with ⟨o1, o2, o3, o4, o5⟩ | ⟨o1, o2, o⟩
  · refine Or.inl ⟨fun hh => o1 (i2.mp hh), o2, o3, o4, ?_⟩
    have iq : qr p 1 (a1 F) (-a2 F) ↔ qr p 1 (a1 (sc F u)) (-a2 (sc F u)) := by
      have := qr_n (y := a1 F) (z := -a2 F) hm
      rwa [show u ^ 2 * -a2 F = -a2 (sc F u) by simp only [sc, a2]; grind] at this
    rcases o5 with ⟨x1, x2⟩ | ⟨x1, x2⟩
    · exact Or.inl ⟨iq.mp x1, x2⟩
    · exact Or.inr ⟨fun hh => x1 (iq.mpr hh), x2⟩
  · refine Or.inr ⟨i2.mpr o1, o2, ?_⟩
    rcases o with ⟨x1, x2⟩ | ⟨x1, x2, x3⟩ | ⟨x1, x2, x3, x4, x5, α, δ, x6, x7, x8⟩ | ⟨x1, x2, x3, E2, x4, x5, x6⟩
    · exact Or.inl ⟨fun hh => x1 ((s6 hp hu F 2).mp hh), x2⟩
    · exact Or.inr (Or.inl ⟨(s6 hp hu F 2).mpr x1, fun hh => x2 (i8.mp hh), x3⟩)
    · refine Or.inr (Or.inr (Or.inl ⟨(s6 hp hu F 2).mpr x1, i8.mpr x2, fun hh => x3 (i6.mp hh), x4, x5, u ^ 3 * α, u ^ 6 * δ, ?_, ?_, ?_⟩))
      · show u ^ 3 * a3 F = _; rw [x6]; grind
      · show u ^ 6 * a6 F = _; rw [x7]; grind
      · have jQ : qr p 1 α (-δ) ↔ qr p 1 (u ^ 3 * α) (-(u ^ 6 * δ)) := by
          have := qr_u (y := α) (z := -δ) hm
          rwa [show u ^ 6 * -δ = -(u ^ 6 * δ) by grind] at this
        rcases x8 with ⟨z1, z2⟩ | ⟨z1, z2⟩
        · exact Or.inl ⟨jQ.mp z1, z2⟩
        · exact Or.inr ⟨fun hh => z1 (jQ.mpr hh), z2⟩
    · exact Or.inr (Or.inr (Or.inr ⟨(s6 hp hu F 2).mpr x1, i8.mpr x2, i6.mpr x3, sc E2 u, x4.sc u, FL_sc hp hu x5, Late_sc hp hu x6⟩))
