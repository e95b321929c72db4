/-! what Tate's list says at 2 and 3, and that it is one answer -/
def Eqv (E E' : Cv) : Prop := ∃ r s t : Int, E' = sh E r s t
theorem Eqv.rf (E : Cv) : Eqv E E := ⟨0, 0, 0, (sh_0 E).symm⟩
theorem Eqv.tr {E F G : Cv} (h : Eqv E F) (h' : Eqv F G) : Eqv E G := by
  obtain ⟨r, s, t, rfl⟩ := h
  obtain ⟨r', s', t', rfl⟩ := h'
  exact ⟨_, _, _, sh_sh E r s t r' s' t'⟩
theorem Eqv.sy {E F : Cv} (h : Eqv E F) : Eqv F E := by
  obtain ⟨r, s, t, rfl⟩ := h
  refine ⟨-r, -s, s * r - t, ?_⟩
  rw [sh_sh]
  have h1 : r + -r = 0 := by omega
  have h2 : s + -s = 0 := by omega
  have h3 : t + (s * r - t) + s * -r = 0 := by grind
  rw [h1, h2, h3, sh_0]
theorem Eqv.sh (E : Cv) (r s t : Int) : Eqv E (sh E r s t) := ⟨r, s, t, rfl⟩
/-- from the turn k, j turns on: the kind's own components are c -/
def TO (p : Int) : Nat → Nat → Cv → Nat → Prop
  | 0, k, E, c => ∃ x y z : Int, QK p k E x y z ∧ ¬ p ∣ y * y - 4 * x * z ∧ ((qr p x y z ∧ c = 4) ∨ (¬ qr p x y z ∧ c = 2))
  | j + 1, k, E, c => (∃ x y z : Int, QK p k E x y z ∧ p ∣ y * y - 4 * x * z) ∧ ∃ E' : Cv, Eqv E E' ∧ NK p (k + 1) E' ∧ TO p j (k + 1) E' c
theorem TO_one {p : Int} (hp : p = 2 ∨ p = 3) : ∀ (j k : Nat) (E : Cv) (c j' : Nat) (E' : Cv) (c' : Nat), NK p (k + 1) E → NK p (k + 1) E' → Eqv E E' → TO p j (k + 1) E c → TO p j' (k + 1) E' c' → j = j' ∧ c = c' := by
  intro j
  induction j with
  | zero =>
    intro k E c j' E' c' n n' hE h h'
    obtain ⟨r, s, t, rfl⟩ := hE
    obtain ⟨x, y, z, q, nd, o⟩ := h
    cases j' with
    | zero =>
      obtain ⟨x', y', z', q', nd', o'⟩ := h'
      obtain ⟨τ, m1, m2, m3⟩ := q_move hp n n' q q'
      have hq := q_qr m1 m2 m3
      refine ⟨rfl, ?_⟩
      rcases o with ⟨o1, o2⟩ | ⟨o1, o2⟩ <;> rcases o' with ⟨o3, o4⟩ | ⟨o3, o4⟩
      · omega
      · exact absurd (hq.mp o1) o3
      · exact absurd (hq.mpr o3) o1
      · omega
    | succ j' =>
      obtain ⟨⟨x', y', z', q', nd'⟩, -⟩ := h'
      obtain ⟨τ, m1, m2, m3⟩ := q_move hp n n' q q'
      exact absurd ((q_disc m1 m2 m3).mpr nd') nd
  | succ j ih =>
    intro k E c j' E' c' n n' hE h h'
    obtain ⟨⟨x, y, z, q, nd⟩, F, hF, nF, tF⟩ := h
    cases j' with
    | zero =>
      obtain ⟨r, s, t, rfl⟩ := hE
      obtain ⟨x', y', z', q', nd', -⟩ := h'
      obtain ⟨τ, m1, m2, m3⟩ := q_move hp n n' q q'
      exact absurd ((q_disc m1 m2 m3).mp nd) nd'
    | succ j' =>
      obtain ⟨-, F', hF', nF', tF'⟩ := h'
      have := ih (k + 1) F c j' F' c' nF nF' (hF.sy.tr (hE.tr hF')) tF tF'
      exact ⟨by omega, this.2⟩
/-- how many of 0 .. p - 1 are roots of the cubic -/
def nrt (p : Int) (b c d : Int) : Nat := (if p ∣ cub b c d 0 then 1 else 0) + (if p ∣ cub b c d 1 then 1 else 0) + (if p = 3 ∧ p ∣ cub b c d 2 then 1 else 0)
theorem cub_per {p b c d T m : Int} : p ∣ cub b c d (T + p * m) ↔ p ∣ cub b c d T := by
  apply Iff.symm
  apply dv_iff
  unfold cub
  exact ⟨3 * T * T * m + 3 * T * p * m * m + p * p * m * m * m + b * (2 * T * m + p * m * m) + c * m, by grind⟩
theorem nrt_sh {p : Int} (hp : p = 2 ∨ p = 3) {b c d b' c' d' ρ : Int} (h : ∀ T, p ∣ cub b c d (T + ρ) ↔ p ∣ cub b' c' d' T) : nrt p b c d = nrt p b' c' d' := by
  unfold nrt
  have P : ∀ x y m : Int, x + ρ = y + p * m → (p ∣ cub b' c' d' x ↔ p ∣ cub b c d y) := fun x y m e => by rw [← h x, e]; exact cub_per
  rcases hp with rfl | rfl
  · obtain ⟨q, i, e, hi⟩ := md2 ρ
    by_cases x0 : (2 : Int) ∣ cub b c d 0 <;> by_cases x1 : (2 : Int) ∣ cub b c d 1 <;> rcases hi with rfl | rfl
    all_goals first
      | (have h0 := P 0 0 q (by omega); have h1 := P 1 1 q (by omega); simp [h0, h1, x0, x1]; done)
      | (have h0 := P 0 1 q (by omega); have h1 := P 1 0 (q + 1) (by omega); simp [h0, h1, x0, x1]; done)
  · obtain ⟨q, i, e, hi⟩ := md3 ρ
    by_cases x0 : (3 : Int) ∣ cub b c d 0 <;> by_cases x1 : (3 : Int) ∣ cub b c d 1 <;> by_cases x2 : (3 : Int) ∣ cub b c d 2 <;> rcases hi with rfl | rfl | rfl
    all_goals first
      | (have h0 := P 0 0 q (by omega); have h1 := P 1 1 q (by omega); have h2 := P 2 2 q (by omega); simp [h0, h1, h2, x0, x1, x2]; done)
      | (have h0 := P 0 1 q (by omega); have h1 := P 1 2 q (by omega); have h2 := P 2 0 (q + 1) (by omega); simp [h0, h1, h2, x0, x1, x2]; done)
      | (have h0 := P 0 2 q (by omega); have h1 := P 1 0 (q + 1) (by omega); have h2 := P 2 1 (q + 1) (by omega); simp [h0, h1, h2, x0, x1, x2]; done)
def NT (p : Int) (E : Cv) : Prop := p ∣ a1 E ∧ p ^ 2 ∣ a2 E ∧ p ^ 2 ∣ a3 E ∧ p ^ 3 ∣ a4 E ∧ p ^ 4 ∣ a6 E
def NT2 (p : Int) (E : Cv) : Prop := p ∣ a1 E ∧ p ^ 2 ∣ a2 E ∧ p ^ 3 ∣ a3 E ∧ p ^ 3 ∣ a4 E ∧ p ^ 5 ∣ a6 E
theorem NT.no {p : Int} {E : Cv} (h : NT p E) : NO p 2 E := ⟨h.1, by have := dv_pow (m := 1) h.2.1 (by omega); rwa [Int.pow_one] at this, h.2.2.1, h.2.2.2.1, h.2.2.2.2⟩
theorem NT2.ne {p : Int} {E : Cv} (h : NT2 p E) : NE p 3 E := ⟨h.1, by have := dv_pow (m := 1) h.2.1 (by omega); rwa [Int.pow_one] at this, h.2.2.1, h.2.2.2.1, h.2.2.2.2⟩
theorem lat_T2 {p : Int} (hp : p = 2 ∨ p = 3) {E : Cv} {r s t : Int} (h : NT2 p E) (h' : NT2 p (sh E r s t)) : p ^ 2 ∣ r ∧ p ∣ s ∧ p ^ 3 ∣ t :=
  lat_NE hp (by omega) h.ne h'.ne (lat_2 hp (h.ne.no (by omega)) (h'.ne.no (by omega)))
theorem a4_T2 {p : Int} {E : Cv} {r s t : Int} (h : NT2 p E) (L : p ^ 2 ∣ r ∧ p ∣ s ∧ p ^ 3 ∣ t) : p ^ 4 ∣ a4 E ↔ p ^ 4 ∣ a4 (sh E r s t) := by
  obtain ⟨⟨ρ, rfl⟩, ⟨σ, rfl⟩, ⟨τ, rfl⟩⟩ := L
  obtain ⟨⟨x1, h1⟩, ⟨x2, h2⟩, ⟨x3, h3⟩, -, -⟩ := h
  apply dv_iff
  simp only [sh, a1, a2, a3, a4, a6] at *
  rw [h1, h2, h3]
  exact ⟨-σ * x3 + 2 * ρ * x2 - τ * x1 - ρ * σ * x1 + 3 * ρ * ρ - 2 * σ * τ, by clear h1 h2 h3; grind⟩
theorem a6_T2 {p : Int} {E : Cv} {r s t : Int} (h : NT2 p E) (k4 : p ^ 4 ∣ a4 E) (L : p ^ 2 ∣ r ∧ p ∣ s ∧ p ^ 3 ∣ t) : p ^ 6 ∣ a6 E ↔ p ^ 6 ∣ a6 (sh E r s t) := by
  obtain ⟨⟨ρ, rfl⟩, ⟨σ, rfl⟩, ⟨τ, rfl⟩⟩ := L
  obtain ⟨⟨x1, h1⟩, ⟨x2, h2⟩, ⟨x3, h3⟩, -, -⟩ := h
  obtain ⟨x4, h4⟩ := k4
  apply dv_iff
  simp only [sh, a1, a2, a3, a4, a6] at *
  rw [h1, h2, h3, h4]
  exact ⟨ρ * x4 + ρ * ρ * x2 + ρ * ρ * ρ - τ * x3 - τ * τ - ρ * τ * x1, by clear h1 h2 h3 h4; grind⟩
/-- from a flat equation on -/
def Late (p : Int) (E : Cv) (k i c : Nat) : Prop := ∃ b cc d : Int, a2 E = p * b ∧ a4 E = p ^ 2 * cc ∧ a6 E = p ^ 3 * d ∧
  ((¬ p ∣ cubD b cc d ∧ k = 5 ∧ i = 0 ∧ c = 1 + nrt p b cc d) ∨
   (p ∣ cubD b cc d ∧ ¬ p ∣ b * b - 3 * cc ∧ k = 6 ∧ ∃ E3 : Cv, Eqv E E3 ∧ NK p 1 E3 ∧ ∃ j, i = j + 1 ∧ TO p j 1 E3 c) ∨
   (p ∣ cubD b cc d ∧ p ∣ b * b - 3 * cc ∧ i = 0 ∧ ∃ E3 : Cv, Eqv E E3 ∧ NT p E3 ∧ ∃ y z : Int, a3 E3 = p ^ 2 * y ∧ a6 E3 = p ^ 4 * (-z) ∧
     ((¬ p ∣ y * y - 4 * 1 * z ∧ k = 7 ∧ ((qr p 1 y z ∧ c = 3) ∨ (¬ qr p 1 y z ∧ c = 1))) ∨
      (p ∣ y * y - 4 * 1 * z ∧ ∃ E4 : Cv, Eqv E3 E4 ∧ NT2 p E4 ∧ ((¬ p ^ 4 ∣ a4 E4 ∧ k = 8 ∧ c = 2) ∨ (p ^ 4 ∣ a4 E4 ∧ ¬ p ^ 6 ∣ a6 E4 ∧ k = 9 ∧ c = 1) ∨ (p ^ 4 ∣ a4 E4 ∧ p ^ 6 ∣ a6 E4 ∧ k = 10 ∧ c = 0))))))
theorem NT_q {p : Int} (hp : p = 2 ∨ p = 3) {E : Cv} {r s t y z y' z' : Int} (h : NT p E) (h' : NT p (sh E r s t)) (q3 : a3 E = p ^ 2 * y) (q6 : a6 E = p ^ 4 * (-z)) (q3' : a3 (sh E r s t) = p ^ 2 * y') (q6' : a6 (sh E r s t) = p ^ 4 * (-z')) : ∃ τ, p ∣ (1 : Int) - 1 ∧ p ∣ y' - (y + 2 * 1 * τ) ∧ p ∣ z' - (z + y * τ + 1 * τ * τ) := by
  have L := lat_2 hp h.no h'.no
  have n := h.no
  obtain ⟨τ, et, ⟨u, hu⟩, ⟨v, hv⟩⟩ := NO_q (p_ne hp) (by omega) n.1 n.2.1 n.2.2.2.1 L.1 L.2.2 q3 q6 q3' q6'
  exact ⟨τ, ⟨0, by grind⟩, ⟨u, by grind⟩, ⟨-v, by grind⟩⟩
theorem Late_one {p : Int} (hp : p = 2 ∨ p = 3) {E E' : Cv} {k i c k' i' c' : Nat} (f : FL p E) (f' : FL p E') (hE : Eqv E E') (h : Late p E k i c) (h' : Late p E' k' i' c') : k = k' ∧ i = i' ∧ c = c' := by
  have hE0 := hE
  obtain ⟨r, s, t, rfl⟩ := hE0
  obtain ⟨hr, hs, ht⟩ := FL_sh hp f f'
  obtain ⟨b, cc, d, eb, ec, ed, o⟩ := h
  obtain ⟨b', cc', d', eb', ec', ed', o'⟩ := h'
  obtain ⟨ρ, er, m1, m2, m3⟩ := FL_cub (p_ne hp) f.1 f.2.2.1 hr hs ht eb ec ed eb' ec' ed'
  have iD := cubD_sh m1 m2 m3
  have iT := cubT_sh m1 m2
  have iN := nrt_sh hp (cub_sh m1 m2 m3)
  rcases o with ⟨o1, o2, o3, o4⟩ | ⟨o1, o2, o3, E3, hE3, n3, j, o4, o5⟩ | ⟨o1, o2, o3, E3, hE3, n3, y, z, q3, q6, o4⟩ <;>
    rcases o' with ⟨p1, p2, p3, p4⟩ | ⟨p1, p2, p3, E3', hE3', n3', j', p4, p5⟩ | ⟨p1, p2, p3, E3', hE3', n3', y', z', q3', q6', p4⟩
  · refine ⟨by omega, by omega, ?_⟩; rw [o4, p4, iN]
  · exact absurd (iD.mpr p1) o1
  · exact absurd (iD.mpr p1) o1
  · exact absurd (iD.mp o1) p1
  · have := TO_one hp j 0 E3 c j' E3' c' n3 n3' (hE3.sy.tr (hE.tr hE3')) o5 p5
    exact ⟨by omega, by omega, this.2⟩
  · exact absurd (iT.mpr p2) o2
  · exact absurd (iD.mp o1) p1
  · exact absurd (iT.mp o2) p2
  · have hF : Eqv E3 E3' := hE3.sy.tr (hE.tr hE3')
    have hF0 := hF
    obtain ⟨r, s, t, rfl⟩ := hF0
    obtain ⟨τ, w1, w2, w3⟩ := NT_q hp n3 n3' q3 q6 q3' q6'
    have jD := q_disc w1 w2 w3
    have jQ := q_qr w1 w2 w3
    rcases o4 with ⟨o4, o5, o6⟩ | ⟨o4, E4, hE4, n4, o5⟩ <;> rcases p4 with ⟨p4, p5, p6⟩ | ⟨p4, E4', hE4', n4', p5⟩
    · refine ⟨by omega, by omega, ?_⟩
      rcases o6 with ⟨x1, x2⟩ | ⟨x1, x2⟩ <;> rcases p6 with ⟨x3, x4⟩ | ⟨x3, x4⟩
      · omega
      · exact absurd (jQ.mp x1) x3
      · exact absurd (jQ.mpr x3) x1
      · omega
    · exact absurd (jD.mpr p4) o4
    · exact absurd (jD.mp o4) p4
    · have hG : Eqv E4 E4' := hE4.sy.tr (hF.tr hE4')
      obtain ⟨r', s', t', rfl⟩ := hG
      have L := lat_T2 hp n4 n4'
      have i4 := a4_T2 n4 L
      rcases o5 with ⟨x1, x2, x3⟩ | ⟨x1, x4, x2, x3⟩ | ⟨x1, x4, x2, x3⟩ <;> rcases p5 with ⟨y1, y2, y3⟩ | ⟨y1, y4, y2, y3⟩ | ⟨y1, y4, y2, y3⟩
      · omega
      · exact absurd (i4.mpr y1) x1
      · exact absurd (i4.mpr y1) x1
      · exact absurd (i4.mp x1) y1
      · omega
      · exact absurd ((a6_T2 n4 x1 L).mpr y4) x4
      · exact absurd (i4.mp x1) y1
      · exact absurd ((a6_T2 n4 x1 L).mp x4) y4
      · omega
/-- the whole list at 2 or 3: kind, index, own components, split (of NODE index and components go by DISC alone); kind 10: it can be shrunk -/
def Out (p : Int) (E : Cv) (k i c sp : Nat) : Prop := ∃ E1 : Cv, Eqv E E1 ∧ N1 p E1 ∧
  ((¬ p ∣ b2 E1 ∧ k = 1 ∧ i = 0 ∧ c = 0 ∧ ((qr p 1 (a1 E1) (-a2 E1) ∧ sp = 1) ∨ (¬ qr p 1 (a1 E1) (-a2 E1) ∧ sp = 0))) ∨
   (p ∣ b2 E1 ∧ sp = 0 ∧
    ((¬ p ^ 2 ∣ a6 E1 ∧ k = 2 ∧ i = 0 ∧ c = 1) ∨
     (p ^ 2 ∣ a6 E1 ∧ ¬ p ^ 3 ∣ b8 E1 ∧ k = 3 ∧ i = 0 ∧ c = 2) ∨
     (p ^ 2 ∣ a6 E1 ∧ p ^ 3 ∣ b8 E1 ∧ ¬ p ^ 3 ∣ b6 E1 ∧ k = 4 ∧ i = 0 ∧ ∃ α δ : Int, a3 E1 = p * α ∧ a6 E1 = p ^ 2 * δ ∧ ((qr p 1 α (-δ) ∧ c = 3) ∨ (¬ qr p 1 α (-δ) ∧ c = 1))) ∨
     (p ^ 2 ∣ a6 E1 ∧ p ^ 3 ∣ b8 E1 ∧ p ^ 3 ∣ b6 E1 ∧ ∃ E2 : Cv, Eqv E1 E2 ∧ FL p E2 ∧ Late p E2 k i c))))
theorem node_qr {p : Int} (hp : p = 2 ∨ p = 3) {E : Cv} {r s t : Int} (hr : p ∣ r) : qr p 1 (a1 E) (-a2 E) ↔ qr p 1 (a1 (sh E r s t)) (-a2 (sh E r s t)) := by
  obtain ⟨ρ, rfl⟩ := hr
  exact q_qr (τ := s) ⟨0, by grind⟩ ⟨0, by simp only [sh, a1]; grind⟩ ⟨-3 * ρ, by simp only [sh, a1, a2]; grind⟩
theorem Out_one {p : Int} (hp : p = 2 ∨ p = 3) {E E' : Cv} {k i c sp k' i' c' sp' : Nat} (hE : Eqv E E') (h : Out p E k i c sp) (h' : Out p E' k' i' c' sp') : k = k' ∧ i = i' ∧ c = c' ∧ sp = sp' := by
  obtain ⟨F, hF, n, o⟩ := h
  obtain ⟨F', hF', n', o'⟩ := h'
  have hG : Eqv F F' := hF.sy.tr (hE.tr hF')
  have hG0 := hG
  obtain ⟨r, s, t, rfl⟩ := hG0
  obtain ⟨hr, ht⟩ := N1_sh hp n n'
  have i2 := b2_dv hp F r s t
  have i6 := a6_dv (s := s) n hr ht
  rcases o with ⟨o1, o2, o3, o4, o5⟩ | ⟨o1, o2, o⟩ <;> rcases o' with ⟨p1, p2, p3, p4, p5⟩ | ⟨p1, p2, o'⟩
  · have iq := node_qr (s := s) (t := t) hp (E := F) hr
    refine ⟨by omega, by omega, by omega, ?_⟩
    rcases o5 with ⟨x1, x2⟩ | ⟨x1, x2⟩ <;> rcases p5 with ⟨x3, x4⟩ | ⟨x3, x4⟩
    · omega
    · exact absurd (iq.mp x1) x3
    · exact absurd (iq.mpr x3) x1
    · omega
  · exact absurd (i2.mpr p1) o1
  · exact absurd (i2.mp o1) p1
  · rcases o with ⟨x1, x2⟩ | ⟨x1, x2, x3⟩ | ⟨x1, x2, x3, x4, x5, α, δ, x6, x7, x8⟩ | ⟨x1, x2, x3, E2, x4, x5, x6⟩ <;>
      rcases o' with ⟨y1, y2⟩ | ⟨y1, y2, y3⟩ | ⟨y1, y2, y3, y4, y5, α', δ', y6, y7, y8⟩ | ⟨y1, y2, y3, E2', y4, y5, y6⟩
    · omega
    · exact absurd (i6.mpr y1) x1
    · exact absurd (i6.mpr y1) x1
    · exact absurd (i6.mpr y1) x1
    · exact absurd (i6.mp x1) y1
    · omega
    · exact absurd ((b8_dv n hr x1).mpr y2) x2
    · exact absurd ((b8_dv n hr x1).mpr y2) x2
    · exact absurd (i6.mp x1) y1
    · exact absurd ((b8_dv n hr x1).mp x2) y2
    · have iq := iv_qr (s := s) hp n hr ht o1 x1 x2 x3 x6 x7 y6 y7
      refine ⟨by omega, by omega, ?_, by omega⟩
      rcases x8 with ⟨z1, z2⟩ | ⟨z1, z2⟩ <;> rcases y8 with ⟨z3, z4⟩ | ⟨z3, z4⟩
      · omega
      · exact absurd (iq.mp z1) z3
      · exact absurd (iq.mpr z3) z1
      · omega
    · exact absurd ((b6_dv hp n hr o1 x1 x2).mpr y3) x3
    · exact absurd (i6.mp x1) y1
    · exact absurd ((b8_dv n hr x1).mp x2) y2
    · exact absurd ((b6_dv hp n hr o1 x1 x2).mp x3) y3
    · have := Late_one hp x5 y5 (x4.sy.tr (hG.tr y4)) x6 y6
      omega
