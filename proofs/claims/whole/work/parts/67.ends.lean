/-! at 2 and 3: the class's reckoning is the list's end -/
theorem LateG.late {P : Nat} (hp : P = 2 ∨ P = 3) {E : Cv} {k i c : Nat} (h : LateG P E k i c) : Late P E k i c ∧ k ≠ 10 := by
  have hc : ∀ b cc d : Int, cnt P b cc d P = nrt P b cc d := by
    intro b cc d
    rcases hp with rfl | rfl
    · exact cnt_nrt2 b cc d
    · exact cnt_nrt3 b cc d
  obtain ⟨b, cc, d, e2, e4, e6, o⟩ := h
  rcases o with ⟨o1, o2, o3, o4⟩ | ⟨o1, o2, o3, o4⟩ | ⟨o1, o2, o3, E3, o4, o5, y, z, o6, o7, o8⟩
  · exact ⟨⟨b, cc, d, e2, e4, e6, Or.inl ⟨o1, o2, o3, by rw [o4, hc]⟩⟩, by omega⟩
  · exact ⟨⟨b, cc, d, e2, e4, e6, Or.inr (Or.inl ⟨o1, o2, o3, o4⟩)⟩, by omega⟩
  · rcases o8 with ⟨p1, p2, p3⟩ | ⟨p1, E4, p2, p3, p4⟩
    · exact ⟨⟨b, cc, d, e2, e4, e6, Or.inr (Or.inr ⟨o1, o2, o3, E3, o4, o5, y, z, o6, o7, Or.inl ⟨p1, p2, p3⟩⟩)⟩, by omega⟩
    · rcases p4 with ⟨q1, q2, q3⟩ | ⟨q1, q2, q3, q4⟩
      · exact ⟨⟨b, cc, d, e2, e4, e6, Or.inr (Or.inr ⟨o1, o2, o3, E3, o4, o5, y, z, o6, o7, Or.inr ⟨p1, E4, p2, p3, Or.inl ⟨q1, q2, q3⟩⟩⟩)⟩, by omega⟩
      · exact ⟨⟨b, cc, d, e2, e4, e6, Or.inr (Or.inr ⟨o1, o2, o3, E3, o4, o5, y, z, o6, o7, Or.inr ⟨p1, E4, p2, p3, Or.inr (Or.inl ⟨q1, q2, q3, q4⟩)⟩⟩)⟩, by omega⟩
theorem node2 {L : Cv} (h4 : ¬ (2 : Int) ∣ c4 L) (hd : (2 : Int) ∣ dd L) {sp : Nat} (hs : (2 ∣ a2 L + a3 L ∧ sp = 1) ∨ (¬ 2 ∣ a2 L + a3 L ∧ sp = 0)) : Out 2 L 1 0 0 sp := by
  obtain ⟨r, t, h1, h2, h3⟩ := n1_ex2 hd
  have o1 : a1 L % 2 = 1 := by
    rcases (show a1 L % 2 = 0 ∨ a1 L % 2 = 1 by omega) with h | h
    · exfalso
      apply h4
      obtain ⟨x, hx⟩ : ∃ x, a1 L = 2 * x := ⟨a1 L / 2, by omega⟩
      unfold c4 b2
      rw [hx]
      exact ⟨(2 * x * x + 2 * a2 L) * (2 * x * (2 * x) + 4 * a2 L) - 12 * b4 L, by grind⟩
    · exact h
  refine ⟨sh L r 0 t, Eqv.sh L r 0 t, h3, Or.inl ⟨?_, rfl, rfl, rfl, ?_⟩⟩
  · rw [b2_sh]
    obtain ⟨x, hx⟩ : ∃ x, a1 L = 2 * x + 1 := ⟨a1 L / 2, by omega⟩
    unfold b2; rw [hx]
    intro ⟨y, hy⟩
    have : 2 * (2 * x * x + 2 * x + 2 * a2 L + 6 * r - y) = -1 := by grind
    omega
  · obtain ⟨⟨x3, e3⟩, -⟩ := h3
    obtain ⟨x, hx⟩ : ∃ x, a1 L = 2 * x + 1 := ⟨a1 L / 2, by omega⟩
    have e3 : a3 L + r * a1 L + 2 * t = 2 * x3 := e3
    have er : (2 : Int) ∣ a3 L + r := by
      rw [hx] at e3
      exact ⟨x3 - t - r * x, by grind⟩
    have eA : a1 (sh L r 0 t) = 2 * x + 1 := by show a1 L + 2 * 0 = _; omega
    have eB : a2 (sh L r 0 t) = a2 L + 3 * r := by show a2 L - 0 * a1 L + 3 * r - 0 * 0 = _; omega
    have key : qr 2 1 (a1 (sh L r 0 t)) (-a2 (sh L r 0 t)) ↔ 2 ∣ a2 L + a3 L := by
      rw [qr_fin2, eA, eB]
      obtain ⟨w, hw⟩ := er
      constructor
      · rintro (⟨q, hq⟩ | ⟨q, hq⟩)
        · exact ⟨w - q - 2 * r, by omega⟩
        · exact ⟨w - q - 2 * r + x + 1, by omega⟩
      · intro ⟨q, hq⟩
        left
        exact ⟨-q + w - 2 * r, by omega⟩
    rcases hs with ⟨h, e⟩ | ⟨h, e⟩
    · exact Or.inl ⟨key.mpr h, e⟩
    · exact Or.inr ⟨fun h' => h (key.mp h'), e⟩
theorem qr3_b2 {A B : Int} (h : ¬ (3 : Int) ∣ A * A + 4 * B) : qr 3 1 A (-B) ↔ (3 : Int) ∣ A * A + 4 * B - 1 := by
  rw [qr_fin3]
  obtain ⟨q1, i1, rfl, e1⟩ := md3 A
  obtain ⟨q2, i2, rfl, e2⟩ := md3 B
  have e : (3 * q1 + i1) * (3 * q1 + i1) = 3 * (3 * q1 * q1 + 2 * q1 * i1) + i1 * i1 := by grind
  rw [e] at h ⊢
  clear e
  generalize 3 * q1 * q1 + 2 * q1 * i1 = w at *
  rcases e1 with rfl | rfl | rfl <;> rcases e2 with rfl | rfl | rfl <;> omega
theorem node3 {L : Cv} (h4 : ¬ (3 : Int) ∣ c4 L) (hd : (3 : Int) ∣ dd L) {sp : Nat} (hs : ((3 : Int) ∣ (-c6 L) ^ ((3 - 1) / 2) - 1 ∧ sp = 1) ∨ (¬ (3 : Int) ∣ (-c6 L) ^ ((3 - 1) / 2) - 1 ∧ sp = 0)) : Out 3 L 1 0 0 sp := by
  obtain ⟨r, h1, h3⟩ := n1_ex3 hd
  have hb : ¬ (3 : Int) ∣ b2 L := by
    intro ⟨x, hx⟩
    apply h4
    unfold c4; rw [hx]
    exact ⟨3 * x * x - 8 * b4 L, by grind⟩
  have h6 : (3 : Int) ∣ (-c6 L) ^ ((3 - 1) / 2) - 1 ↔ (3 : Int) ∣ b2 L - 1 := by
    rw [show (3 - 1) / 2 = 1 by omega, Int.pow_one]
    have : (3 : Int) ∣ -c6 L - b2 L := by
      unfold c6
      obtain ⟨q, i, e, hi⟩ := md3 (b2 L)
      rw [e]
      rcases hi with rfl | rfl | rfl
      · exact ⟨-12 * (3 * q + 0) * b4 L + 9 * q * q * q + 72 * b6 L - q, by grind⟩
      · exact ⟨-12 * (3 * q + 1) * b4 L + 9 * q * q * q + 9 * q * q + 3 * q + 72 * b6 L - q, by grind⟩
      · exact ⟨-12 * (3 * q + 2) * b4 L + 9 * q * q * q + 18 * q * q + 12 * q + 2 + 72 * b6 L - q, by grind⟩
    constructor
    · intro h; omega
    · intro h; omega
  rw [h6] at hs
  have hEG := Eqv.sh L r 0 (a3 L + r * a1 L)
  have eb : b2 (sh L r 0 (a3 L + r * a1 L)) = b2 L + 12 * r := b2_sh L r 0 _
  generalize sh L r 0 (a3 L + r * a1 L) = G at *
  have k := qr3_b2 (A := a1 G) (B := a2 G) (by show ¬ (3 : Int) ∣ b2 G; rw [eb]; omega)
  have k2 : (3 : Int) ∣ a1 G * a1 G + 4 * a2 G - 1 ↔ (3 : Int) ∣ b2 L - 1 := by
    show (3 : Int) ∣ b2 G - 1 ↔ _
    rw [eb]; omega
  refine ⟨G, hEG, h3, Or.inl ⟨by rw [eb]; omega, rfl, rfl, rfl, ?_⟩⟩
  rcases hs with ⟨h, e⟩ | ⟨h, e⟩
  · exact Or.inl ⟨k.mpr (k2.mpr h), e⟩
  · exact Or.inr ⟨fun h' => h (k2.mp (k.mp h')), e⟩
theorem RekG.ends {P : Nat} (hp : P = 2 ∨ P = 3) {L : Cv} {v : Nat → Int32} (h : RekG P L v) : Ends P L v := by
  rcases h with h | ⟨hd, N, h1, h2, h⟩
  · exact Or.inl h
  · right
    refine ⟨hd, N, ?_⟩
    rcases h with ⟨h4, sp, hs, hv⟩ | ⟨h4, E1, k, i, c, e1, e2, e3, e4, e5, e6⟩
    · refine ⟨1, 0, 0, sp, h1, h2, ?_, by omega, hv⟩
      rcases hp with rfl | rfl
      · rcases hs with ⟨-, hs⟩ | ⟨hn, -⟩
        · exact node2 h4 hd hs
        · exact absurd rfl hn
      · rcases hs with ⟨hn, -⟩ | ⟨-, hs⟩
        · omega
        · exact node3 h4 hd hs
    · refine ⟨k, i, c, 0, h1, h2, ⟨E1, e1, e2, Or.inr ⟨e3, rfl, ?_⟩⟩, ?_, e6⟩
      · rcases e4 with ⟨o1, o2⟩ | ⟨o1, o2, o3⟩ | o | ⟨o1, o2, o3, E2, o4, o5, o6⟩
        · exact Or.inl ⟨o1, o2⟩
        · exact Or.inr (Or.inl ⟨o1, o2, o3⟩)
        · exact Or.inr (Or.inr (Or.inl o))
        · exact Or.inr (Or.inr (Or.inr ⟨o1, o2, o3, E2, o4, o5, (o6.late hp).1⟩))
      · rcases e4 with ⟨o1, o2⟩ | ⟨o1, o2, o3⟩ | ⟨o1, o2, o3, o4, o5⟩ | ⟨o1, o2, o3, E2, o4, o5, o6⟩
        · omega
        · omega
        · omega
        · exact (o6.late hp).2
