/-! at 5 and above: what the list says of c4, c6 and the discriminant -/
def sqr (p x : Int) : Prop := ∃ T, p ∣ T * T - x
theorem qr_sqr {P : Nat} (hp : Pr P) (h3 : 3 ≤ P) {x y w : Int} (hx : ¬ (P : Int) ∣ x) : qr P x y w ↔ sqr P (y * y - 4 * x * w) := by
  constructor
  · intro ⟨T, q, hq⟩
    exact ⟨2 * x * T + y, 4 * x * q, by grind⟩
  · intro ⟨S, q, hq⟩
    have n2x : ¬ (P : Int) ∣ 2 * x := fun h => hx (hp.c2 (by omega) h)
    obtain ⟨i, a, ha⟩ := inv_ex hp n2x
    refine ⟨(S - y) * i, ?_⟩
    have : (P : Int) ∣ 2 * (2 * x * (x * ((S - y) * i) * ((S - y) * i) + y * ((S - y) * i) + w)) := by
      have e1 : 2 * x * i = P * a + 1 := by omega
      have e3 : 2 * (2 * x * (x * ((S - y) * i) * ((S - y) * i) + y * ((S - y) * i) + w)) = ((2 * x * i) * (S - y)) * ((2 * x * i) * (S - y)) + 2 * y * ((2 * x * i) * (S - y)) + 4 * x * w := by grind
      rw [e3, e1]
      refine ⟨q + (S - y) * (S - y) * (2 * a + P * a * a) + 2 * y * a * (S - y), ?_⟩
      have e4 : S * S = P * q + (y * y - 4 * x * w) := by omega
      grind
    exact (hp.2 _ _ (hp.c2 (by omega) this)).resolve_left n2x
theorem vx {p D m X : Int} {n : Nat} (hp : p ≠ 0) (h : D = p ^ n * (m + p * X)) (hm : ¬ p ∣ m) : p ^ n ∣ D ∧ ¬ p ^ (n + 1) ∣ D := by
  refine ⟨⟨_, h⟩, ?_⟩
  intro ⟨q, hq⟩
  apply hm
  refine ⟨q - X, ?_⟩
  rw [hq, Int.pow_succ] at h
  have : p * q = m + p * X := by
    apply Int.eq_of_mul_eq_mul_left (a := p ^ n) (Int.pow_ne_zero hp)
    grind
  grind
theorem Pr.n23 {p : Int} (h : Pr p) (h5 : 5 ≤ p) {x : Int} (hx : ¬ p ∣ x) : (¬ p ∣ 2 * x) ∧ (¬ p ∣ 3 * x) := ⟨fun h' => hx (h.c2 (by omega) h'), fun h' => hx (h.c3 h5 h')⟩
theorem Pr.nm {p x y : Int} (h : Pr p) (hx : ¬ p ∣ x) (hy : ¬ p ∣ y) : ¬ p ∣ x * y := fun h' => (h.2 _ _ h').elim hx hy
theorem Pr.nn {p : Int} (h : Pr p) {x : Int} (hx : ¬ p ∣ x) : ¬ p ∣ -x := fun h' => hx (Int.dvd_neg.mp h')
theorem far2 {p : Int} (h : Pr p) (h5 : 5 ≤ p) {E : Cv} (n : N1 p E) (h2 : p ∣ b2 E) (h6 : ¬ p ^ 2 ∣ a6 E) : p ^ 2 ∣ dd E ∧ ¬ p ^ 3 ∣ dd E := by
  obtain ⟨⟨x3, e3⟩, ⟨x4, e4⟩, ⟨x6, e6⟩⟩ := n
  obtain ⟨y2, hy2⟩ := h2
  have nx : ¬ p ∣ x6 := fun ⟨q, hq⟩ => h6 ⟨q, by rw [e6, hq]; grind⟩
  have k4 : b4 E = p * (a1 E * x3 + 2 * x4) := by unfold b4; rw [e3, e4]; grind
  have k6 : b6 E = p * (p * x3 * x3 + 4 * x6) := by unfold b6; rw [e3, e6]; grind
  have k8 : b8 E = p * (a1 E * a1 E * x6 + 4 * a2 E * x6 - p * a1 E * x3 * x4 + p * a2 E * x3 * x3 - p * x4 * x4) := by unfold b8; rw [e3, e4, e6]; grind
  generalize a1 E * x3 + 2 * x4 = B at *
  generalize a1 E * a1 E * x6 + 4 * a2 E * x6 - p * a1 E * x3 * x4 + p * a2 E * x3 * x3 - p * x4 * x4 = Y at *
  refine vx (m := -(2 * (2 * (2 * (2 * (3 * (3 * (3 * (x6 * x6))))))))) (X := -y2 * y2 * Y - 8 * B * B * B - 27 * (p * x3 * x3 * x3 * x3 + 8 * x3 * x3 * x6) + 9 * y2 * B * (p * x3 * x3 + 4 * x6)) h.ne ?_ ?_
  · unfold dd; rw [hy2, k4, k6, k8]; grind
  · exact h.nn (h.n23 h5 (h.n23 h5 (h.n23 h5 (h.n23 h5 (h.n23 h5 (h.n23 h5 (h.n23 h5 (h.nm nx nx)).2).2).2).1).1).1).1
theorem far3 {p : Int} (h : Pr p) (h5 : 5 ≤ p) {E : Cv} (n : N1 p E) (h2 : p ∣ b2 E) (h6 : p ^ 2 ∣ a6 E) (h8 : ¬ p ^ 3 ∣ b8 E) : p ^ 3 ∣ dd E ∧ ¬ p ^ 4 ∣ dd E := by
  obtain ⟨⟨x3, e3⟩, ⟨x4, e4⟩, -⟩ := n
  obtain ⟨x6, e6⟩ := h6
  obtain ⟨y2, hy2⟩ := h2
  have k4 : b4 E = p * (a1 E * x3 + 2 * x4) := by unfold b4; rw [e3, e4]; grind
  have k6 : b6 E = p ^ 2 * (x3 * x3 + 4 * x6) := by unfold b6; rw [e3, e6]; grind
  have k8 := b8_4 E
  rw [hy2, k4, k6] at k8
  generalize a1 E * x3 + 2 * x4 = B at *
  generalize x3 * x3 + 4 * x6 = X at *
  have n4 : ¬ p ∣ 4 := fun hd => by rcases h.2 2 2 hd with h' | h' <;> exact h.n2 (by omega) h'
  have nB : ¬ p ∣ B := by
    intro ⟨q, hq⟩
    apply h8
    apply h.can n4 3
    exact ⟨y2 * X - p * q * q, by rw [k8, hq]; grind⟩
  obtain ⟨Y, hY⟩ : p ^ 2 ∣ b8 E := by
    apply h.can n4 2
    exact ⟨p * y2 * X - B * B, by rw [k8]; grind⟩
  refine vx (m := -(2 * (2 * (2 * (B * B * B))))) (X := 9 * y2 * B * X - y2 * y2 * Y - 27 * X * X) h.ne ?_ ?_
  · unfold dd; rw [hy2, k4, k6, hY]; grind
  · exact h.nn (h.n23 h5 (h.n23 h5 (h.n23 h5 (h.nm (h.nm nB nB) nB)).1).1).1
theorem far4 {p : Int} (h : Pr p) (h5 : 5 ≤ p) {E : Cv} (h2 : p ∣ b2 E) {α δ : Int} (e3 : a3 E = p * α) (e6 : a6 E = p ^ 2 * δ) (h8 : p ^ 3 ∣ b8 E) (hb : ¬ p ^ 3 ∣ b6 E) : (p ^ 4 ∣ dd E ∧ ¬ p ^ 5 ∣ dd E) ∧ ¬ p ∣ α * α + 4 * δ ∧ ∃ X, c6 E = p ^ 2 * (-216 * (α * α + 4 * δ) + p * X) := by
  obtain ⟨y2, hy2⟩ := h2
  have k6 : b6 E = p ^ 2 * (α * α + 4 * δ) := by unfold b6; rw [e3, e6]; grind
  have nS : ¬ p ∣ α * α + 4 * δ := fun ⟨q, hq⟩ => hb ⟨q, by rw [k6, hq]; grind⟩
  generalize α * α + 4 * δ = S at *
  obtain ⟨Y, hY⟩ := h8
  have k8 := b8_4 E
  obtain ⟨B, hB⟩ : p ^ 2 ∣ b4 E := by
    apply sq3 h
    rw [hy2, k6, hY] at k8
    exact ⟨y2 * S - 4 * Y, by grind⟩
  refine ⟨vx (m := -(3 * (3 * (3 * (S * S))))) (X := -p * 0 + 9 * y2 * B * S - y2 * y2 * Y - 8 * p * B * B * B) h.ne ?_ ?_, nS, 36 * y2 * B - y2 * y2 * y2, ?_⟩
  · unfold dd; rw [hy2, hB, k6, hY]; grind
  · exact h.nn (h.n23 h5 (h.n23 h5 (h.n23 h5 (h.nm nS nS)).2).2).2
  · unfold c6; rw [hy2, hB, k6]; grind
theorem far5 {p : Int} (h : Pr p) (h5 : 5 ≤ p) {E : Cv} (f : FL p E) {b c d : Int} (hc : CB p E b c d) (hD : ¬ p ∣ cubD b c d) : (p ^ 6 ∣ dd E ∧ ¬ p ^ 7 ∣ dd E) ∧ ∃ X Y, c4 E = p ^ 2 * (16 * (b * b - 3 * c) + p * X) ∧ c6 E = p ^ 3 * (-32 * (2 * b * b * b - 9 * b * c + 27 * d) + p * Y) := by
  obtain ⟨⟨x1, e1⟩, -, ⟨x3, e3⟩, -, -⟩ := f
  obtain ⟨e2, e4, e6⟩ := hc
  have k2 : b2 E = p * (4 * b + p * (x1 * x1)) := by unfold b2; rw [e1, e2]; grind
  have k4 : b4 E = p ^ 2 * (2 * c + p * (x1 * x3)) := by unfold b4; rw [e1, e3, e4]; grind
  have k6 : b6 E = p ^ 3 * (4 * d + p * (x3 * x3)) := by unfold b6; rw [e3, e6]; grind
  have k8 : b8 E = p ^ 4 * (4 * b * d - c * c + p * (x1 * x1 * d - x1 * x3 * c + b * x3 * x3)) := by unfold b8; rw [e1, e2, e3, e4, e6]; grind
  generalize x1 * x1 * d - x1 * x3 * c + b * x3 * x3 = y at *
  generalize x1 * x1 = u at *
  generalize x1 * x3 = v at *
  generalize x3 * x3 = w at *
  refine ⟨vx (m := 2 * (2 * (2 * (2 * cubD b c d)))) (X := 9 * (u * (2 * c + p * v) * (4 * d + p * w) + 4 * b * v * (4 * d + p * w) + 8 * b * c * w) - u * (8 * b + p * u) * (4 * b * d - c * c + p * y) - 16 * b * b * y - 8 * v * ((2 * c + p * v) * (2 * c + p * v) + 2 * c * (2 * c + p * v) + 4 * c * c) - 27 * w * (8 * d + p * w)) h.ne ?_ ?_, 8 * b * u + p * u * u - 24 * v, 36 * (u * (2 * c + p * v) + 4 * b * v) - u * ((4 * b + p * u) * (4 * b + p * u) + 4 * b * (4 * b + p * u) + 16 * b * b) - 216 * w, ?_, ?_⟩
  · unfold dd cubD; rw [k2, k4, k6, k8]; grind
  · exact (h.n23 h5 (h.n23 h5 (h.n23 h5 (h.n23 h5 hD).1).1).1).1
  · unfold c4; rw [k2, k4]; grind
  · unfold c6; rw [k2, k4, k6]; grind
theorem far7 {p : Int} (h : Pr p) (h5 : 5 ≤ p) {E : Cv} (n : NT p E) {y w : Int} (e3 : a3 E = p ^ 2 * y) (e6 : a6 E = p ^ 4 * (-w)) (hd : ¬ p ∣ y * y - 4 * 1 * w) : (p ^ 8 ∣ dd E ∧ ¬ p ^ 9 ∣ dd E) ∧ p ^ 3 ∣ c4 E ∧ ∃ X, c6 E = p ^ 4 * (-216 * (y * y - 4 * 1 * w) + p * X) := by
  obtain ⟨⟨x1, e1⟩, ⟨x2, e2⟩, -, ⟨x4, e4⟩, -⟩ := n
  have k2 : b2 E = p ^ 2 * (x1 * x1 + 4 * x2) := by unfold b2; rw [e1, e2]; grind
  have k4 : b4 E = p ^ 3 * (x1 * y + 2 * x4) := by unfold b4; rw [e1, e3, e4]; grind
  have k6 : b6 E = p ^ 4 * (y * y - 4 * 1 * w) := by unfold b6; rw [e3, e6]; grind
  have k8 : b8 E = p ^ 6 * (-x1 * x1 * w - 4 * x2 * w - x1 * y * x4 + x2 * y * y - x4 * x4) := by unfold b8; rw [e1, e2, e3, e4, e6]; grind
  generalize -x1 * x1 * w - 4 * x2 * w - x1 * y * x4 + x2 * y * y - x4 * x4 = Y at *
  generalize x1 * x1 + 4 * x2 = A at *
  generalize x1 * y + 2 * x4 = B at *
  generalize y * y - 4 * 1 * w = S at *
  refine ⟨vx (m := -(3 * (3 * (3 * (S * S))))) (X := 9 * A * B * S - p * A * A * Y - 8 * B * B * B) h.ne ?_ ?_, ⟨p * A * A - 24 * B, ?_⟩, 36 * A * B - p * A * A * A, ?_⟩
  · unfold dd; rw [k2, k4, k6, k8]; grind
  · exact h.nn (h.n23 h5 (h.n23 h5 (h.n23 h5 (h.nm hd hd)).2).2).2
  · unfold c4; rw [k2, k4]; grind
  · unfold c6; rw [k2, k4, k6]; grind
theorem far8 {p : Int} (h : Pr p) (h5 : 5 ≤ p) {E : Cv} (n : NT2 p E) (h4 : ¬ p ^ 4 ∣ a4 E) : (p ^ 9 ∣ dd E ∧ ¬ p ^ 10 ∣ dd E) ∧ p ^ 3 ∣ c4 E := by
  obtain ⟨⟨x1, e1⟩, ⟨x2, e2⟩, ⟨x3, e3⟩, ⟨x4, e4⟩, ⟨x6, e6⟩⟩ := n
  have nx : ¬ p ∣ x4 := fun ⟨q, hq⟩ => h4 ⟨q, by rw [e4, hq]; grind⟩
  have k2 : b2 E = p ^ 2 * (x1 * x1 + 4 * x2) := by unfold b2; rw [e1, e2]; grind
  have k4 : b4 E = p ^ 3 * (2 * x4 + p * (x1 * x3)) := by unfold b4; rw [e1, e3, e4]; grind
  have k6 : b6 E = p ^ 5 * (p * x3 * x3 + 4 * x6) := by unfold b6; rw [e3, e6]; grind
  have k8 : b8 E = p ^ 6 * (p * (x1 * x1 * x6 + 4 * x2 * x6 - x1 * x3 * x4 + p * x2 * x3 * x3) - x4 * x4) := by unfold b8; rw [e1, e2, e3, e4, e6]; grind
  generalize p * (x1 * x1 * x6 + 4 * x2 * x6 - x1 * x3 * x4 + p * x2 * x3 * x3) - x4 * x4 = Y at *
  generalize x1 * x1 + 4 * x2 = A at *
  generalize p * x3 * x3 + 4 * x6 = C at *
  generalize x1 * x3 = v at *
  refine ⟨vx (m := -(2 * (2 * (2 * (2 * (2 * (2 * (x4 * x4 * x4)))))))) (X := 9 * A * (2 * x4 + p * v) * C - A * A * Y - 8 * v * ((2 * x4 + p * v) * (2 * x4 + p * v) + 2 * x4 * (2 * x4 + p * v) + 4 * x4 * x4) - 27 * C * C) h.ne ?_ ?_, ⟨p * A * A - 24 * (2 * x4 + p * v), ?_⟩⟩
  · unfold dd; rw [k2, k4, k6, k8]; grind
  · exact h.nn (h.n23 h5 (h.n23 h5 (h.n23 h5 (h.n23 h5 (h.n23 h5 (h.n23 h5 (h.nm (h.nm nx nx) nx)).1).1).1).1).1).1
  · unfold c4; rw [k2, k4]; grind
theorem far9 {p : Int} (h : Pr p) (h5 : 5 ≤ p) {E : Cv} (n : NT2 p E) (h4 : p ^ 4 ∣ a4 E) (h6 : ¬ p ^ 6 ∣ a6 E) : (p ^ 10 ∣ dd E ∧ ¬ p ^ 11 ∣ dd E) ∧ p ^ 3 ∣ c4 E := by
  obtain ⟨⟨x1, e1⟩, ⟨x2, e2⟩, ⟨x3, e3⟩, -, ⟨x6, e6⟩⟩ := n
  obtain ⟨x4, e4⟩ := h4
  have nx : ¬ p ∣ x6 := fun ⟨q, hq⟩ => h6 ⟨q, by rw [e6, hq]; grind⟩
  have k2 : b2 E = p ^ 2 * (x1 * x1 + 4 * x2) := by unfold b2; rw [e1, e2]; grind
  have k4 : b4 E = p ^ 4 * (2 * x4 + x1 * x3) := by unfold b4; rw [e1, e3, e4]; grind
  have k6 : b6 E = p ^ 5 * (4 * x6 + p * (x3 * x3)) := by unfold b6; rw [e3, e6]; grind
  have k8 : b8 E = p ^ 7 * (x1 * x1 * x6 + 4 * x2 * x6 - p * x1 * x3 * x4 + p * x2 * x3 * x3 - p * x4 * x4) := by unfold b8; rw [e1, e2, e3, e4, e6]; grind
  generalize x1 * x1 * x6 + 4 * x2 * x6 - p * x1 * x3 * x4 + p * x2 * x3 * x3 - p * x4 * x4 = Y at *
  generalize x1 * x1 + 4 * x2 = A at *
  generalize 2 * x4 + x1 * x3 = B at *
  generalize x3 * x3 = v at *
  refine ⟨vx (m := -(2 * (2 * (2 * (2 * (3 * (3 * (3 * (x6 * x6))))))))) (X := 9 * A * B * (4 * x6 + p * v) - A * A * Y - 8 * p * B * B * B - 27 * v * (8 * x6 + p * v)) h.ne ?_ ?_, ⟨p * A * A - 24 * p * B, ?_⟩⟩
  · unfold dd; rw [k2, k4, k6, k8]; grind
  · exact h.nn (h.n23 h5 (h.n23 h5 (h.n23 h5 (h.n23 h5 (h.n23 h5 (h.n23 h5 (h.n23 h5 (h.nm nx nx)).2).2).2).1).1).1).1
  · unfold c4; rw [k2, k4]; grind
theorem dd4 (E : Cv) : 4 * dd E = b2 E * b2 E * (b4 E * b4 E - b2 E * b6 E) - 32 * b4 E * b4 E * b4 E - 108 * b6 E * b6 E + 36 * b2 E * b4 E * b6 E := by
  have := b8_4 E
  unfold dd
  grind
theorem far6 {p : Int} (h : Pr p) (h5 : 5 ≤ p) {k : Nat} (hk : 1 ≤ k) {E : Cv} (n : NK p k E) {x y w : Int} (q : QK p k E x y w) (hd : ¬ p ∣ y * y - 4 * x * w) :
    (p ^ (k + 6) ∣ dd E ∧ ¬ p ^ (k + 6 + 1) ∣ dd E) ∧ ∃ g X Y Z, ¬ p ∣ g ∧ c4 E = p ^ 2 * (16 * g * g + p * X) ∧ c6 E = p ^ 3 * (-64 * g * g * g + p * Y) ∧ 4 * dd E = p ^ (k + 6) * ((if k % 2 = 1 then -64 * g * g * g else 64 * g * g) * (y * y - 4 * x * w) + p * Z) := by
  obtain ⟨n2, n⟩ := n
  unfold QK at q
  have n4 : ¬ p ∣ 4 := fun hd => by rcases h.2 2 2 hd with h' | h' <;> exact h.n2 (by omega) h'
  have fin : ∀ m X : Int, 4 * dd E = p ^ (k + 6) * (m + p * X) → ¬ p ∣ m → p ^ (k + 6) ∣ dd E ∧ ¬ p ^ (k + 6 + 1) ∣ dd E := by
    intro m X e hm
    obtain ⟨h1, h2⟩ := vx h.ne e hm
    exact ⟨h.can n4 _ h1, fun h' => h2 (Int.dvd_trans h' ⟨4, by grind⟩)⟩
  by_cases ho : k % 2 = 1
  · rw [if_pos ho] at n q
    simp only [if_pos ho]
    obtain ⟨e, he⟩ : ∃ e, k = 2 * e + 1 := ⟨k / 2, by omega⟩
    subst he
    rw [show (2 * e + 1 + 3) / 2 = e + 2 by omega] at n q
    obtain ⟨⟨x1, e1⟩, ⟨x2, e2⟩, -, ⟨x4, e4⟩, -⟩ := n
    obtain ⟨rfl, e3, e6⟩ := q
    have nx : ¬ p ∣ x2 := fun ⟨v, hv⟩ => n2 ⟨v, by rw [e2, hv]; grind⟩
    have p1 : p ^ (e + 2) = p ^ 2 * p ^ e := by rw [Int.pow_add]; grind
    have p2 : p ^ (e + 2 + 1) = p ^ 3 * p ^ e := by rw [Int.pow_succ, p1]; grind
    have p3 : p ^ (2 * (e + 2)) = p ^ 4 * (p ^ e * p ^ e) := by rw [show 2 * (e + 2) = 4 + (e + e) by omega, Int.pow_add, Int.pow_add]
    have p4 : p ^ (2 * e + 1 + 6) = p ^ 7 * (p ^ e * p ^ e) := by rw [show 2 * e + 1 + 6 = 7 + (e + e) by omega, Int.pow_add, Int.pow_add]
    rw [p1] at e3
    rw [p2] at e4
    rw [p3] at e6
    rw [p4] at fin ⊢
    generalize p ^ e = Q at *
    have k2 : b2 E = p * (4 * x2 + p * (x1 * x1)) := by unfold b2; rw [e1, e2]; grind
    have k4 : b4 E = p ^ 3 * Q * (x1 * y + 2 * x4) := by unfold b4; rw [e1, e3, e4]; grind
    have k6 : b6 E = p ^ 4 * (Q * Q) * (y * y - 4 * 1 * w) := by unfold b6; rw [e3, e6]; grind
    generalize x1 * x1 = u at *
    generalize x1 * y + 2 * x4 = B at *
    generalize y * y - 4 * 1 * w = S at *
    have key : 4 * dd E = p ^ 7 * (Q * Q) * (-64 * x2 * x2 * x2 * S + p * ((4 * x2 + p * u) * (4 * x2 + p * u) * B * B - u * S * ((4 * x2 + p * u) * (4 * x2 + p * u) + 4 * x2 * (4 * x2 + p * u) + 16 * x2 * x2) - 32 * p * Q * B * B * B - 108 * Q * Q * S * S + 36 * Q * (4 * x2 + p * u) * B * S)) := by
      rw [dd4, k2, k4, k6]; grind
    refine ⟨fin _ _ key ?_, x2, 8 * x2 * u + p * u * u - 24 * Q * B, 36 * Q * (4 * x2 + p * u) * B - u * ((4 * x2 + p * u) * (4 * x2 + p * u) + 4 * x2 * (4 * x2 + p * u) + 16 * x2 * x2) - 216 * Q * Q * S, _, nx, ?_, ?_, key⟩
    · have := h.nn (h.n23 h5 (h.n23 h5 (h.n23 h5 (h.n23 h5 (h.n23 h5 (h.n23 h5 (h.nm (h.nm (h.nm nx nx) nx) hd)).1).1).1).1).1).1
      rw [show -64 * x2 * x2 * x2 * S = -(2 * (2 * (2 * (2 * (2 * (2 * (x2 * x2 * x2 * S))))))) by grind]; exact this
    · unfold c4; rw [k2, k4]; grind
    · unfold c6; rw [k2, k4, k6]; grind
  · rw [if_neg ho] at n q
    simp only [if_neg ho]
    obtain ⟨e, he⟩ : ∃ e, k = 2 * e + 2 := ⟨k / 2 - 1, by omega⟩
    subst he
    rw [show (2 * e + 2 + 4) / 2 = e + 3 by omega] at n q
    obtain ⟨⟨x1, e1⟩, -, ⟨x3, e3⟩, -, -⟩ := n
    obtain ⟨e2, e4, e6⟩ := q
    have nx : ¬ p ∣ x := fun ⟨v, hv⟩ => n2 ⟨v, by rw [e2, hv]; grind⟩
    have p1 : p ^ (e + 3) = p ^ 3 * p ^ e := by rw [Int.pow_add]; grind
    have p3 : p ^ (2 * (e + 3) - 1) = p ^ 5 * (p ^ e * p ^ e) := by rw [show 2 * (e + 3) - 1 = 5 + (e + e) by omega, Int.pow_add, Int.pow_add]
    have p4 : p ^ (2 * e + 2 + 6) = p ^ 8 * (p ^ e * p ^ e) := by rw [show 2 * e + 2 + 6 = 8 + (e + e) by omega, Int.pow_add, Int.pow_add]
    rw [p1] at e3 e4
    rw [p3] at e6
    rw [p4] at fin ⊢
    generalize p ^ e = Q at *
    have k2 : b2 E = p * (4 * x + p * (x1 * x1)) := by unfold b2; rw [e1, e2]; grind
    have k4 : b4 E = p ^ 3 * Q * (2 * y + p * (x1 * x3)) := by unfold b4; rw [e1, e3, e4]; grind
    have k6 : b6 E = p ^ 5 * (Q * Q) * (4 * w + p * (x3 * x3)) := by unfold b6; rw [e3, e6]; grind
    generalize x1 * x1 = u at *
    generalize x1 * x3 = v at *
    generalize x3 * x3 = t at *
    have key : 4 * dd E = p ^ 8 * (Q * Q) * (64 * x * x * (y * y - 4 * x * w) + p * ((8 * x * u + p * u * u) * ((2 * y + p * v) * (2 * y + p * v) - (4 * x + p * u) * (4 * w + p * t)) + 16 * x * x * (4 * y * v + p * v * v - 4 * u * w - 4 * x * t - p * u * t) - 32 * Q * (2 * y + p * v) * (2 * y + p * v) * (2 * y + p * v) - 108 * p * Q * Q * (4 * w + p * t) * (4 * w + p * t) + 36 * Q * (4 * x + p * u) * (2 * y + p * v) * (4 * w + p * t))) := by
      rw [dd4, k2, k4, k6]; grind
    refine ⟨fin _ _ key ?_, x, 8 * x * u + p * u * u - 24 * Q * (2 * y + p * v), 36 * Q * (4 * x + p * u) * (2 * y + p * v) - u * ((4 * x + p * u) * (4 * x + p * u) + 4 * x * (4 * x + p * u) + 16 * x * x) - 216 * p * Q * Q * (4 * w + p * t), _, nx, ?_, ?_, key⟩
    · have := (h.n23 h5 (h.n23 h5 (h.n23 h5 (h.n23 h5 (h.n23 h5 (h.n23 h5 (h.nm (h.nm nx nx) hd)).1).1).1).1).1).1
      rw [show 64 * x * x * (y * y - 4 * x * w) = 2 * (2 * (2 * (2 * (2 * (2 * (x * x * (y * y - 4 * x * w))))))) by grind]; exact this
    · unfold c4; rw [k2, k4]; grind
    · unfold c6; rw [k2, k4, k6]; grind
