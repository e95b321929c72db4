/-! small ones -/
def SmE (E : Cv) : Prop := (-9 ≤ a1 E ∧ a1 E ≤ 9) ∧ (-9 ≤ a2 E ∧ a2 E ≤ 9) ∧ (-9 ≤ a3 E ∧ a3 E ≤ 9) ∧ (-99 ≤ a4 E ∧ a4 E ≤ 99) ∧ (-99 ≤ a6 E ∧ a6 E ≤ 99)
theorem sm_b {E : Cv} (h : SmE E) : (-20385 ≤ c4 E ∧ c4 E ≤ 20385) ∧ (-2879793 ≤ c6 E ∧ c6 E ≤ 2879793) ∧ (-732497742 ≤ dd E ∧ dd E ≤ 732497742) := by
  obtain ⟨h1, h2, h3, h4, h6⟩ := h
  have m11 := mb h1 h1
  have m13 := mb h1 h3
  have m33 := mb h3 h3
  have m116 := mb m11 h6
  have m26 := mb (show -36 ≤ 4 * a2 E ∧ 4 * a2 E ≤ 36 by omega) h6
  have m134 := mb m13 h4
  have m23 := mb (mb h2 h3) h3
  have m44 := mb h4 h4
  have p2 : -117 ≤ b2 E ∧ b2 E ≤ 117 := by unfold b2; omega
  have p4 : -279 ≤ b4 E ∧ b4 E ≤ 279 := by unfold b4; omega
  have p6 : -477 ≤ b6 E ∧ b6 E ≤ 477 := by unfold b6; omega
  have p8 : -30132 ≤ b8 E ∧ b8 E ≤ 30132 := by unfold b8; omega
  have n22 := mb p2 p2
  have n222 := mb n22 p2
  have n24 := mb (show -4212 ≤ 36 * b2 E ∧ 36 * b2 E ≤ 4212 by omega) p4
  have n246 := mb (mb (show -1053 ≤ 9 * b2 E ∧ 9 * b2 E ≤ 1053 by omega) p4) p6
  have n228 := mb n22 p8
  have n444 := mb (mb (show -2232 ≤ 8 * b4 E ∧ 8 * b4 E ≤ 2232 by omega) p4) p4
  have n66 := mb (show -12879 ≤ 27 * b6 E ∧ 27 * b6 E ≤ 12879 by omega) p6
  refine ⟨?_, ?_, ?_⟩
  · unfold c4; omega
  · unfold c6; omega
  · unfold dd; omega
theorem sm_KG (ev : EV) {E : Cv} (h : SmE E) (h0 : dd E ≠ 0) : ∃ L u, KG E L u ∧ B5 L := by
  obtain ⟨q4, q6, q12⟩ := sm_b h
  obtain ⟨L, u, g1, g2, g3, g4, -⟩ := c_lower (ev := ev) (z := (fun _ _ => 0, fun _ _ => 0, fun _ _ => 0, fun _ _ => 0)) (l6 := 0) h0 ⟨by omega, by omega⟩ ⟨by omega, by omega⟩ ⟨by omega, by omega⟩ (d8_big h0 ⟨by omega, by omega⟩)
  have u4 : 1 ≤ u ^ 4 := Int.pow_pos g1
  have u6 : 1 ≤ u ^ 6 := Int.pow_pos g1
  have e4 : c4 E = u ^ 4 * c4 L := by rw [← g2.c4, c4_sc]
  have e6 : c6 E = u ^ 6 * c6 L := by rw [← g2.c6, c6_sc]
  have k := red_ub g3 (dvd_ab u4 e4 q4) (dvd_ab u6 e6 q6)
  refine ⟨L, u, ⟨g1, g2, g3, g4, h0, ?_, QB.small h0 q12⟩, ⟨by omega, by omega⟩, by omega, by omega⟩
  refine ⟨c4 E, c6 E, dd E, 1, 1, 1, by omega, by omega, by decide, h0, q12, ?_, ?_, ?_⟩ <;> simp
/-! twists -/
def dv210 : List Nat := [1, 2, 3, 5, 6, 7, 10, 14, 15, 21, 30, 35, 42, 70, 105, 210]
theorem dv210_all : ∀ x : Fin 211, x.val ∣ 210 → x.val ∈ dv210 := by decide +kernel
theorem dv210_sq : ∀ x ∈ dv210, ∀ y ∈ dv210, x * y = Nat.gcd x y * Nat.gcd x y * (x * y / (Nat.gcd x y * Nat.gcd x y)) ∧ x * y / (Nat.gcd x y * Nat.gcd x y) ∣ 210 ∧ 0 < Nat.gcd x y := by decide +kernel
theorem tw_sq {d d0 : Int} (h : d ∣ 210) (h0 : d0 ∣ 210) : ∃ g d' : Int, 0 < g ∧ d' ∣ 210 ∧ d * d0 = g * g * d' := by
  have k : ∀ {e : Int}, e ∣ 210 → e.natAbs ∈ dv210 := by
    intro e he
    have h1 : e.natAbs ∣ 210 := Int.natAbs_dvd_natAbs.mpr he
    have h2 := Nat.le_of_dvd (by omega) h1
    exact dv210_all ⟨e.natAbs, by omega⟩ h1
  obtain ⟨e1, e2, e3⟩ := dv210_sq _ (k h) _ (k h0)
  have em := Int.natAbs_mul d d0
  generalize Nat.gcd d.natAbs d0.natAbs = g at *
  generalize d.natAbs * d0.natAbs / (g * g) = q at *
  have e1' : ((d * d0).natAbs : Int) = (g : Int) * g * q := by rw [em, e1]; push_cast; rfl
  have hq : (q : Int) ∣ 210 := by have := nd_int.mpr e2; exact this
  rcases (show d * d0 = ((d * d0).natAbs : Int) ∨ d * d0 = -((d * d0).natAbs : Int) by omega) with h1 | h1
  · exact ⟨g, q, by omega, hq, by rw [h1, e1']⟩
  · exact ⟨g, -q, by omega, Int.neg_dvd.mpr hq, by rw [h1, e1', Int.mul_neg]⟩
theorem tw_pw {d d0 g d' : Int} (h : d * d0 = g * g * d') (n : Nat) : d ^ n * d0 ^ n = g ^ (n + n) * d' ^ n := by
  rw [← Int.mul_pow, h, Int.mul_pow, Int.mul_pow, ← Int.pow_add]
theorem tw_mx {T x c S D0 A B C G K y : Int} (e : T * x = S * (A * y)) (h : B * A = G * C) : T * (c * B * x) = S * (c * G) * (C * y) := by
  have h1 : T * (c * B * x) = c * B * (T * x) := by grind
  have h2 : c * B * (S * (A * y)) = c * S * y * (B * A) := by grind
  rw [h1, e, h2, h]; grind
theorem TW.twist {L F : Cv} {d : Int} (hd : d ∣ 210) (k : TW L) (f4 : c4 F = 16 * d ^ 2 * c4 L) (f6 : c6 F = 64 * d ^ 3 * c6 L) (f12 : dd F = 4096 * d ^ 6 * dd L) : TW F := by
  obtain ⟨x0, y0, D0, d0, s, t, h1, h2, h3, h4, h5, e4, e6, e12⟩ := k
  obtain ⟨g, d', g0, g1, g2⟩ := tw_sq hd h3
  refine ⟨x0, y0, D0, d', s * (2 * g), t, Int.mul_pos h1 (by omega), h2, g1, h4, h5, ?_, ?_, ?_⟩
  · rw [f4, Int.mul_pow (a := s), Int.mul_pow (a := 2) (b := g), show (2 : Int) ^ 4 = 16 by decide]
    exact tw_mx (D0 := 0) (K := 0) e4 (tw_pw g2 2)
  · rw [f6, Int.mul_pow (a := s), Int.mul_pow (a := 2) (b := g), show (2 : Int) ^ 6 = 64 by decide]
    exact tw_mx (D0 := 0) (K := 0) e6 (tw_pw g2 3)
  · rw [f12, Int.mul_pow (a := s), Int.mul_pow (a := 2) (b := g), show (2 : Int) ^ 12 = 4096 by decide]
    exact tw_mx (D0 := 0) (K := 0) e12 (tw_pw g2 6)
/-- the equation of a twist -/
def tq (L : Cv) (d : Int) : Cv := (0, d * b2 L, 0, 8 * d * d * b4 L, 16 * d * d * d * b6 L)
theorem tq_b (L : Cv) (d : Int) : b2 (tq L d) = 4 * (d * b2 L) ∧ b4 (tq L d) = 16 * (d * d * b4 L) ∧ b6 (tq L d) = 64 * (d * d * d * b6 L) := by
  refine ⟨?_, ?_, ?_⟩
  · show (0 : Int) * 0 + 4 * (d * b2 L) = 4 * (d * b2 L); omega
  · show (0 : Int) * 0 + 2 * (8 * d * d * b4 L) = 16 * (d * d * b4 L); grind
  · show (0 : Int) * 0 + 4 * (16 * d * d * d * b6 L) = 64 * (d * d * d * b6 L); grind
theorem tq_c (L : Cv) (d : Int) : c4 (tq L d) = 16 * d ^ 2 * c4 L ∧ c6 (tq L d) = 64 * d ^ 3 * c6 L ∧ dd (tq L d) = 4096 * d ^ 6 * dd L := by
  obtain ⟨e2, e4, e6⟩ := tq_b L d
  have k4 : c4 (tq L d) = 16 * d ^ 2 * c4 L := by unfold c4; rw [e2, e4]; grind
  have k6 : c6 (tq L d) = 64 * d ^ 3 * c6 L := by unfold c6; rw [e2, e4, e6]; grind
  refine ⟨k4, k6, ?_⟩
  have h1 := dd_1728 (tq L d)
  have h2 := dd_1728 L
  rw [k4, k6] at h1
  have h3 : 16 * d ^ 2 * c4 L * (16 * d ^ 2 * c4 L) * (16 * d ^ 2 * c4 L) - 64 * d ^ 3 * c6 L * (64 * d ^ 3 * c6 L) = 4096 * d ^ 6 * (c4 L * c4 L * c4 L - c6 L * c6 L) := by grind
  rw [h3, ← h2] at h1
  have h4 : 4096 * d ^ 6 * (1728 * dd L) = 1728 * (4096 * d ^ 6 * dd L) := by grind
  omega
theorem cube_lt {x M : Int} (hx : M < x) (h0 : 0 ≤ M) : M * M * M < x * x * x := by
  have h1 : M * M ≤ x * x := Int.mul_le_mul (by omega) (by omega) h0 (by omega)
  have h2 : 0 ≤ M * M := Int.mul_nonneg h0 h0
  have h3 : M * M * M ≤ x * x * M := Int.mul_le_mul_of_nonneg_right h1 h0
  have h4 : 0 < x * x := Int.mul_pos (by omega) (by omega)
  have h5 : x * x * M < x * x * x := Int.mul_lt_mul_of_pos_left hx h4
  omega
theorem tw_c {L : Cv} (r : Red L) (h5 : B5 L) (hd : -2000000000 ≤ dd L ∧ dd L ≤ 2000000000) : (-198330 ≤ c4 L ∧ c4 L ≤ 198330) ∧ (-88300000 ≤ c6 L ∧ c6 L ≤ 88300000) := by
  have e := dd_1728 L
  obtain ⟨k4, k6⟩ := red_lb r h5.1 h5.2
  have sq1 := mb k6 k6
  have n1 : 0 ≤ c6 L * c6 L := by
    rcases Int.le_total 0 (c6 L) with h | h
    · exact Int.mul_nonneg h h
    · have := Int.mul_nonneg (show 0 ≤ -c6 L by omega) (show 0 ≤ -c6 L by omega); grind
  have c1 : c4 L ≤ 250000 := by
    rcases (show c4 L ≤ 250000 ∨ 250000 < c4 L by omega) with h | h
    · exact h
    · have := cube_lt h (by omega); omega
  have c0 : -16000 ≤ c4 L := by
    rcases (show -16000 ≤ c4 L ∨ 16000 < -c4 L by omega) with h | h
    · exact h
    · have := cube_lt h (by omega)
      have e2 : -c4 L * -c4 L * -c4 L = -(c4 L * c4 L * c4 L) := by grind
      omega
  obtain ⟨m2, e4, e6, t4, t6, bb, bbb⟩ := red_b r
  have h52 := h5.2
  have b24 := mb (X := 5) (Y := 10420) (x := b2 L) (y := b4 L) (by omega) (by omega)
  have e' : 36 * b2 L * b4 L = 36 * (b2 L * b4 L) := by grind
  rw [e'] at e6
  have d6 : -88300000 ≤ c6 L ∧ c6 L ≤ 88300000 := by omega
  have sq2 := mb d6 d6
  refine ⟨⟨by omega, ?_⟩, d6⟩
  rcases (show c4 L ≤ 198330 ∨ 198330 < c4 L by omega) with h | h
  · exact h
  · have := cube_lt h (by omega); omega
def isD (d : Int) : Prop := d = -1 ∨ d = 2 ∨ d = -2 ∨ d = 3 ∨ d = -3 ∨ d = 5 ∨ d = -5 ∨ d = 6 ∨ d = -6 ∨ d = 7 ∨ d = -7 ∨ d = 10 ∨ d = -10
theorem isD.v {d : Int} (h : isD d) : d ∣ 210 ∧ (-10 ≤ d ∧ d ≤ 10) ∧ (0 ≤ d * d ∧ d * d ≤ 100) ∧ (-1000 ≤ d * d * d ∧ d * d * d ≤ 1000) ∧ (1 ≤ d ^ 6 ∧ d ^ 6 ≤ 1000000) ∧ (∀ Q : Nat, Pr Q → (Q : Int) ∣ d → Q < 11) ∧ d ≠ 0 := by
  have hq : ∀ Q : Nat, Pr Q → (Q : Int) ∣ d → Q < 11 := by
    intro Q _ hd
    rcases (show 0 < d ∨ 0 < -d by unfold isD at h; omega) with h1 | h1
    · have := Int.le_of_dvd h1 hd; unfold isD at h; omega
    · have := Int.le_of_dvd h1 (Int.dvd_neg.mpr hd); unfold isD at h; omega
  rcases h with rfl | rfl | rfl | rfl | rfl | rfl | rfl | rfl | rfl | rfl | rfl | rfl | rfl <;>
    exact ⟨by decide, by decide, by decide, by decide, by decide, hq, by decide⟩
theorem q4096 {Q : Nat} (hq : Pr Q) (h : Q ∣ 4096) : Q < 11 := by
  have h1 : (Q : Int) ∣ 2 := hq.pow 12 (by have := nd_int.mpr h; exact this)
  have := Int.le_of_dvd (by omega) h1
  omega
/-- a twist's equation: its least one -/
theorem tw_PQ (ev : EV) {E L : Cv} {u : Int} (h : HG E L u) (hd : -2000000000 ≤ dd L ∧ dd L ≤ 2000000000) {d : Int} (h1 : isD d) : ∃ L' u', KG (tq L d) L' u' ∧ HI (tq L d) L' u' ∧ ∀ (z : PS) (l6 : Nat), g_X3_lower ev z (ph (16 * d ^ 2 * c4 L)) (ph (64 * d ^ 3 * c6 L)) (ph (4096 * d ^ 6 * dd L)) l6 = some (ph u', sE z l6 L') := by
  obtain ⟨k, s5, d8, h5⟩ := h
  have kL := k.least
  obtain ⟨-, -, hr, hm, h0, hT, hQ⟩ := kL
  obtain ⟨v1, v2, v3, v4, v5, v6, v7⟩ := h1.v
  obtain ⟨e4, e6, e12⟩ := tq_c L d
  obtain ⟨b4', b6'⟩ := tw_c hr h5 hd
  have f2 : d ^ 2 = d * d := by grind
  have f3 : d ^ 3 = d * d * d := by grind
  have g4 := mb (X := 1600) (x := 16 * d ^ 2) (y := c4 L) (by rw [f2]; omega) b4'
  have g6 := mb (X := 64000) (x := 64 * d ^ 3) (y := c6 L) (by rw [f3]; omega) b6'
  have g12 := mb (X := 4096000000) (x := 4096 * d ^ 6) (y := dd L) (by omega) hd
  rw [← e4] at g4
  rw [← e6] at g6
  rw [← e12] at g12
  have n0 : dd (tq L d) ≠ 0 := by
    rw [e12]
    exact Int.mul_ne_zero (by omega) h0
  have big : ∀ Q : Nat, Pr Q → 32 ≤ Q → ¬ (Q : Int) ^ 12 ∣ dd (tq L d) := by
    intro Q hq h32 hdv
    rw [e12] at hdv
    have nq : ¬ (Q : Int) ∣ 4096 * d ^ 6 := by
      intro hh
      rcases hq.2 _ _ hh with hh | hh
      · have := q4096 hq (by have := nd_int.mp (show (Q : Int) ∣ ((4096 : Nat) : Int) from hh); exact this); omega
      · have := v6 Q hq (hq.pow 6 hh); omega
    have := hq.can nq 12 hdv
    exact d8_big h0 ⟨by omega, by omega⟩ Q hq h32 this
  have b12 : b9 (dd (tq L d)) := ⟨by omega, by omega⟩
  have low : ∀ (z : PS) (l6 : Nat), ∃ L' u', 0 < u' ∧ Eqv (tq L d) (sc L' u') ∧ Red L' ∧ (∀ Q : Nat, Pr Q → Min Q L') ∧ g_X3_lower ev z (ph (c4 (tq L d))) (ph (c6 (tq L d))) (ph (dd (tq L d))) l6 = some (ph u', sE z l6 L') := fun z l6 => c_lower n0 b12 ⟨by omega, by omega⟩ ⟨by omega, by omega⟩ big
  obtain ⟨L', u', p1, p2, p3, p4, -⟩ := low (fun _ _ => 0, fun _ _ => 0, fun _ _ => 0, fun _ _ => 0) 0
  have u4 : 1 ≤ u' ^ 4 := Int.pow_pos p1
  have u6 : 1 ≤ u' ^ 6 := Int.pow_pos p1
  have w4 : c4 (tq L d) = u' ^ 4 * c4 L' := by rw [← p2.c4, c4_sc]
  have w6 : c6 (tq L d) = u' ^ 6 * c6 L' := by rw [← p2.c6, c6_sc]
  have kb := red_ub p3 (dvd_ab u4 w4 g4) (dvd_ab u6 w6 g6)
  have hTW := hT.twist v1 e4 e6 e12
  have hQB : QB (dd (tq L d)) := by
    have := hQ.mul (m := (4096 * d ^ 6).toNat) (fun Q hq hh => by
      have h1 : (Q : Int) ∣ 4096 * d ^ 6 := by have := nd_int.mpr hh; rwa [Int.toNat_of_nonneg (show 0 ≤ 4096 * d ^ 6 by omega)] at this
      rcases hq.2 _ _ h1 with hh | hh
      · exact q4096 hq (by have := nd_int.mp (show (Q : Int) ∣ ((4096 : Nat) : Int) from hh); exact this)
      · exact v6 Q hq (hq.pow 6 hh))
    rwa [Int.toNat_of_nonneg (show 0 ≤ 4096 * d ^ 6 by omega), ← e12] at this
  have KGt : KG (tq L d) L' u' := ⟨p1, p2, p3, p4, n0, hTW, hQB⟩
  obtain ⟨m2, q4, q6, t4, t6, bb, bbb⟩ := red_b hr
  have h52 := h5.2
  have r4 : -8300 ≤ b4 L ∧ b4 L ≤ 8300 := by omega
  have r6 : -400001 ≤ b6 L ∧ b6 L ≤ 400001 := by omega
  have x2 := mb v2 (show -5 ≤ b2 L ∧ b2 L ≤ 5 by omega)
  have x4 := mb (show -100 ≤ d * d ∧ d * d ≤ 100 by omega) r4
  have x6 := mb v4 r6
  obtain ⟨y2, y4, y6⟩ := tq_b L d
  refine ⟨L', u', KGt, ⟨⟨p1, p2, red_LB p3 (by omega) (by omega), n0, b12⟩, ⟨⟨by omega, by omega⟩, ⟨by omega, by omega⟩, ?_, ?_⟩, p4, hTW⟩, ?_⟩
  · have s4 : a4 (tq L d) = 8 * (d * d * b4 L) := by show 8 * d * d * b4 L = _; grind
    have s6 : a6 (tq L d) = 16 * (d * d * d * b6 L) := by show 16 * d * d * d * b6 L = _; grind
    refine ⟨by show -131072 ≤ (0 : Int) ∧ (0 : Int) ≤ 131072; omega, ?_, by show -300000 ≤ (0 : Int) ∧ (0 : Int) ≤ 300000; omega, by rw [s4]; omega, by rw [s6]; omega⟩
    show -131072 ≤ d * b2 L ∧ d * b2 L ≤ 131072
    omega
  · refine ⟨by rw [y2]; omega, by rw [y4]; omega, by rw [y6]; omega, ?_⟩
    have sy := b_syz (tq L d)
    have z26 := mb (X := 200) (x := b2 (tq L d)) (by rw [y2]; omega) (show -25600064000 ≤ b6 (tq L d) ∧ b6 (tq L d) ≤ 25600064000 by rw [y6]; omega)
    have z44 := mb (show -13280000 ≤ b4 (tq L d) ∧ b4 (tq L d) ≤ 13280000 by rw [y4]; omega) (show -13280000 ≤ b4 (tq L d) ∧ b4 (tq L d) ≤ 13280000 by rw [y4]; omega)
    omega
  · intro z l6
    obtain ⟨L2, u2, s1, s2, s3, s4, s5⟩ := low z l6
    obtain ⟨o1, o2⟩ := lm_one s1 p1 s2 p2 s3 p3 s4 p4
    rw [← e4, ← e6, ← e12, s5, o1, o2]
