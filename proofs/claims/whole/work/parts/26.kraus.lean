/-! Kraus: the conditions at 2 and 3 are enough -/
theorem kr3 {x y z D n : Int} (h : x * x * x - y * y = 27 * D) (k3 : K3 y) (hz : z = -y + 3 * n) : (3 : Int) ∣ z * z - x ∧ (27 : Int) ∣ z * z * z - 3 * z * x - 2 * y := by
  unfold K3 at k3
  obtain ⟨a, i, rfl, hi⟩ := md3 x
  obtain ⟨q, j, rfl, hj⟩ := md3 y
  rcases hj with rfl | rfl | rfl
  · have hi0 : i = 0 := by
      rw [show (3 * q + 0) * (3 * q + 0) = 9 * (q * q) by grind] at h
      rcases hi with rfl | rfl | rfl
      · rfl
      · exfalso; rw [show (3 * a + 1) * (3 * a + 1) * (3 * a + 1) = 3 * (9 * (a * a * a) + 9 * (a * a) + 3 * a) + 1 by grind] at h; omega
      · exfalso; rw [show (3 * a + 2) * (3 * a + 2) * (3 * a + 2) = 3 * (9 * (a * a * a) + 18 * (a * a) + 12 * a) + 8 by grind] at h; omega
    have hq3 : q % 3 = 0 := by
      rw [hi0, show (3 * q + 0) * (3 * q + 0) = 9 * (q * q) by grind, show (3 * a + 0) * (3 * a + 0) * (3 * a + 0) = 27 * (a * a * a) by grind] at h
      have : (3 : Int) ∣ q := sq_dv (Or.inr rfl) ⟨a * a * a - D, by omega⟩
      omega
    obtain ⟨q1, e1⟩ : ∃ q1, 3 * q + 0 = 27 * q1 := ⟨(3 * q + 0) / 27, by omega⟩
    rw [e1] at h hz ⊢
    subst hi0
    obtain ⟨m, rfl⟩ : ∃ m, z = 3 * m := ⟨n - 9 * q1, by omega⟩
    exact ⟨⟨3 * m * m - a, by grind⟩, ⟨m * m * m - m * a - 2 * q1, by grind⟩⟩
  · have hi1 : i = 1 := by
      rw [show (3 * q + 1) * (3 * q + 1) = 9 * (q * q) + 6 * q + 1 by grind] at h
      rcases hi with rfl | rfl | rfl
      · exfalso; rw [show (3 * a + 0) * (3 * a + 0) * (3 * a + 0) = 27 * (a * a * a) by grind] at h; omega
      · rfl
      · exfalso; rw [show (3 * a + 2) * (3 * a + 2) * (3 * a + 2) = 3 * (9 * (a * a * a) + 18 * (a * a) + 12 * a) + 8 by grind] at h; omega
    subst hi1
    rw [show (3 * q + 1) * (3 * q + 1) = 9 * (q * q) + 6 * q + 1 by grind, show (3 * a + 1) * (3 * a + 1) * (3 * a + 1) = 27 * (a * a * a) + 27 * (a * a) + 9 * a + 1 by grind] at h
    obtain ⟨q1, rfl⟩ : ∃ q1, q = 3 * q1 := ⟨q / 3, by omega⟩
    rw [show 3 * q1 * (3 * q1) = 9 * (q1 * q1) by grind] at h
    obtain ⟨a1, rfl⟩ : ∃ a1, a = 2 * q1 + 3 * a1 := ⟨(a - 2 * q1) / 3, by omega⟩
    obtain ⟨m, rfl⟩ : ∃ m, z = 3 * m - 1 := ⟨n - 3 * q1, by omega⟩
    exact ⟨⟨3 * m * m - 2 * m - 2 * q1 - 3 * a1, by grind⟩, ⟨m * m * m - m * m + a1 - 2 * m * q1 - 3 * m * a1, by grind⟩⟩
  · have hi1 : i = 1 := by
      rw [show (3 * q + 2) * (3 * q + 2) = 9 * (q * q) + 12 * q + 4 by grind] at h
      rcases hi with rfl | rfl | rfl
      · exfalso; rw [show (3 * a + 0) * (3 * a + 0) * (3 * a + 0) = 27 * (a * a * a) by grind] at h; omega
      · rfl
      · exfalso; rw [show (3 * a + 2) * (3 * a + 2) * (3 * a + 2) = 3 * (9 * (a * a * a) + 18 * (a * a) + 12 * a) + 8 by grind] at h; omega
    subst hi1
    obtain ⟨q2, rfl⟩ : ∃ q2, q = q2 - 1 := ⟨q + 1, by omega⟩
    rw [show (3 * (q2 - 1) + 2) * (3 * (q2 - 1) + 2) = 9 * (q2 * q2) - 6 * q2 + 1 by grind, show (3 * a + 1) * (3 * a + 1) * (3 * a + 1) = 27 * (a * a * a) + 27 * (a * a) + 9 * a + 1 by grind] at h
    obtain ⟨q1, rfl⟩ : ∃ q1, q2 = 3 * q1 := ⟨q2 / 3, by omega⟩
    rw [show 3 * q1 * (3 * q1) = 9 * (q1 * q1) by grind] at h
    obtain ⟨a1, rfl⟩ : ∃ a1, a = -2 * q1 + 3 * a1 := ⟨(a + 2 * q1) / 3, by omega⟩
    obtain ⟨m, rfl⟩ : ∃ m, z = 3 * m + 1 := ⟨n - 3 * q1, by omega⟩
    exact ⟨⟨3 * m * m + 2 * m + 2 * q1 - 3 * a1, by grind⟩, ⟨m * m * m + m * m - a1 + 2 * m * q1 - 3 * m * a1, by grind⟩⟩
theorem kr2 {x y z D n : Int} (h : x * x * x - y * y = 64 * D) (k2 : K2 x y) (hz : z = -y + 4 * n) : (8 : Int) ∣ z * z - x ∧ (16 : Int) ∣ z * z * z - 3 * z * x - 2 * y := by
  rcases k2 with k | ⟨k1, k⟩
  · obtain ⟨a, rfl⟩ : ∃ a, y = 4 * a - 1 := ⟨(y + 1) / 4, by omega⟩
    obtain ⟨m, rfl⟩ : ∃ m, z = 4 * m + 1 := ⟨n - a, by omega⟩
    rw [show (4 * a - 1) * (4 * a - 1) = 16 * (a * a) - 8 * a + 1 by grind] at h
    have hx : x % 8 = 1 := by
      obtain ⟨b, i, rfl, hi⟩ : ∃ b i, x = 8 * b + i ∧ (i = 0 ∨ i = 1 ∨ i = 2 ∨ i = 3 ∨ i = 4 ∨ i = 5 ∨ i = 6 ∨ i = 7) := ⟨x / 8, x % 8, by omega, by omega⟩
      rw [show (8 * b + i) * (8 * b + i) * (8 * b + i) = 8 * (64 * (b * b * b) + 24 * (b * b) * i + 3 * b * i * i) + i * i * i by grind] at h
      generalize 64 * (b * b * b) + 24 * (b * b) * i + 3 * b * i * i = e at h
      rcases hi with rfl | rfl | rfl | rfl | rfl | rfl | rfl | rfl <;> omega
    obtain ⟨b, rfl⟩ : ∃ b, x = 8 * b + 1 := ⟨x / 8, by omega⟩
    rw [show (8 * b + 1) * (8 * b + 1) * (8 * b + 1) = 512 * (b * b * b) + 192 * (b * b) + 24 * b + 1 by grind] at h
    obtain ⟨f, hf⟩ : ∃ f, a = b + 2 * f := by
      refine ⟨(a - b) / 2, ?_⟩
      have : (a - b) % 2 = 0 := by generalize b * b * b = u at h; generalize b * b = v at h; generalize a * a = w at h; omega
      omega
    subst hf
    exact ⟨⟨2 * m * m + m - b, by grind⟩, ⟨4 * m * m * m + 3 * m * m - 6 * m * b - 2 * b - f, by grind⟩⟩
  · obtain ⟨a, rfl⟩ : ∃ a, y = 8 * a := ⟨y / 8, by omega⟩
    obtain ⟨m, rfl⟩ : ∃ m, z = 4 * m := ⟨n - 2 * a, by omega⟩
    obtain ⟨b, rfl⟩ : ∃ b, x = 16 * b := ⟨x / 16, by omega⟩
    exact ⟨⟨2 * m * m - 2 * b, by grind⟩, ⟨4 * m * m * m - 12 * m * b - a, by grind⟩⟩
theorem kraus {x y D : Int} (h : x * x * x - y * y = 1728 * D) (k2 : K2 x y) (k3 : K3 y) : c4 (lead x y) = x ∧ c6 (lead x y) = y := by
  obtain ⟨n, hn⟩ : ∃ n, ldb y = -y + 12 * n := by
    unfold ldb
    split
    · exact ⟨-((-y) / 12) - 1, by omega⟩
    · exact ⟨-((-y) / 12), by omega⟩
  have hb : -5 ≤ ldb y ∧ ldb y ≤ 6 := by unfold ldb; split <;> omega
  unfold lead
  generalize ldb y = z at hn hb ⊢
  dsimp only
  obtain ⟨t1, t2⟩ := kr3 (x := x) (y := y) (z := z) (D := 64 * D) (n := 4 * n) (by omega) k3 (by omega)
  obtain ⟨t3, t4⟩ := kr2 (x := x) (y := y) (z := z) (D := 27 * D) (n := 3 * n) (by omega) k2 (by omega)
  obtain ⟨v, hv⟩ : ∃ v, z * z - x = 24 * v := ⟨(z * z - x) / 24, by generalize z * z - x = g at *; omega⟩
  obtain ⟨w, hw⟩ : ∃ w, z * z * z - 3 * z * x - 2 * y = 432 * w := ⟨(z * z * z - 3 * z * x - 2 * y) / 432, by generalize z * z * z - 3 * z * x - 2 * y = g at *; omega⟩
  have ex : x = z * z - 24 * v := by omega
  have ey : y = 36 * z * v - z * z * z - 216 * w := by
    have : 2 * y = 2 * (36 * z * v - z * z * z - 216 * w) := by rw [ex] at hw; grind
    omega
  have q4 : (z * z - x) / 24 = v := by rw [hv]; omega
  rw [q4]
  have q6 : (36 * z * v - z * z * z - y) / 216 = w := by rw [ey]; omega
  rw [q6]
  have hD : 4 * D = z * z * (v * v - z * w) - 32 * (v * v * v) - 108 * (w * w) + 36 * (z * v * w) := by
    have : 432 * (4 * D) = 432 * (z * z * (v * v - z * w) - 32 * (v * v * v) - 108 * (w * w) + 36 * (z * v * w)) := by
      rw [ex, ey] at h; grind
    omega
  -- parities
  have key : (z % 2 = 0 ∧ z % 4 = 0 ∧ v % 2 = 0 ∧ (w % 4 = 0 ∨ w % 4 = 1)) ∨ (z % 2 = 1 ∧ z % 4 = 1 ∧ v % 2 = w % 2 ∧ (w % 4 = 0 ∨ w % 4 = 1)) := by
    rcases k2 with k | ⟨k1, k⟩
    · right
      have hz4 : z % 4 = 1 := by omega
      refine ⟨by omega, hz4, ?_⟩
      obtain ⟨m, rfl⟩ : ∃ m, z = 4 * m + 1 := ⟨z / 4, by omega⟩
      have h4 : (v * v - w) % 4 = 0 := by
        rw [show (4 * m + 1) * (4 * m + 1) * (v * v - (4 * m + 1) * w) = 4 * ((4 * m * m + 2 * m) * (v * v - (4 * m + 1) * w) - m * w) + (v * v - w) by grind] at hD
        generalize (4 * m * m + 2 * m) * (v * v - (4 * m + 1) * w) - m * w = g1 at hD
        generalize v * v * v = g2 at hD
        generalize w * w = g3 at hD
        generalize (4 * m + 1) * v * w = g4 at hD
        omega
      obtain ⟨e, i, rfl, hi⟩ := md2 v
      rcases hi with rfl | rfl
      · rw [show (2 * e + 0) * (2 * e + 0) = 4 * (e * e) by grind] at h4; omega
      · rw [show (2 * e + 1) * (2 * e + 1) = 4 * (e * e) + 4 * e + 1 by grind] at h4; omega
    · left
      have hz4 : z % 4 = 0 := by omega
      obtain ⟨m, rfl⟩ : ∃ m, z = 4 * m := ⟨z / 4, by omega⟩
      obtain ⟨b, hbx⟩ : ∃ b, x = 16 * b := ⟨x / 16, by omega⟩
      obtain ⟨f, hfy⟩ : ∃ f, y = 8 * f ∧ (f % 4 = 0 ∨ f % 4 = 1) := ⟨y / 8, by omega, by omega⟩
      refine ⟨by omega, by omega, ?_, ?_⟩
      · rw [hbx, show 4 * m * (4 * m) = 16 * (m * m) by grind] at hv; omega
      · rw [hbx, hfy.1, show 4 * m * (4 * m) * (4 * m) = 64 * (m * m * m) by grind, show 3 * (4 * m) * (16 * b) = 192 * (m * b) by grind] at hw
        generalize m * m * m = g1 at hw
        generalize m * b = g2 at hw
        omega
  have B2 : b2 (z % 2, (z - z % 2) / 4, w % 2, (v - z % 2 * (w % 2)) / 2, (w - w % 2) / 4) = z := by
    unfold b2; simp only [a1, a2]
    rcases key with ⟨e1, e2, e3, e4⟩ | ⟨e1, e2, e3, e4⟩ <;> rw [e1] <;> omega
  have B4 : b4 (z % 2, (z - z % 2) / 4, w % 2, (v - z % 2 * (w % 2)) / 2, (w - w % 2) / 4) = v := by
    unfold b4; simp only [a1, a3, a4]
    rcases key with ⟨e1, e2, e3, e4⟩ | ⟨e1, e2, e3, e4⟩ <;> rw [e1] <;> omega
  have B6 : b6 (z % 2, (z - z % 2) / 4, w % 2, (v - z % 2 * (w % 2)) / 2, (w - w % 2) / 4) = w := by
    unfold b6; simp only [a3, a6]
    have : w % 2 * (w % 2) = w % 2 := by rcases (show w % 2 = 0 ∨ w % 2 = 1 by omega) with e | e <;> rw [e] <;> rfl
    rw [this]
    rcases key with ⟨e1, e2, e3, e4⟩ | ⟨e1, e2, e3, e4⟩ <;> omega
  unfold c4 c6
  rw [B2, B4, B6]
  exact ⟨by omega, by omega⟩
