/-! the class's Fall: its steps, for every prime -/
theorem nI_L {n : Nat} (h : n < 2147483648) : (nI n).toInt64 = ph n := by
  rw [nI_l h]; rfl
/-- a power of p that may be divided by -/
def PK (p : Int) (n : Nat) : Prop := 2 ≤ p ∧ p < 2147483648 ∧ 0 < p ^ n ∧ inR (p ^ n) ∧ (p = 2 → n ≤ 62)
theorem PK.dn {p : Int} {n j : Nat} (h : PK p n) (hj : j ≤ n) : PK p j := by
  obtain ⟨h1, h2, h3, h4, h5⟩ := h
  have hj0 : 0 < p ^ j := Int.pow_pos (by omega)
  obtain ⟨d, rfl⟩ : ∃ d, n = j + d := ⟨n - j, by omega⟩
  have hd0 : 1 ≤ p ^ d := Int.pow_pos (by omega)
  have : p ^ j ≤ p ^ (j + d) := by
    rw [Int.pow_add]
    have := Int.mul_le_mul_of_nonneg_left hd0 (Int.le_of_lt hj0)
    omega
  have := h4.2
  exact ⟨h1, h2, hj0, ⟨by omega, by omega⟩, fun h => by have := h5 h; omega⟩
theorem PK.r {p : Int} {n : Nat} (h : PK p n) : inR p := ⟨by have := h.1; omega, by have := h.2.1; omega⟩
theorem PK.dv {p x : Int} {n : Nat} (h : PK p n) (f : fit p x) : inR x ∨ p ^ n ∣ 18446744073709551616 := by
  rcases f with f | f
  · right
    have hn := h.2.2.2.2 f
    have := (pow2_all ⟨n, by omega⟩).2.2
    rw [f]; exact ⟨_, this.symm⟩
  · exact Or.inl f
theorem dv1 {p x : Int} (f : fit p x) : inR x ∨ p ∣ 18446744073709551616 := by
  rcases f with f | f
  · right; rw [f]; decide
  · exact Or.inl f
theorem mod_n {p x : Int} (hp : 2 ≤ p) (hp2 : p < 2147483648) : ph (x % p) = 0 ↔ p ∣ x := mod_0 (by omega) hp2
theorem k_rest {p x : Int} (hp : 2 ≤ p) (hp2 : p < 2147483648) (f : fit p x) : g_X4_rest (ph x) (ph p) = some (ph (x % p)) := c_rest (by omega) ⟨by omega, by omega⟩ (dv1 f)
theorem k_in {ev : EV} {z : PS} {th P n : Nat} (hP : r32 z 28 th = nI P) (hk : PK P n) {x : Int} (f : fit P x) (hn : n < 1000) : g_X1_goesIn ev z th (ph x) (nI n) = some (if (P : Int) ^ n ∣ x then 1 else 0) := by
  unfold g_X1_goesIn
  rw [hP, nI_L (by have := hk.2.1; omega), c_power _ (by omega), ob_e, c_rest hk.2.2.1 hk.2.2.2.1 (hk.dv f), ob_e]
  have e : ph (x % (P : Int) ^ n) = 0 ↔ (P : Int) ^ n ∣ x := by
    have k1 := Int.emod_nonneg x (show (P : Int) ^ n ≠ 0 by have := hk.2.2.1; omega)
    have k2 := Int.emod_lt_of_pos x hk.2.2.1
    rw [l0, ph_eq ⟨by omega, by have := hk.2.2.2.1.2; omega⟩ z_R]
    exact ⟨Int.dvd_of_emod_eq_zero, Int.emod_eq_zero_of_dvd⟩
  by_cases h : (P : Int) ^ n ∣ x
  · rw [if_pos (e.mpr h), if_pos h]
  · rw [if_neg (fun h' => h (e.mp h')), if_neg h]
theorem k_part {ev : EV} {z : PS} {th P n : Nat} (hP : r32 z 28 th = nI P) (hk : PK P (n + 1)) {a : Int} (f : fit P ((P : Int) ^ n * a)) (hn : n < 1000) : ∃ w, g_X1_part ev z th (ph ((P : Int) ^ n * a)) (nI n) = some (ph w) ∧ inR w ∧ (P : Int) ∣ w - a ∧ ((P : Int) = 2 ∨ w = a) := by
  have h0 := hk.dn (j := n) (by omega)
  unfold g_X1_part
  rw [hP, nI_L (by have := hk.2.1; omega), c_power _ (by omega), ob_e, c_quot h0.2.2.1 h0.2.2.2.1, ob_e]
  rcases f with f | f
  · have hj2 := hk.2.2.2.2 f
    obtain ⟨w, k1, k2, k3⟩ := dv_q (a := a) (b := (P : Int) ^ n) (c := P) (Or.inr ⟨2 ^ (64 - (n + 1)), by
      have := (pow2_all ⟨n + 1, by omega⟩).2.2
      dsimp only at this
      rw [f, ← Int.pow_succ]; exact this⟩) h0.2.2.2.1 h0.2.2.1
    exact ⟨w, by rw [k1], k2, k3, Or.inl f⟩
  · exact ⟨a, by rw [ph_div f h0.2.2.2.1 h0.2.2.1, td_ex (by have := h0.2.2.1; omega)], by have := td_inR f h0.2.2.1; rwa [td_ex (by have := h0.2.2.1; omega)] at this, ⟨0, by omega⟩, Or.inr rfl⟩
/-- part, then the rest by p -/
theorem k_pm {ev : EV} {z : PS} {th P n : Nat} (hP : r32 z 28 th = nI P) (hk : PK P (n + 1)) {a : Int} (f : fit P ((P : Int) ^ n * a)) (hn : n < 1000) : ∃ v, g_X1_part ev z th (ph ((P : Int) ^ n * a)) (nI n) = some v ∧ g_X4_rest v (ph P) = some (ph (a % P)) := by
  obtain ⟨w, h1, h2, h3, h4⟩ := k_part (ev := ev) hP hk f hn
  refine ⟨_, h1, ?_⟩
  rw [k_rest hk.1 hk.2.1 (Or.inr h2), em_cg h3]
theorem k_pmn {ev : EV} {z : PS} {th P n : Nat} (hP : r32 z 28 th = nI P) (hk : PK P (n + 1)) (hn1 : 1 ≤ n) {a : Int} (f : fit P ((P : Int) ^ n * a)) (hn : n < 1000) : ∃ v, g_X1_part ev z th (ph ((P : Int) ^ n * a)) (nI n) = some v ∧ g_X4_rest (-v) (ph P) = some (ph (-a % P)) := by
  obtain ⟨w, h1, h2, h3, h4⟩ := k_part (ev := ev) hP hk f hn
  refine ⟨_, h1, ?_⟩
  have hw : fit (P : Int) (-w) := by
    rcases h4 with h4 | h4
    · exact Or.inl h4
    · subst h4
      rcases f with f | f
      · exact Or.inl f
      · right
        refine ⟨by have := h2.2; omega, ?_⟩
        have h2p : 2 ≤ (P : Int) ^ n := by
          obtain ⟨m, rfl⟩ : ∃ m, n = m + 1 := ⟨n - 1, by omega⟩
          rw [Int.pow_succ]
          have h3 : 1 ≤ (P : Int) ^ m := Int.pow_pos (by have := hk.1; omega)
          have h4 := Int.mul_le_mul_of_nonneg_right h3 (show 0 ≤ (P : Int) by omega)
          have := hk.1
          omega
        rcases (show 0 ≤ w ∨ w < 0 by omega) with h | h
        · omega
        · have h5 := Int.mul_le_mul_of_nonneg_right h2p (show 0 ≤ -w by omega)
          have h6 : (P : Int) ^ n * -w = -((P : Int) ^ n * w) := by grind
          rw [h6] at h5
          have := f.1
          omega
  rw [ph_neg, k_rest hk.1 hk.2.1 hw, em_cg (a := -w) (b := -a)]
  obtain ⟨q, hq⟩ := h3
  exact ⟨-q, by grind⟩
