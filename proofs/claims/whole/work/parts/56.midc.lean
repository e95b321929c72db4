/-! the class's first move -/
def LB (L : Cv) : Prop := ((0 ≤ a1 L ∧ a1 L ≤ 1) ∧ (-1 ≤ a2 L ∧ a2 L ≤ 1) ∧ (0 ≤ a3 L ∧ a3 L ≤ 1)) ∧ (-7000000 ≤ a4 L ∧ a4 L ≤ 7000000) ∧ (-7000000000 ≤ a6 L ∧ a6 L ≤ 7000000000)
theorem lb_sh {L : Cv} (h : LB L) {r s t : Int} (hr : 0 ≤ r ∧ r ≤ 1048576) (hs : 0 ≤ s ∧ s ≤ 27064) (ht : 0 ≤ t ∧ t ≤ 1000000000) :
    (0 ≤ a1 (sh L r s t) ∧ a1 (sh L r s t) ≤ 60000) ∧ (-800000000 ≤ a2 (sh L r s t) ∧ a2 (sh L r s t) ≤ 4000000) ∧ (0 ≤ a3 (sh L r s t) ∧ a3 (sh L r s t) ≤ 2100000000) ∧ (-60000000000000 ≤ a4 (sh L r s t) ∧ a4 (sh L r s t) ≤ 4000000000000) ∧ (-1100000000000000000 ≤ a6 (sh L r s t) ∧ a6 (sh L r s t) ≤ 1200000000000000000) := by
  obtain ⟨⟨h1, h2, h3⟩, h4, h6⟩ := h
  simp only [sh, a1, a2, a3, a4, a6] at *
  have m1 := mb (show -27064 ≤ s ∧ s ≤ 27064 by omega) (show -1 ≤ L.1 ∧ L.1 ≤ 1 by omega)
  have m1' : 0 ≤ s * L.1 := Int.mul_nonneg (by omega) (by omega)
  have m2 := mb (show -27064 ≤ s ∧ s ≤ 27064 by omega) (show -27064 ≤ s ∧ s ≤ 27064 by omega)
  have m2' : 0 ≤ s * s := Int.mul_nonneg (by omega) (by omega)
  have rr : -1048576 ≤ r ∧ r ≤ 1048576 := by omega
  have tt : -1000000000 ≤ t ∧ t ≤ 1000000000 := by omega
  have m3 := mb rr (show -1 ≤ L.1 ∧ L.1 ≤ 1 by omega)
  have m3' : 0 ≤ r * L.1 := Int.mul_nonneg (by omega) (by omega)
  have m4 := mb (show -27064 ≤ s ∧ s ≤ 27064 by omega) (show -1 ≤ L.2.2.1 ∧ L.2.2.1 ≤ 1 by omega)
  have m5 := mb (show -2097152 ≤ 2 * r ∧ 2 * r ≤ 2097152 by omega) h2
  have m6 := mb rr (show -27064 ≤ s ∧ s ≤ 27064 by omega)
  have m6' : 0 ≤ r * s := Int.mul_nonneg (by omega) (by omega)
  have m7 := mb (show -30000000000 ≤ t + r * s ∧ t + r * s ≤ 30000000000 by omega) (show -1 ≤ L.1 ∧ L.1 ≤ 1 by omega)
  have m8 := mb (show -3145728 ≤ 3 * r ∧ 3 * r ≤ 3145728 by omega) rr
  have m9 := mb (show -54128 ≤ 2 * s ∧ 2 * s ≤ 54128 by omega) tt
  have m9' : 0 ≤ 2 * s * t := Int.mul_nonneg (by omega) (by omega)
  have n1 := mb rr h4
  have n2 := mb rr rr
  have n3 := mb n2 h2
  have n4 := mb n2 rr
  have n4' : 0 ≤ r * r * r := Int.mul_nonneg (Int.mul_nonneg (by omega) (by omega)) (by omega)
  have n5 := mb tt (show -1 ≤ L.2.2.1 ∧ L.2.2.1 ≤ 1 by omega)
  have n6 := mb tt tt
  have n6' : 0 ≤ t * t := Int.mul_nonneg (by omega) (by omega)
  have n8 := mb (mb rr tt) (show -1 ≤ L.1 ∧ L.1 ≤ 1 by omega)
  refine ⟨by omega, by omega, by omega, by omega, by omega⟩
theorem lb_b {L : Cv} (h : LB L) {r s t : Int} (hr : 0 ≤ r ∧ r ≤ 27064) : inR (b6 (sh L r s t)) ∧ inR (b8 (sh L r s t)) := by
  obtain ⟨⟨h1, h2, h3⟩, h4, h6⟩ := h
  have q1 : a1 L * a1 L = a1 L := by rcases (show a1 L = 0 ∨ a1 L = 1 by omega) with h | h <;> rw [h] <;> rfl
  have q3 : a3 L * a3 L = a3 L := by rcases (show a3 L = 0 ∨ a3 L = 1 by omega) with h | h <;> rw [h] <;> rfl
  have q13 : 0 ≤ a1 L * a3 L ∧ a1 L * a3 L ≤ 1 := by rcases (show a1 L = 0 ∨ a1 L = 1 by omega) with h | h <;> rw [h] <;> omega
  have e2 : -4 ≤ b2 L ∧ b2 L ≤ 5 := by unfold b2; rw [q1]; omega
  have e4 : -14000001 ≤ b4 L ∧ b4 L ≤ 14000001 := by unfold b4; omega
  have e6 : -28000000001 ≤ b6 L ∧ b6 L ≤ 28000000001 := by unfold b6; rw [q3]; omega
  have e8 : -100000000000000 ≤ b8 L ∧ b8 L ≤ 100000000000000 := by
    unfold b8
    rw [q1]
    have m1 := mb (show -1 ≤ a1 L ∧ a1 L ≤ 1 by omega) h6
    have m2 := mb (show -4 ≤ 4 * a2 L ∧ 4 * a2 L ≤ 4 by omega) h6
    have m3 := mb (show -1 ≤ a1 L * a3 L ∧ a1 L * a3 L ≤ 1 by omega) h4
    have m4 := mb (mb (show -1 ≤ a2 L ∧ a2 L ≤ 1 by omega) (show -1 ≤ a3 L ∧ a3 L ≤ 1 by omega)) (show -1 ≤ a3 L ∧ a3 L ≤ 1 by omega)
    have m5 := mb h4 h4
    omega
  rw [b6_sh, b8_sh]
  have rr : -27064 ≤ r ∧ r ≤ 27064 := by omega
  have m1 := mb (show -54128 ≤ 2 * r ∧ 2 * r ≤ 54128 by omega) e4
  have m2 := mb rr rr
  have m3 := mb m2 (show -5 ≤ b2 L ∧ b2 L ≤ 5 by omega)
  have m4 := mb (mb (show -108256 ≤ 4 * r ∧ 4 * r ≤ 108256 by omega) rr) rr
  have m5 := mb (show -81192 ≤ 3 * r ∧ 3 * r ≤ 81192 by omega) e6
  have m6 := mb (mb (show -81192 ≤ 3 * r ∧ 3 * r ≤ 81192 by omega) rr) e4
  have m7 := mb (mb m2 rr) (show -5 ≤ b2 L ∧ b2 L ≤ 5 by omega)
  have m8 := mb (mb (mb (show -81192 ≤ 3 * r ∧ 3 * r ≤ 81192 by omega) rr) rr) rr
  exact ⟨⟨by omega, by omega⟩, ⟨by omega, by omega⟩⟩
theorem k_half {ev : EV} {z : PS} {th P : Nat} (hP : r32 z 28 th = nI P) (hp : 3 ≤ P) (ho : P % 2 = 1) (hp2 : P < 2147483648) {x : Int} (f : inR x) : ∃ h : Int, (0 ≤ h ∧ h < P) ∧ (P : Int) ∣ 2 * h - x ∧ g_X1_half ev z th (ph x) = some (ph h) := by
  refine ⟨x % P * ((P + 1) / 2) % P, ⟨Int.emod_nonneg _ (by omega), Int.emod_lt_of_pos _ (by omega)⟩, ?_, ?_⟩
  · obtain ⟨a, ha⟩ := em_dv (P : Int) (x % P * ((P + 1) / 2))
    obtain ⟨b, hb⟩ := em_dv (P : Int) x
    have h2 : ((P : Int) + 1) = 2 * (((P : Int) + 1) / 2) := by omega
    generalize ((P : Int) + 1) / 2 = c at *
    refine ⟨2 * a + x % P + b, ?_⟩
    have e1 : x % P * c % P = P * a + x % P * c := by omega
    have e2 : x % P = P * b + x := by omega
    rw [e1]
    have : 2 * (x % P * c) = x % P * (P + 1) := by rw [h2]; grind
    grind
  · unfold g_X1_half
    have k1 := Int.emod_nonneg x (show (P : Int) ≠ 0 by omega)
    have k2 := Int.emod_lt_of_pos x (show 0 < (P : Int) by omega)
    rw [hP, nI_L hp2, k_rest (by omega) (by omega) (Or.inr f), ob_e, l1, ph_add, ph_sh1 ⟨by omega, by omega⟩, ph_mul, k_rest (by omega) (by omega) (Or.inr ?_), ob_e]
    have m := mb (X := 2147483648) (Y := 1073741824) (x := x % P) (y := ((P : Int) + 1) / 2) (by omega) (by omega)
    exact ⟨by omega, by omega⟩
theorem Pr.n2 {p : Int} (h : Pr p) (h3 : 3 ≤ p) : ¬ p ∣ 2 := fun hd => by have := Int.le_of_dvd (by omega) hd; omega
theorem Pr.odd {P : Nat} (h : Pr P) (h3 : 3 ≤ P) : P % 2 = 1 := by
  rcases (show P % 2 = 1 ∨ P % 2 = 0 by omega) with h1 | h1
  · exact h1
  · exfalso
    rcases h.2 2 ((P / 2 : Nat) : Int) ⟨1, by omega⟩ with h2 | h2
    · exact h.n2 (by omega) h2
    · have := Int.le_of_dvd (by omega) h2; omega
theorem n1_odd {p : Int} (h : Pr p) (h3 : 3 ≤ p) {E : Cv} (k3 : p ∣ a3 E) (k4 : p ∣ b4 E) (k6 : p ∣ b6 E) : N1 p E := by
  refine ⟨k3, ?_, ?_⟩
  · have : p ∣ 2 * a4 E := by
      obtain ⟨x, hx⟩ := k3; obtain ⟨y, hy⟩ := k4
      unfold b4 at hy
      exact ⟨y - a1 E * x, by grind⟩
    exact (h.2 _ _ this).resolve_left (h.n2 h3)
  · have : p ∣ 2 * (2 * a6 E) := by
      obtain ⟨x, hx⟩ := k3; obtain ⟨y, hy⟩ := k6
      unfold b6 at hy
      exact ⟨y - a3 E * x, by grind⟩
    exact (h.2 _ _ ((h.2 _ _ this).resolve_left (h.n2 h3))).resolve_left (h.n2 h3)
theorem n1_far {p : Int} (h : Pr p) (h5 : 5 ≤ p) {E : Cv} (k2 : p ∣ b2 E) (k4 : p ∣ c4 E) (kd : p ∣ dd E) : p ∣ b4 E ∧ p ∣ b6 E ∧ p ∣ c6 E := by
  have n2 := h.n2 (by omega)
  have n3 : ¬ p ∣ 3 := fun hd => by have := Int.le_of_dvd (by omega) hd; omega
  have h4 : p ∣ b4 E := by
    have : p ∣ 2 * (2 * (2 * (3 * b4 E))) := by
      obtain ⟨x, hx⟩ := k2; obtain ⟨y, hy⟩ := k4
      unfold c4 at hy
      exact ⟨b2 E * x - y, by grind⟩
    exact (h.2 _ _ ((h.2 _ _ ((h.2 _ _ ((h.2 _ _ this).resolve_left n2)).resolve_left n2)).resolve_left n2)).resolve_left n3
  have h6 : p ∣ c6 E := by
    apply h.sq
    obtain ⟨x, hx⟩ := k4; obtain ⟨y, hy⟩ := kd
    have := dd_1728 E
    exact ⟨c4 E * c4 E * x - 1728 * y, by grind⟩
  refine ⟨h4, ?_, h6⟩
  have : p ∣ 2 * (2 * (2 * (3 * (3 * (3 * b6 E))))) := by
    obtain ⟨x, hx⟩ := k2; obtain ⟨y, hy⟩ := h4; obtain ⟨v, hv⟩ := h6
    unfold c6 at hv
    exact ⟨36 * b2 E * y - b2 E * b2 E * x - v, by grind⟩
  exact (h.2 _ _ ((h.2 _ _ ((h.2 _ _ ((h.2 _ _ ((h.2 _ _ ((h.2 _ _ this).resolve_left n2)).resolve_left n2)).resolve_left n2)).resolve_left n3)).resolve_left n3)).resolve_left n3
