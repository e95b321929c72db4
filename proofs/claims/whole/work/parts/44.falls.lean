/-! how often p goes into a number -/
theorem tms_loop {p : Int} (hp : 2 ≤ p) (hp2 : p < 2147483648) : ∀ (d n k : Nat) (x : Int), x ≠ 0 → inR x → x.natAbs < 2 ^ d → ∃ v, v < d ∧ p ^ v ∣ x ∧ ¬ p ^ (v + 1) ∣ x ∧ q_X8_times_15 (n + d + 1) (ph p) (nI k) (ph x) = some (nI (k + v)) := by
  have hR : inR p := ⟨by omega, by omega⟩
  have h0 : ¬ ph p = 0 := by rw [l0, ph_eq hR (by constructor <;> omega)]; omega
  intro d
  induction d with
  | zero => intro n k x hx _ h; rw [Nat.pow_zero] at h; omega
  | succ d ih =>
    intro n k x hx hxR h
    rw [q_X8_times_15, ck_e h0]
    by_cases hd : p ∣ x
    · rw [if_pos ((jr_0 (Or.inl hxR) hR (by omega)).mpr hd), ck_e h0, bd_e, bd_e]
      obtain ⟨y, rfl⟩ := hd
      have e : ph (p * y) / ph p = ph y := by rw [ph_div hxR hR (by omega), td_ex (by omega)]
      have hyR : inR y := by have := td_inR hxR (b := p) (by omega); rwa [td_ex (by omega)] at this
      have hy0 : y ≠ 0 := by intro h; subst h; exact hx (Int.mul_zero p)
      have hlt : y.natAbs < 2 ^ d := by
        rw [Int.natAbs_mul, Nat.pow_succ] at h
        have : 2 * y.natAbs ≤ p.natAbs * y.natAbs := Nat.mul_le_mul_right _ (by omega)
        omega
      obtain ⟨v, h1, h2, h3, h4⟩ := ih n (k + 1) y hy0 hyR hlt
      refine ⟨v + 1, by omega, ?_, ?_, ?_⟩
      · obtain ⟨w, rfl⟩ := h2; exact ⟨w, by rw [Int.pow_succ]; grind⟩
      · intro ⟨w, hw⟩
        apply h3
        refine ⟨w, ?_⟩
        apply Int.eq_of_mul_eq_mul_left (a := p) (by omega)
        rw [hw, Int.pow_succ]; grind
      · rw [e]
        show q_X8_times_15 (n + (d + 1)) (ph p) (nI k + nI 1) (ph y) = _
        rw [i_add, show n + (d + 1) = n + d + 1 by omega, h4]; congr 2; omega
    · rw [if_neg (fun h => hd ((jr_0 (Or.inl hxR) hR (by omega)).mp h))]
      exact ⟨0, by omega, by rw [Int.pow_zero]; exact Int.one_dvd x, by rwa [Nat.zero_add, Int.pow_one], rfl⟩
theorem n_times {p x : Int} (hp : 2 ≤ p) (hp2 : p < 2147483648) (hx : x ≠ 0) (hb : -9000000000000000000 ≤ x ∧ x ≤ 9000000000000000000) : ∃ v, v < 63 ∧ p ^ v ∣ x ∧ ¬ p ^ (v + 1) ∣ x ∧ g_X8_times (ph p) (ph x) = some (nI v) := by
  have hxR : inR x := ⟨by omega, by omega⟩
  obtain ⟨n, hn⟩ := FU_ge (d := 63) (by omega)
  obtain ⟨v, h1, h2, h3, h4⟩ := tms_loop hp hp2 63 n 0 x hx hxR (by have : (2 : Nat) ^ 63 = 9223372036854775808 := by decide
                                                                    omega)
  refine ⟨v, h1, h2, h3, ?_⟩
  unfold g_X8_times
  rw [if_neg (by rw [l0, ph_eq hxR z_R]; exact hx), hn]
  rw [Nat.zero_add] at h4
  exact h4
/-! small equations -/
def BndU (E : Cv) : Prop := (-131072 ≤ a1 E ∧ a1 E ≤ 131072) ∧ (-131072 ≤ a2 E ∧ a2 E ≤ 131072) ∧ (-300000 ≤ a3 E ∧ a3 E ≤ 300000) ∧ (-1073741824 ≤ a4 E ∧ a4 E ≤ 1073741824) ∧ (-17592186044416 ≤ a6 E ∧ a6 E ≤ 17592186044416)
def BndB (E : Cv) : Prop := (-20000000000 ≤ b2 E ∧ b2 E ≤ 20000000000) ∧ (-20000000000 ≤ b4 E ∧ b4 E ≤ 20000000000) ∧ (-100000000000000 ≤ b6 E ∧ b6 E ≤ 100000000000000) ∧ (-1000000000000000000 ≤ b8 E ∧ b8 E ≤ 1000000000000000000)
theorem bndU_sh {E : Cv} (h : BndU E) {r s t : Int} (hr : 0 ≤ r ∧ r ≤ 16) (hs : 0 ≤ s ∧ s ≤ 2) (ht : 0 ≤ t ∧ t ≤ 102) : (-131076 ≤ a1 (sh E r s t) ∧ a1 (sh E r s t) ≤ 131076) ∧ (-393268 ≤ a2 (sh E r s t) ∧ a2 (sh E r s t) ≤ 393268) ∧ (-2397356 ≤ a3 (sh E r s t) ∧ a3 (sh E r s t) ≤ 2397356) ∧ (-1097000000 ≤ a4 (sh E r s t) ∧ a4 (sh E r s t) ≤ 1097000000) ∧ (-17610000000000 ≤ a6 (sh E r s t) ∧ a6 (sh E r s t) ≤ 17610000000000) := by
  obtain ⟨h1, h2, h3, h4, h6⟩ := h
  simp only [sh, a1, a2, a3, a4, a6] at *
  have rr : -16 ≤ r ∧ r ≤ 16 := by omega
  have ss : -2 ≤ s ∧ s ≤ 2 := by omega
  have tt : -102 ≤ t ∧ t ≤ 102 := by omega
  have m1 := mb ss h1
  have m2 := mb ss ss
  have m3 := mb rr h1
  have m4 := mb ss h3
  have m5 := mb (show -32 ≤ 2 * r ∧ 2 * r ≤ 32 by omega) h2
  have m6 := mb rr ss
  have m7 := mb (show -134 ≤ t + r * s ∧ t + r * s ≤ 134 by omega) h1
  have m8 := mb (show -48 ≤ 3 * r ∧ 3 * r ≤ 48 by omega) rr
  have m9 := mb (show -4 ≤ 2 * s ∧ 2 * s ≤ 4 by omega) tt
  have n1 := mb rr h4
  have n2 := mb rr rr
  have n3 := mb n2 h2
  have n4 := mb n2 rr
  have n5 := mb tt h3
  have n6 := mb tt tt
  have n8 := mb (mb rr tt) h1
  refine ⟨by omega, by omega, by omega, by omega, by omega⟩
theorem bndU_b {E : Cv} (h : BndU E) {r t : Int} (hr : 0 ≤ r ∧ r ≤ 2) (ht : 0 ≤ t ∧ t ≤ 2) : Bnd (sh E r 0 t) := by
  obtain ⟨h1, h2, h3, h4, h6⟩ := h
  unfold Bnd
  simp only [sh, a1, a2, a3, a4, a6] at *
  rcases (show r = 0 ∨ r = 1 ∨ r = 2 by omega) with rfl | rfl | rfl <;> rcases (show t = 0 ∨ t = 1 ∨ t = 2 by omega) with rfl | rfl | rfl <;> refine ⟨by omega, by omega, by omega, by omega, by omega⟩
theorem bndU_shr {E F : Cv} (h : BndU E) {p : Int} (hp : p = 2 ∨ p = 3) {r s t : Int} (hr : 0 ≤ r ∧ r ≤ 16) (hs : 0 ≤ s ∧ s ≤ 2) (ht : 0 ≤ t ∧ t ≤ 102) (e : sc F p = sh E r s t) : BndU F ∧ ∀ k, inR (co (sc F p) k) := by
  have hb := bndU_sh h hr hs ht
  rw [← e] at hb
  clear e
  constructor
  · unfold BndU
    unfold sc at hb
    simp only [a1, a2, a3, a4, a6] at *
    rcases hp with rfl | rfl <;> refine ⟨by omega, by omega, by omega, by omega, by omega⟩
  · intro k
    unfold co inR
    repeat' split
    all_goals omega
theorem bndB_sh {E : Cv} (h : BndB E) {r s t : Int} (hr : 0 ≤ r ∧ r ≤ 16) : (-20000000192 ≤ b2 (sh E r s t) ∧ b2 (sh E r s t) ≤ 20000000192) ∧ (-341000000000 ≤ b4 (sh E r s t) ∧ b4 (sh E r s t) ≤ 341000000000) ∧ (-106000000000000 ≤ b6 (sh E r s t) ∧ b6 (sh E r s t) ≤ 106000000000000) ∧ (-1010000000000000000 ≤ b8 (sh E r s t) ∧ b8 (sh E r s t) ≤ 1010000000000000000) := by
  rw [b2_sh, b4_sh, b6_sh, b8_sh]
  obtain ⟨h2, h4, h6, h8⟩ := h
  have rr : -16 ≤ r ∧ r ≤ 16 := by omega
  have m1 := mb rr h2
  have m2 := mb (show -96 ≤ 6 * r ∧ 6 * r ≤ 96 by omega) rr
  have m3 := mb (show -32 ≤ 2 * r ∧ 2 * r ≤ 32 by omega) h4
  have m4 := mb rr rr
  have m5 := mb m4 h2
  have m6 := mb (mb (show -64 ≤ 4 * r ∧ 4 * r ≤ 64 by omega) rr) rr
  have m7 := mb (show -48 ≤ 3 * r ∧ 3 * r ≤ 48 by omega) h6
  have m8 := mb (mb (show -48 ≤ 3 * r ∧ 3 * r ≤ 48 by omega) rr) h4
  have m9 := mb (mb m4 rr) h2
  have n1 := mb (mb (mb (show -48 ≤ 3 * r ∧ 3 * r ≤ 48 by omega) rr) rr) rr
  refine ⟨by omega, by omega, by omega, by omega⟩
theorem bndB_shr {E F : Cv} (h : BndB E) {r s t : Int} (hr : 0 ≤ r ∧ r ≤ 16) (e : sc F 3 = sh E r s t) : BndB F := by
  have hb := bndB_sh h (s := s) (t := t) hr
  rw [← e, b2_sc, b4_sc, b6_sc, b8_sc] at hb
  unfold BndB
  generalize b2 F = x2 at *
  generalize b4 F = x4 at *
  generalize b6 F = x6 at *
  generalize b8 F = x8 at *
  refine ⟨by omega, by omega, by omega, by omega⟩
