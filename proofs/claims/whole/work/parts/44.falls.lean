/-! how often p goes into a number -/
theorem tms_loop {p : Int} (hp : 2 ≤ p) (hp2 : p < 2147483648) : ∀ (d n k : Nat) (x : Int), x ≠ 0 → inR x → x.natAbs < 2 ^ d → ∃ v, v < d ∧ p ^ v ∣ x ∧ ¬ p ^ (v + 1) ∣ x ∧ q_X8_times_15 (n + d + 1) (ph p) (nI k) (ph x) = some (nI (k + v)) := by
  have hR : inR p := ⟨by omega, by omega⟩
  have h0 : ¬ ph p = 0 := by rw [l0, ph_eq hR (by constructor <;> omega)]; omega
  intro d
  induction d with
  | zero => intro n k x hx _ h; rw [Nat.pow_zero] at h; omega
  | succ d ih =>
    intro n k x hx hxR h
    rw [q_X8_times_15, ck_e h0]
    by_cases hd : p ∣ x
    · rw [if_pos ((jr_0 (Or.inl hxR) hR (by omega)).mpr hd), ck_e h0, bd_e, bd_e]
      obtain ⟨y, rfl⟩ := hd
      have e : ph (p * y) / ph p = ph y := by rw [ph_div hxR hR (by omega), td_ex (by omega)]
      have hyR : inR y := by have := td_inR hxR (b := p) (by omega); rwa [td_ex (by omega)] at this
      have hy0 : y ≠ 0 := by intro h; subst h; exact hx (Int.mul_zero p)
      have hlt : y.natAbs < 2 ^ d := by
        rw [Int.natAbs_mul, Nat.pow_succ] at h
        have : 2 * y.natAbs ≤ p.natAbs * y.natAbs := Nat.mul_le_mul_right _ (by omega)
        omega
      obtain ⟨v, h1, h2, h3, h4⟩ := ih n (k + 1) y hy0 hyR hlt
      refine ⟨v + 1, by omega, ?_, ?_, ?_⟩
      · obtain ⟨w, rfl⟩ := h2; exact ⟨w, by rw [Int.pow_succ]; grind⟩
      · intro ⟨w, hw⟩
        apply h3
        refine ⟨w, ?_⟩
        apply Int.eq_of_mul_eq_mul_left (a := p) (by omega)
        rw [hw, Int.pow_succ]; grind
      · rw [e]
        show q_X8_times_15 (n + (d + 1)) (ph p) (nI k + nI 1) (ph y) = _
        rw [i_add, show n + (d + 1) = n + d + 1 by omega, h4]; congr 2; omega
    · rw [if_neg (fun h => hd ((jr_0 (Or.inl hxR) hR (by omega)).mp h))]
      exact ⟨0, by omega, by rw [Int.pow_zero]; exact Int.one_dvd x, by rwa [Nat.zero_add, Int.pow_one], rfl⟩
theorem n_times {p x : Int} (hp : 2 ≤ p) (hp2 : p < 2147483648) (hx : x ≠ 0) (hb : -1000000000000000000 ≤ x ∧ x ≤ 1000000000000000000) : ∃ v, v < 60 ∧ p ^ v ∣ x ∧ ¬ p ^ (v + 1) ∣ x ∧ g_X8_times (ph p) (ph x) = some (nI v) := by
  have hxR : inR x := ⟨by omega, by omega⟩
  obtain ⟨n, hn⟩ := FU_ge (d := 60) (by omega)
  obtain ⟨v, h1, h2, h3, h4⟩ := tms_loop hp hp2 60 n 0 x hx hxR (by have : (2 : Nat) ^ 60 = 1152921504606846976 := by decide
                                                                    omega)
  refine ⟨v, h1, h2, h3, ?_⟩
  unfold g_X8_times
  rw [if_neg (by rw [l0, ph_eq hxR z_R]; exact hx), hn]
  rw [Nat.zero_add] at h4
  exact h4
/-! small equations -/
def BndT (E : Cv) : Prop := (-100000 ≤ a1 E ∧ a1 E ≤ 100000) ∧ (-100000 ≤ a2 E ∧ a2 E ≤ 100000) ∧ (-100000 ≤ a3 E ∧ a3 E ≤ 100000) ∧ (-300000 ≤ a4 E ∧ a4 E ≤ 300000) ∧ (-300000 ≤ a6 E ∧ a6 E ≤ 300000)
theorem BndT.s {E : Cv} (h : BndT E) : BndS E := by
  obtain ⟨h1, h2, h3, h4, h6⟩ := h
  exact ⟨by omega, by omega, by omega, by omega, by omega⟩
theorem bndT_1 {E : Cv} (h : BndT E) {R T : Int} (hR : 0 ≤ R ∧ R ≤ 2) (hT : 0 ≤ T ∧ T ≤ 2) : inR (b2 (sh E R 0 T)) ∧ inR (b6 (sh E R 0 T)) ∧ inR (b8 (sh E R 0 T)) := by
  obtain ⟨h1, h2, h3, h4, h6⟩ := h
  have hh : (-100000 ≤ a1 (sh E R 0 T) ∧ a1 (sh E R 0 T) ≤ 100000) ∧ (-200000 ≤ a2 (sh E R 0 T) ∧ a2 (sh E R 0 T) ≤ 200000) ∧ (-400000 ≤ a3 (sh E R 0 T) ∧ a3 (sh E R 0 T) ≤ 400000) ∧ (-2000000 ≤ a4 (sh E R 0 T) ∧ a4 (sh E R 0 T) ≤ 2000000) ∧ (-4000000 ≤ a6 (sh E R 0 T) ∧ a6 (sh E R 0 T) ≤ 4000000) := by
    simp only [sh, a1, a2, a3, a4, a6] at *
    rcases (show R = 0 ∨ R = 1 ∨ R = 2 by omega) with rfl | rfl | rfl <;> rcases (show T = 0 ∨ T = 1 ∨ T = 2 by omega) with rfl | rfl | rfl <;> refine ⟨by omega, by omega, by omega, by omega, by omega⟩
  generalize sh E R 0 T = G at hh
  obtain ⟨g1, g2, g3, g4, g6⟩ := hh
  unfold b2 b6 b8 inR
  have m1 := mb g1 g1
  have m2 := mb g3 g3
  have m3 := mb m1 g6
  have m4 := mb (show -800000 ≤ 4 * a2 G ∧ 4 * a2 G ≤ 800000 by omega) g6
  have m5 := mb (mb g1 g3) g4
  have m6 := mb (mb g2 g3) g3
  have m7 := mb g4 g4
  refine ⟨by omega, by omega, by omega⟩
theorem bndT_shr {E F : Cv} (h : BndT E) {r s t : Int} (hr : 0 ≤ r ∧ r ≤ 16) (hs : 0 ≤ s ∧ s ≤ 2) (ht : 0 ≤ t ∧ t ≤ 102) (e : sc F 3 = sh E r s t) : BndT F := by
  obtain ⟨h1, h2, h3, h4, h6⟩ := h
  unfold sc sh at e
  have e1 : 3 * a1 F = a1 E + 2 * s := congrArg (fun x => x.1) e
  have e2 : 9 * a2 F = a2 E - s * a1 E + 3 * r - s * s := congrArg (fun x => x.2.1) e
  have e3 : 27 * a3 F = a3 E + r * a1 E + 2 * t := congrArg (fun x => x.2.2.1) e
  have e4 : 81 * a4 F = a4 E - s * a3 E + 2 * r * a2 E - (t + r * s) * a1 E + 3 * r * r - 2 * s * t := congrArg (fun x => x.2.2.2.1) e
  have e6 : 729 * a6 F = a6 E + r * a4 E + r * r * a2 E + r * r * r - t * a3 E - t * t - r * t * a1 E := congrArg (fun x => x.2.2.2.2) e
  have rr : -16 ≤ r ∧ r ≤ 16 := by omega
  have ss : -2 ≤ s ∧ s ≤ 2 := by omega
  have tt : -102 ≤ t ∧ t ≤ 102 := by omega
  have m1 := mb ss h1
  have m2 := mb ss ss
  have m3 := mb rr h1
  have m4 := mb ss h3
  have m5 := mb (show -32 ≤ 2 * r ∧ 2 * r ≤ 32 by omega) h2
  have m6 := mb rr ss
  have m7 := mb (show -134 ≤ t + r * s ∧ t + r * s ≤ 134 by omega) h1
  have m8 := mb (show -48 ≤ 3 * r ∧ 3 * r ≤ 48 by omega) rr
  have m9 := mb (show -4 ≤ 2 * s ∧ 2 * s ≤ 4 by omega) tt
  have n1 := mb rr h4
  have n2 := mb rr rr
  have n3 := mb n2 h2
  have n4 := mb n2 rr
  have n5 := mb tt h3
  have n6 := mb tt tt
  have n8 := mb (mb rr tt) h1
  refine ⟨by omega, by omega, by omega, by omega, by omega⟩
