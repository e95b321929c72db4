/-! the model makes it flat -/
theorem flat_ex2 {E : Cv} (h : N1 2 E) (h2 : (2 : Int) ∣ b2 E) (h6 : (2 : Int) ^ 2 ∣ a6 E) (h8 : (2 : Int) ^ 3 ∣ b8 E) (h3 : (2 : Int) ^ 3 ∣ b6 E) : FL 2 (sh E 0 (a2 E % 2) (2 * (a6 E / 4 % 2))) := by
  have ha1 := even_a1 h2
  obtain ⟨⟨x3, e3⟩, ⟨x4, e4⟩, -⟩ := h
  obtain ⟨x1, e1⟩ := ha1
  obtain ⟨x6, e6⟩ := h6
  obtain ⟨y6, f6⟩ := h3
  obtain ⟨y8, f8⟩ := h8
  have k3 : (2 : Int) ∣ x3 := by
    apply sq_dv (Or.inl rfl)
    unfold b6 at f6; rw [e3, e6] at f6
    exact ⟨y6 - 2 * x6, by grind⟩
  obtain ⟨w3, rfl⟩ := k3
  have k4 : (2 : Int) ∣ x4 := by
    apply sq_dv (Or.inl rfl)
    unfold b8 at f8; rw [e1, e3, e4, e6] at f8
    exact ⟨2 * x1 * x1 * x6 + 2 * a2 E * x6 - 2 * x1 * w3 * x4 + 2 * a2 E * w3 * w3 - y8, by grind⟩
  obtain ⟨w4, rfl⟩ := k4
  have hq : a6 E / 4 = x6 := by rw [e6]; omega
  rw [hq]
  obtain ⟨n, hn⟩ : ∃ n, a2 E = 2 * n + a2 E % 2 := ⟨a2 E / 2, by omega⟩
  obtain ⟨l, hl⟩ : ∃ l, x6 = 2 * l + x6 % 2 := ⟨x6 / 2, by omega⟩
  have hs : a2 E % 2 = 0 ∨ a2 E % 2 = 1 := by omega
  have ht : x6 % 2 = 0 ∨ x6 % 2 = 1 := by omega
  generalize a2 E % 2 = s at *
  generalize x6 % 2 = τ at *
  subst hl
  simp only [FL, sh, a1, a2, a3, a4, a6] at *
  rw [e1, e3, e4, e6, hn]
  rcases hs with rfl | rfl <;> rcases ht with rfl | rfl <;> refine ⟨?_, ?_, ?_, ?_, ?_⟩ <;> grind
theorem flat_ex3 {E : Cv} (h : N1 3 E) (h2 : (3 : Int) ∣ b2 E) (h8 : (3 : Int) ^ 3 ∣ b8 E) (h3 : (3 : Int) ^ 3 ∣ b6 E) : FL 3 (sh E 0 (a1 E % 3) (3 * (a3 E / 3 % 3))) := by
  obtain ⟨⟨x3, e3⟩, -, -⟩ := h
  have hq : a3 E / 3 = x3 := by rw [e3]; omega
  rw [hq]
  have q1 : (3 : Int) ∣ a1 E + 2 * (a1 E % 3) := by omega
  have q3 : (3 : Int) ^ 2 ∣ a3 E + 2 * (3 * (x3 % 3)) := by rw [e3]; omega
  generalize hF : sh E 0 (a1 E % 3) (3 * (x3 % 3)) = F
  have B2 : (3 : Int) ∣ b2 F := by rw [← hF, b2_sh]; simpa using h2
  have B8 : (3 : Int) ^ 3 ∣ b8 F := by rw [← hF, b8_sh]; simpa using h8
  have B6 : (3 : Int) ^ 3 ∣ b6 F := by rw [← hF, b6_sh]; simpa using h3
  have A1 : (3 : Int) ∣ a1 F := by rw [← hF]; exact q1
  have A3 : (3 : Int) ^ 2 ∣ a3 F := by rw [← hF]; show (3 : Int) ^ 2 ∣ a3 E + 0 * a1 E + 2 * (3 * (x3 % 3)); rw [Int.zero_mul, Int.add_zero]; exact q3
  obtain ⟨y1, f1⟩ := A1
  obtain ⟨y3, f3⟩ := A3
  obtain ⟨z2, g2⟩ := B2
  obtain ⟨z8, g8⟩ := B8
  obtain ⟨z6, g6⟩ := B6
  have A2 : (3 : Int) ∣ a2 F := by
    unfold b2 at g2; rw [f1] at g2
    exact ⟨z2 - 3 * y1 * y1 - a2 F, by clear hF; grind⟩
  have A6 : (3 : Int) ^ 3 ∣ a6 F := by
    unfold b6 at g6; rw [f3] at g6
    have : 4 * a6 F = 27 * (z6 - 3 * y3 * y3) := by clear hF; grind
    exact ⟨a6 F / 27, by omega⟩
  have hs := b_syz F
  rw [g8, g2, g6] at hs
  have K4 : (3 : Int) ^ 2 ∣ b4 F := by
    have h1 : (3 : Int) ∣ b4 F := sq_dv (Or.inr rfl) ⟨27 * z2 * z6 - 36 * z8, by grind⟩
    obtain ⟨u, hu⟩ := h1
    rw [hu] at hs ⊢
    have h2 : (3 : Int) ∣ u := sq_dv (Or.inr rfl) ⟨3 * z2 * z6 - 4 * z8, by grind⟩
    obtain ⟨v, rfl⟩ := h2
    exact ⟨v, by grind⟩
  refine ⟨⟨y1, f1⟩, A2, ⟨y3, f3⟩, ?_, A6⟩
  obtain ⟨w, hw⟩ := K4
  unfold b4 at hw; rw [f1, f3] at hw
  have e : 2 * a4 F = 9 * (w - 3 * y1 * y3) := by grind
  show (3 : Int) ^ 2 ∣ a4 F
  have : (9 : Int) ∣ a4 F := by omega
  exact this
def KM (ev : EV) (m : Nat) (z : PS) (E : Cv) : Prop := ∀ k, k < 5 → rJ z (rf ev 129 m) k = ph (co E k)
theorem pb_step {ev : EV} {m n k : Nat} {z : PS} (hk : k < 5) : q_X8_putsBack_2 ev m (n + 1) (nI k) z = q_X8_putsBack_2 ev m n (nI (k + 1)) (wJ z (rf ev 123 m) k (rJ z (rf ev 129 m) k)) := by
  rw [q_X8_putsBack_2, if_neg (by rw [show (5 : Int32) = nI 5 from rfl, i_le (by omega) (by omega)]; omega)]
  have hb : inB (nI k) 5 := vp_in_nI hk (by omega)
  simp only [ck_e hb, bd_e, cl k hk, nI_1]
theorem n_back {ev : EV} {m : Nat} {z : PS} {E : Cv} (hd : rf ev 123 m ≠ rf ev 129 m) (K : KM ev m z E) : g_X8_putsBack ev z m = some (sA z (rf ev 123 m) E) := by
  have hd' := hd.symm
  obtain ⟨n, hn⟩ : ∃ n, FU = n + 6 := ⟨999999999994, rfl⟩
  unfold g_X8_putsBack
  have k0 := K 0 (by omega); have k1 := K 1 (by omega); have k2 := K 2 (by omega); have k3 := K 3 (by omega); have k4 := K 4 (by omega)
  have ne : ∀ (y : PS) (j : Nat) (v : Int64) (i : Nat), rJ (wJ y (rf ev 123 m) j v) (rf ev 129 m) i = rJ y (rf ev 129 m) i := fun y j v i => by simp [rJ, wJ, hd']
  rw [hn, show (0 : Int32) = nI 0 from rfl, show n + 6 = n + 5 + 1 from rfl, pb_step (by omega), show n + 5 = n + 4 + 1 from rfl, pb_step (by omega), show n + 4 = n + 3 + 1 from rfl, pb_step (by omega), show n + 3 = n + 2 + 1 from rfl, pb_step (by omega), show n + 2 = n + 1 + 1 from rfl, pb_step (by omega)]
  simp only [ne, k0, k1, k2, k3, k4, Nat.zero_add]
  rw [q_X8_putsBack_2, if_pos (by decide)]
  congr 1
  have := wJ_sA (z := z) (A := rf ev 123 m) (E := E) (F := E)
  rw [← this]
  unfold sA wJ co
  refine Prod.ext rfl (Prod.ext rfl (Prod.ext rfl ?_))
  funext b j
  dsimp only
  by_cases hb : b = rf ev 123 m
  · subst hb
    by_cases h0 : j = 0
    · simp [h0]
    by_cases h1 : j = 1
    · simp [h1]
    by_cases h2 : j = 2
    · simp [h2]
    by_cases h3 : j = 3
    · simp [h3]
    by_cases h4 : j = 4
    · simp [h4]
    simp [h0, h1, h2, h3, h4]
  · simp [hb]
/-- the copy of the working row -/
theorem fl_step {ev : EV} {m n k : Nat} {z : PS} {p : Int64} (hk : k < 5) : q_X8_flattens_2 ev m (n + 1) p (nI k) z = q_X8_flattens_2 ev m n p (nI (k + 1)) (wJ z (rf ev 129 m) k (rJ z (rf ev 123 m) k)) := by
  rw [q_X8_flattens_2, if_neg (by rw [show (5 : Int32) = nI 5 from rfl, i_le (by omega) (by omega)]; omega)]
  have hb : inB (nI k) 5 := vp_in_nI hk (by omega)
  simp only [ck_e hb, bd_e, cl k hk, nI_1]
theorem fl_copy {ev : EV} {m : Nat} {z : PS} {E : Cv} (hd : rf ev 123 m ≠ rf ev 129 m) (A : AM ev m z E) (p : Int64) : ∃ z', g_X8_flattens ev z m p = q_X8_flattens_27 ev m FU p 0 z' ∧ AM ev m z' E ∧ KM ev m z' E ∧ Fs ev m z z' := by
  obtain ⟨n, hn⟩ : ∃ n, FU = n + 6 := ⟨999999999994, rfl⟩
  unfold g_X8_flattens
  have ne : ∀ (y : PS) (j : Nat) (v : Int64) (i : Nat), rJ (wJ y (rf ev 129 m) j v) (rf ev 123 m) i = rJ y (rf ev 123 m) i := fun y j v i => by simp [rJ, wJ, hd]
  have k0 := A 0 (by omega); have k1 := A 1 (by omega); have k2 := A 2 (by omega); have k3 := A 3 (by omega); have k4 := A 4 (by omega)
  refine ⟨wJ (wJ (wJ (wJ (wJ z (rf ev 129 m) 0 (ph (co E 0))) (rf ev 129 m) 1 (ph (co E 1))) (rf ev 129 m) 2 (ph (co E 2))) (rf ev 129 m) 3 (ph (co E 3))) (rf ev 129 m) 4 (ph (co E 4)), ?_, ?_, ?_, ?_⟩
  · conv => lhs; rw [hn, show (0 : Int32) = nI 0 from rfl, show n + 6 = n + 5 + 1 from rfl, fl_step (by omega), show n + 5 = n + 4 + 1 from rfl, fl_step (by omega), show n + 4 = n + 3 + 1 from rfl, fl_step (by omega), show n + 3 = n + 2 + 1 from rfl, fl_step (by omega), show n + 2 = n + 1 + 1 from rfl, fl_step (by omega)]
    simp only [ne, k0, k1, k2, k3, k4, Nat.zero_add]
    rw [q_X8_flattens_2, if_pos (by decide)]
  · intro k hk
    rw [ne, ne, ne, ne, ne]; exact A k hk
  · intro k hk
    rcases (show k = 0 ∨ k = 1 ∨ k = 2 ∨ k = 3 ∨ k = 4 by omega) with rfl | rfl | rfl | rfl | rfl <;> simp [rJ, wJ]
  · refine ⟨⟨rfl, fun _ _ _ => rfl, fun _ _ _ => rfl, fun b j _ h => by simp [wJ, h]⟩, rfl⟩
theorem n_flat {ev : EV} {m : Nat} {z : PS} {E : Cv} (A : AM ev m z E) {p : Int} (hp : p = 2 ∨ p = 3) (f : ∀ k, fit p (co E k)) : (FL p E → g_X8_isFlat ev z m (ph p) = some 1) ∧ (¬ FL p E → g_X8_isFlat ev z m (ph p) = some 0) := by
  have i0 : g_X8_goesIn ev z m (ph p) (0 : Int32) (1 : Int32) = some (if p ^ 1 ∣ a1 E then 1 else 0) := n_in A (k := 0) (n := 1) (by omega) (pok1 hp (by omega)) (f 0)
  have i1 : g_X8_goesIn ev z m (ph p) (1 : Int32) (1 : Int32) = some (if p ^ 1 ∣ a2 E then 1 else 0) := n_in A (k := 1) (n := 1) (by omega) (pok1 hp (by omega)) (f 1)
  have i2 : g_X8_goesIn ev z m (ph p) (2 : Int32) (2 : Int32) = some (if p ^ 2 ∣ a3 E then 1 else 0) := n_in A (k := 2) (n := 2) (by omega) (pok1 hp (by omega)) (f 2)
  have i3 : g_X8_goesIn ev z m (ph p) (3 : Int32) (2 : Int32) = some (if p ^ 2 ∣ a4 E then 1 else 0) := n_in A (k := 3) (n := 2) (by omega) (pok1 hp (by omega)) (f 3)
  have i4 : g_X8_goesIn ev z m (ph p) (4 : Int32) (3 : Int32) = some (if p ^ 3 ∣ a6 E then 1 else 0) := n_in A (k := 4) (n := 3) (by omega) (pok1 hp (by omega)) (f 4)
  rw [Int.pow_one] at i0 i1
  have d1 : ¬ (1 : Int32) = 0 := by decide
  unfold g_X8_isFlat
  rw [i0, i1, i2, i3, i4]
  simp only [ob_e]
  constructor
  · intro ⟨h1, h2, h3, h4, h6⟩
    rw [if_pos h1, if_neg d1, if_pos h2, if_neg d1, if_pos h3, if_neg d1, if_pos h4, if_neg d1, if_pos h6, if_neg d1]
  · intro hn
    by_cases h1 : p ∣ a1 E
    · rw [if_pos h1, if_neg d1]
      by_cases h2 : p ∣ a2 E
      · rw [if_pos h2, if_neg d1]
        by_cases h3 : p ^ 2 ∣ a3 E
        · rw [if_pos h3, if_neg d1]
          by_cases h4 : p ^ 2 ∣ a4 E
          · rw [if_pos h4, if_neg d1]
            by_cases h6 : p ^ 3 ∣ a6 E
            · exact absurd ⟨h1, h2, h3, h4, h6⟩ hn
            · rw [if_neg h6, if_pos rfl]
          · rw [if_neg h4, if_pos rfl]
        · rw [if_neg h3, if_pos rfl]
      · rw [if_neg h2, if_pos rfl]
    · rw [if_neg h1, if_pos rfl]
