/-! the model's shrinks -/
def wt (k : Nat) : Nat := if k = 4 then 6 else k + 1
theorem pw_u {u : Int} (hu : 2 ≤ u ∧ u ≤ 9) {e : Nat} (he : e ≤ 12) : 0 < u ^ e ∧ inR (u ^ e) ∧ ¬ ph (u ^ e) = 0 := by
  have h : ∀ (a : Fin 10) (b : Fin 13), 2 ≤ a.val → 0 < (a.val : Int) ^ b.val ∧ (a.val : Int) ^ b.val < 9223372036854775808 := by decide +kernel
  have := h ⟨u.toNat, by omega⟩ ⟨e, by omega⟩ (by show 2 ≤ u.toNat; omega)
  dsimp only at this
  rw [show ((u.toNat : Nat) : Int) = u by omega] at this
  have hR : inR (u ^ e) := ⟨by omega, by omega⟩
  refine ⟨this.1, hR, ?_⟩
  rw [l0, ph_eq hR z_R]; omega
theorem g_wt {k : Nat} (hk : k < 5) : g_X8_weight (nI k) = some (nI (wt k)) := by
  rcases (show k = 0 ∨ k = 1 ∨ k = 2 ∨ k = 3 ∨ k = 4 by omega) with rfl | rfl | rfl | rfl | rfl <;> rfl
theorem wt_le {k : Nat} (hk : k < 5) : wt k ≤ 6 := by
  rcases (show k = 0 ∨ k = 1 ∨ k = 2 ∨ k = 3 ∨ k = 4 by omega) with rfl | rfl | rfl | rfl | rfl <;> decide
theorem nI_s (k : Nat) : nI k + (1 : Int32) = nI (k + 1) := i_add k 1
theorem inB_n {k N : Nat} (hk : k < N) (hN : N < 2147483648) : inB (nI k) N := vp_in_nI hk hN
theorem lt5 {k : Nat} (hk : k < 5) : ¬ (5 : Int32) ≤ nI k := by
  rw [show (5 : Int32) = nI 5 from rfl, i_le (by omega) (by omega)]; omega
theorem sk_step {ev : EV} {m : Nat} {z : PS} {E : Cv} (A : AM ev m z E) {u : Int} (hu : 2 ≤ u ∧ u ≤ 9) (hR : ∀ k, inR (co E k)) {k : Nat} (hk : k < 5) (n : Nat) (b : Bool) :
    q_X8_shrinks_5 ev m (n + 1) (ph u) (if b then 1 else 0) (nI k) z = q_X8_shrinks_5 ev m n (ph u) (if (b && decide (u ^ wt k ∣ co E k)) then 1 else 0) (nI (k + 1)) z := by
  rw [q_X8_shrinks_5, if_neg (lt5 hk)]
  cases b with
  | false =>
    simp only [Bool.false_and]
    rw [if_neg (by decide : ¬ false = true), if_pos rfl, bd_e, nI_s]
  | true =>
    obtain ⟨h1, h2, h3⟩ := pw_u hu (e := wt k) (by have := wt_le hk; omega)
    rw [if_pos rfl, if_neg (by decide), ck_e (inB_n hk (by omega)), g_wt hk, ob_e, g_power8 u (by have := wt_le hk; omega), ob_e, ck_e h3, cl k hk, A k hk]
    by_cases hd : u ^ wt k ∣ co E k
    · rw [if_pos ((jr_0 (Or.inl (hR k)) h2 h1).mpr hd), bd_e, nI_s]
      simp only [hd, decide_true, Bool.and_true, if_pos]
    · rw [if_neg (fun h => hd ((jr_0 (Or.inl (hR k)) h2 h1).mp h)), bd_e, nI_s]
      simp only [hd, decide_false, Bool.and_false]
      rfl
theorem sk_end {ev : EV} {m : Nat} {z : PS} (u : Int) (n : Nat) (b : Int32) : q_X8_shrinks_5 ev m (n + 1) (ph u) b (nI 5) z = q_X8_shrinks_52 ev m FU (ph u) b 0 z := by
  rw [q_X8_shrinks_5, if_pos (by decide)]
theorem s52 {ev : EV} {m : Nat} {z : PS} {u : Int} (hu : 2 ≤ u ∧ u ≤ 9) {k : Nat} (hk : k < 5) {f : Int} (hr : rJ z (rf ev 123 m) k = ph (u ^ wt k * f)) (hR : inR (u ^ wt k * f)) (n : Nat) : q_X8_shrinks_52 ev m (n + 1) (ph u) 1 (nI k) z = q_X8_shrinks_52 ev m n (ph u) 1 (nI (k + 1)) (wJ z (rf ev 123 m) k (ph f)) := by
  obtain ⟨h1, h2, h3⟩ := pw_u hu (e := wt k) (by have := wt_le hk; omega)
  rw [q_X8_shrinks_52, if_neg (lt5 hk), if_neg (by decide), ck_e (inB_n hk (by omega)), g_wt hk, ob_e, g_power8 u (by have := wt_le hk; omega), ob_e, ck_e h3, bd_e, ck_e (inB_n hk (by omega)), bd_e, bd_e, cl k hk, hr, ph_div hR h2 h1, td_ex (by omega), nI_s]
theorem n_shr {ev : EV} {m : Nat} {z : PS} {E : Cv} (A : AM ev m z E) {u : Int} (hu : 2 ≤ u ∧ u ≤ 9) (hR : ∀ k, inR (co E k)) :
    ((∀ k, k < 5 → u ^ wt k ∣ co E k) → ∀ F, sc F u = E → g_X8_shrinks ev z m (ph u) = some (1, sA z (rf ev 123 m) F)) ∧ (¬ (∀ k, k < 5 → u ^ wt k ∣ co E k) → g_X8_shrinks ev z m (ph u) = some (0, z)) := by
  obtain ⟨n, hn⟩ := FU_ge (d := 5) (by omega)
  have key : g_X8_shrinks ev z m (ph u) = q_X8_shrinks_52 ev m FU (ph u) (if ((((((true && decide (u ^ wt 0 ∣ co E 0)) && decide (u ^ wt 1 ∣ co E 1)) && decide (u ^ wt 2 ∣ co E 2)) && decide (u ^ wt 3 ∣ co E 3)) && decide (u ^ wt 4 ∣ co E 4))) then 1 else 0) 0 z := by
    unfold g_X8_shrinks
    rw [show q_X8_shrinks_5 ev m FU (ph u) 1 0 z = q_X8_shrinks_5 ev m (n + 1 + 1 + 1 + 1 + 1 + 1) (ph u) (if true then 1 else 0) (nI 0) z by rw [hn]; rfl]
    rw [sk_step A hu hR (by omega), sk_step A hu hR (by omega), sk_step A hu hR (by omega), sk_step A hu hR (by omega), sk_step A hu hR (by omega)]
    exact sk_end u n _
  rw [key]
  constructor
  · intro hd F hF
    rw [if_pos (by simp [hd 0 (by omega), hd 1 (by omega), hd 2 (by omega), hd 3 (by omega), hd 4 (by omega)])]
    have hz := A.eq
    rw [hn, show n + 5 + 1 = n + 1 + 1 + 1 + 1 + 1 + 1 by omega, show (0 : Int32) = nI 0 from rfl]
    have c0 : co E 0 = u ^ wt 0 * a1 F := by rw [← hF]; show u * a1 F = _; rw [show wt 0 = 1 from rfl, Int.pow_one]
    have c1 : co E 1 = u ^ wt 1 * a2 F := by rw [← hF]; rfl
    have c2 : co E 2 = u ^ wt 2 * a3 F := by rw [← hF]; rfl
    have c3 : co E 3 = u ^ wt 3 * a4 F := by rw [← hF]; rfl
    have c4 : co E 4 = u ^ wt 4 * a6 F := by rw [← hF]; rfl
    rw [s52 hu (k := 0) (by omega) (f := a1 F) (by rw [A 0 (by omega), c0]) (by rw [← c0]; exact hR 0)]
    rw [s52 hu (k := 1) (by omega) (f := a2 F) (by rw [← c1, ← A 1 (by omega)]; simp [rJ, wJ]) (by rw [← c1]; exact hR 1)]
    rw [s52 hu (k := 2) (by omega) (f := a3 F) (by rw [← c2, ← A 2 (by omega)]; simp [rJ, wJ]) (by rw [← c2]; exact hR 2)]
    rw [s52 hu (k := 3) (by omega) (f := a4 F) (by rw [← c3, ← A 3 (by omega)]; simp [rJ, wJ]) (by rw [← c3]; exact hR 3)]
    rw [s52 hu (k := 4) (by omega) (f := a6 F) (by rw [← c4, ← A 4 (by omega)]; simp [rJ, wJ]) (by rw [← c4]; exact hR 4)]
    rw [q_X8_shrinks_52, if_pos (by decide), ck_e (by decide)]
    have := wJ_sA z (rf ev 123 m) E F
    rw [hz] at this
    rw [this]
  · intro hd
    rw [if_neg (fun h => hd (by
      simp only [Bool.true_and, Bool.and_eq_true, decide_eq_true_eq] at h
      obtain ⟨⟨⟨⟨h0, h1⟩, h2⟩, h3⟩, h4⟩ := h
      intro k hk
      rcases (show k = 0 ∨ k = 1 ∨ k = 2 ∨ k = 3 ∨ k = 4 by omega) with rfl | rfl | rfl | rfl | rfl <;> assumption))]
    rw [hn, q_X8_shrinks_52, if_neg (by decide), if_pos rfl, ck_e (by decide)]
theorem sc_dv (F : Cv) (u : Int) : ∀ k, k < 5 → u ^ wt k ∣ co (sc F u) k := by
  intro k hk
  rcases (show k = 0 ∨ k = 1 ∨ k = 2 ∨ k = 3 ∨ k = 4 by omega) with rfl | rfl | rfl | rfl | rfl
  · exact ⟨a1 F, by show u * a1 F = _; rw [show wt 0 = 1 from rfl, Int.pow_one]⟩
  · exact ⟨a2 F, rfl⟩
  · exact ⟨a3 F, rfl⟩
  · exact ⟨a4 F, rfl⟩
  · exact ⟨a6 F, rfl⟩
theorem sc_of {E : Cv} {u : Int} (h : ∀ k, k < 5 → u ^ wt k ∣ co E k) : ∃ F, sc F u = E := by
  obtain ⟨x0, h0⟩ := h 0 (by omega)
  obtain ⟨x1, h1⟩ := h 1 (by omega)
  obtain ⟨x2, h2⟩ := h 2 (by omega)
  obtain ⟨x3, h3⟩ := h 3 (by omega)
  obtain ⟨x4, h4⟩ := h 4 (by omega)
  refine ⟨(x0, x1, x2, x3, x4), ?_⟩
  have e0 : a1 E = u * x0 := by have : a1 E = u ^ 1 * x0 := h0
                                rwa [Int.pow_one] at this
  have e1 : a2 E = u ^ 2 * x1 := h1
  have e2 : a3 E = u ^ 3 * x2 := h2
  have e3 : a4 E = u ^ 4 * x3 := h3
  have e4 : a6 E = u ^ 6 * x4 := h4
  unfold sc
  simp only [a1, a2, a3, a4, a6] at *
  rw [← e0, ← e1, ← e2, ← e3, ← e4]
