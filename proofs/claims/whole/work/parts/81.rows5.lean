/-! the model's rows of five, and what its work may change -/
def AH (ev : EV) (m : Nat) (z : PS) (a : Nat) (E : Cv) : Prop := ∀ k, k < 5 → rJ z (rf ev a m) k = ph (co E k)
def mlA : List Nat := [122, 123, 124, 125, 129, 131, 132, 134]
def DM (ev : EV) (m : Nat) : Prop := (∀ i j : Nat, i ∈ mlA → j ∈ mlA → i ≠ j → rf ev i m ≠ rf ev j m) ∧ rf ev 127 m ≠ rf ev 133 m
theorem DM.ne {ev : EV} {m : Nat} (h : DM ev m) (i j : Nat) (hi : i ∈ mlA := by decide) (hj : j ∈ mlA := by decide) (hn : i ≠ j := by decide) : rf ev i m ≠ rf ev j m := h.1 i j hi hj hn
def sb (ev : EV) (m b : Nat) : Prop := b ≠ rf ev 123 m ∧ b ≠ rf ev 124 m ∧ b ≠ rf ev 125 m ∧ b ≠ rf ev 129 m ∧ b ≠ rf ev 131 m ∧ b ≠ rf ev 132 m ∧ b ≠ rf ev 134 m
theorem DM.sb {ev : EV} {m : Nat} (h : DM ev m) : sb ev m (rf ev 122 m) := ⟨h.ne 122 123, h.ne 122 124, h.ne 122 125, h.ne 122 129, h.ne 122 131, h.ne 122 132, h.ne 122 134⟩
def FM (ev : EV) (m : Nat) (z z' : PS) : Prop := (∀ i x, ¬ ((i = 120 ∨ i = 126 ∨ i = 135) ∧ x = m) → z'.1 i x = z.1 i x) ∧ (∀ i x, ¬ ((i = 128 ∨ i = 130) ∧ x = m) → z'.2.1 i x = z.2.1 i x) ∧ (∀ b j, b ≠ rf ev 127 m → z'.2.2.1 b j = z.2.2.1 b j) ∧ (∀ b j, sb ev m b → z'.2.2.2 b j = z.2.2.2 b j)
theorem FM.rf (ev : EV) (m : Nat) (z : PS) : FM ev m z z := ⟨fun _ _ _ => rfl, fun _ _ _ => rfl, fun _ _ _ => rfl, fun _ _ _ => rfl⟩
theorem FM.tr {ev : EV} {m : Nat} {x y z : PS} (h : FM ev m x y) (h' : FM ev m y z) : FM ev m x z :=
  ⟨fun i w hw => (h'.1 i w hw).trans (h.1 i w hw), fun i w hw => (h'.2.1 i w hw).trans (h.2.1 i w hw), fun b j hb => (h'.2.2.1 b j hb).trans (h.2.2.1 b j hb), fun b j hb => (h'.2.2.2 b j hb).trans (h.2.2.2 b j hb)⟩
theorem Fr.fm {ev : EV} {m : Nat} {z z' : PS} (h : Fr ev m z z') : FM ev m z z' :=
  ⟨fun i x _ => by rw [h.1], fun i x hx => h.2.1 i x (fun hh => hx ⟨Or.inl hh.1, hh.2⟩), h.2.2.1, fun b j hb => h.2.2.2 b j hb.1 hb.2.2.2.1⟩
theorem wJ5 (z : PS) (B : Nat) (E : Cv) : wJ (wJ (wJ (wJ (wJ z B 0 (ph (co E 0))) B 1 (ph (co E 1))) B 2 (ph (co E 2))) B 3 (ph (co E 3))) B 4 (ph (co E 4)) = sA z B E := by
  unfold sA wJ co
  refine Prod.ext rfl (Prod.ext rfl (Prod.ext rfl ?_))
  funext b j
  dsimp only
  by_cases hb : b = B
  · subst hb
    by_cases h0 : j = 0
    · simp [h0]
    by_cases h1 : j = 1
    · simp [h1]
    by_cases h2 : j = 2
    · simp [h2]
    by_cases h3 : j = 3
    · simp [h3]
    by_cases h4 : j = 4
    · simp [h4]
    simp [h0, h1, h2, h3, h4]
  · simp [hb]
theorem cp5 {α : Type} {Q : Nat → Int32 → PS → Option α} {A B o : Nat} (hAB : A ≠ B) (st : ∀ n k z, k < 5 → Q (n + 1) (nI k) z = Q n (nI (k + 1)) (wJ z B k (rJ z A (o + k)))) (n : Nat) (z : PS) {E : Cv} (hE : ∀ k, k < 5 → rJ z A (o + k) = ph (co E k)) : Q (n + 5) 0 z = Q n (nI 5) (sA z B E) := by
  have ne : ∀ (y : PS) (j : Nat) (v : Int64) (i : Nat), rJ (wJ y B j v) A i = rJ y A i := fun y j v i => by simp [rJ, wJ, hAB]
  rw [show (0 : Int32) = nI 0 from rfl, show n + 5 = n + 4 + 1 from rfl, st _ _ _ (by omega), show n + 4 = n + 3 + 1 from rfl, st _ _ _ (by omega), show n + 3 = n + 2 + 1 from rfl, st _ _ _ (by omega), show n + 2 = n + 1 + 1 from rfl, st _ _ _ (by omega), st _ _ _ (by omega)]
  simp only [ne, hE 0 (by omega), hE 1 (by omega), hE 2 (by omega), hE 3 (by omega), hE 4 (by omega), Nat.zero_add]
  rw [wJ5]
theorem AH_sA (ev : EV) (m : Nat) (z : PS) (a : Nat) (E : Cv) : AH ev m (sA z (rf ev a m) E) a E := fun k hk => sA_co z _ E hk
theorem sA_ne (z : PS) {A b : Nat} (E : Cv) (h : b ≠ A) (j : Nat) : rJ (sA z A E) b j = rJ z b j := by simp [sA, rJ, h]
theorem AH.ne {ev : EV} {m : Nat} {z : PS} {a b : Nat} {E F : Cv} (h : AH ev m z a E) (hn : rf ev a m ≠ rf ev b m) : AH ev m (sA z (rf ev b m) F) a E := fun k hk => by rw [sA_ne z F hn]; exact h k hk
theorem FM_sA (ev : EV) (m : Nat) (z : PS) {a : Nat} (E : Cv) (ha : a = 123 ∨ a = 124 ∨ a = 125 ∨ a = 129 ∨ a = 131 ∨ a = 132 ∨ a = 134) : FM ev m z (sA z (rf ev a m) E) := by
  refine ⟨fun _ _ _ => rfl, fun _ _ _ => rfl, fun _ _ _ => rfl, fun b j hb => ?_⟩
  refine sA_ne z E ?_ j
  obtain ⟨h1, h2, h3, h4, h5, h6, h7⟩ := hb
  rcases ha with rfl | rfl | rfl | rfl | rfl | rfl | rfl <;> assumption
theorem five_le : (5 : Int32) ≤ nI 5 := by decide
theorem FU5 : ∃ n, FU = n + 1 + 5 := ⟨999999999994, rfl⟩
theorem n_keepsW {ev : EV} {m : Nat} {z : PS} {E : Cv} (hD : DM ev m) (A : AH ev m z 123 E) : g_X8_keepsWhole ev z m = some (sA z (rf ev 131 m) E) := by
  obtain ⟨n, hn⟩ := FU5
  unfold g_X8_keepsWhole
  rw [hn, cp5 (Q := q_X8_keepsWhole_2 ev m) (o := 0) (hD.ne 123 131) (fun n k z hk => by
    rw [q_X8_keepsWhole_2, if_neg (lt5 hk), ck_e (inB_n hk (by omega)), bd_e, ck_e (inB_n hk (by omega)), bd_e, bd_e, cl k hk, nI_s, Nat.zero_add]) (n + 1) z (E := E) (fun k hk => by rw [Nat.zero_add]; exact A k hk)]
  rw [q_X8_keepsWhole_2, if_pos five_le]
theorem n_wholeA {ev : EV} {m : Nat} {z : PS} {E : Cv} (hD : DM ev m) (A : AH ev m z 131 E) : g_X8_wholeAgain ev z m = some (sA z (rf ev 123 m) E) := by
  obtain ⟨n, hn⟩ := FU5
  unfold g_X8_wholeAgain
  rw [hn, cp5 (Q := q_X8_wholeAgain_2 ev m) (o := 0) (hD.ne 131 123) (fun n k z hk => by
    rw [q_X8_wholeAgain_2, if_neg (lt5 hk), ck_e (inB_n hk (by omega)), bd_e, ck_e (inB_n hk (by omega)), bd_e, bd_e, cl k hk, nI_s, Nat.zero_add]) (n + 1) z (E := E) (fun k hk => by rw [Nat.zero_add]; exact A k hk)]
  rw [q_X8_wholeAgain_2, if_pos five_le]
theorem n_goes6 {ev : EV} {m : Nat} {z : PS} {E : Cv} (hD : DM ev m) (A : AH ev m z 124 E) : q_X8_goesLeast_6 ev m FU (0 : Int32) z = some (sA z (rf ev 123 m) E) := by
  obtain ⟨n, hn⟩ := FU5
  rw [hn, cp5 (Q := q_X8_goesLeast_6 ev m) (o := 0) (hD.ne 124 123) (fun n k z hk => by
    rw [q_X8_goesLeast_6, if_neg (lt5 hk), ck_e (inB_n hk (by omega)), bd_e, ck_e (inB_n hk (by omega)), bd_e, bd_e, cl k hk, nI_s, Nat.zero_add]) (n + 1) z (E := E) (fun k hk => by rw [Nat.zero_add]; exact A k hk)]
  rw [q_X8_goesLeast_6, if_pos five_le]
/-- what the model holds -/
def TD (ev : EV) (m : Nat) (z : PS) (n : Nat) (C : Nat → Cv) : Prop := n ≤ 16 ∧ r32 z 121 m = nI n ∧ ∀ i, i < n → ∀ k, k < 5 → rJ z (rf ev 122 m) (5 * i + k) = ph (co (C i) k)
theorem TD.fm {ev : EV} {m : Nat} {z z' : PS} {n : Nat} {C : Nat → Cv} (hD : DM ev m) (h : TD ev m z n C) (f : FM ev m z z') : TD ev m z' n C := by
  refine ⟨h.1, ?_, fun i hi k hk => ?_⟩
  · exact (f.1 121 m (fun hh => by omega)).trans h.2.1
  · exact (f.2.2.2 _ _ hD.sb).trans (h.2.2 i hi k hk)
theorem n_loads {ev : EV} {m : Nat} {z : PS} {n c : Nat} {C : Nat → Cv} (hD : DM ev m) (h : TD ev m z n C) (hc : c < n) : g_X8_loads ev z m (nI c) = some (sA z (rf ev 123 m) (C c)) := by
  have h16 := h.1
  obtain ⟨f, hf⟩ := FU5
  unfold g_X8_loads
  rw [hf, cp5 (Q := fun f => q_X8_loads_2 ev m f (nI c)) (o := 5 * c) (hD.ne 122 123) (fun f k z hk => by
    show q_X8_loads_2 ev m (f + 1) (nI c) (nI k) z = _
    rw [q_X8_loads_2, if_neg (lt5 hk), show (5 : Int32) = nI 5 from rfl, i_mulN, i_add, ck_e (inB_n (show 5 * c + k < 80 by omega) (by omega)), bd_e, ck_e (inB_n hk (by omega)), bd_e, bd_e, cl k hk, nI_s, nI_clamp (show 5 * c + k < 2 ^ 31 by omega)]) (f + 1) z (E := C c) (fun k hk => h.2.2 c hc k hk)]
  show q_X8_loads_2 ev m (f + 1) (nI c) (nI 5) _ = _
  rw [q_X8_loads_2, if_pos five_le]
