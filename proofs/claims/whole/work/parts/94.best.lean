/-! best -/
noncomputable def bst (V : Nat → Int64) : Nat → Int32 × Int64
  | 0 => (0, 0)
  | j + 1 => if (bst V j).1 = 0 then (tw1 j, V j) else if (bst V j).2 ≤ V j then bst V j else (tw1 j, V j)
theorem bst_s (V : Nat → Int64) (j : Nat) : bst V (j + 1) = if (bst V j).1 = 0 then (tw1 j, V j) else if (bst V j).2 ≤ V j then bst V j else (tw1 j, V j) := rfl
theorem tw1_ne : ∀ i j : Fin 14, i ≠ j → tw1 i.val ≠ tw1 j.val := by decide +kernel
theorem bst_in (V : Nat → Int64) : ∀ j, (bst V j).1 = 0 ∨ ∃ i, i < j ∧ (bst V j).1 = tw1 i := by
  intro j
  induction j with
  | zero => exact Or.inl rfl
  | succ j ih =>
    rw [bst_s]
    by_cases h : (bst V j).1 = 0
    · rw [if_pos h]; exact Or.inr ⟨j, by omega, rfl⟩
    · rw [if_neg h]
      by_cases h' : (bst V j).2 ≤ V j
      · rw [if_pos h']
        obtain ⟨i, h1, h2⟩ := ih.resolve_left h
        exact Or.inr ⟨i, by omega, h2⟩
      · rw [if_neg h']; exact Or.inr ⟨j, by omega, rfl⟩
def cTC (ev : EV) (th m n : Nat) (C L : Nat → Cv) (U : Nat → Int) (c : Nat) (l2 : Int32) (L' : Cv) : Prop := (∀ z', CI ev th z' n C L U → ∃ z'', g_X7_twistedConductor ev z' th (nI c) l2 = some (cnd L', z'') ∧ CI ev th z'' n C L U ∧ MU ev m z' z'') ∧ (∀ z', MI ev m z' n C → ∃ z'' z3, g_X8_twists ev z' m (nI c) l2 = some (1, z'') ∧ g_X8_together ev z'' m 0 = some (cnd L', z3) ∧ FM ev m z' z3)
theorem cb_loop {ev : EV} {th m : Nat} {n : Nat} {C L : Nat → Cv} {U : Nat → Int} {c : Nat} {W : Nat → Cv} (hW : ∀ j, j < 14 → cTC ev th m n C L U c (tw1 j) (W j)) : ∀ (d f j : Nat) (z : PS), j + d = 14 → CI ev th z n C L U → ∃ z', q_X7_best_35 ev th (f + d + 1) (nI c) (bst (fun j => cnd (W j)) j).1 (bst (fun j => cnd (W j)) j).2 (14 : Int32) (nI j) z = some ((bst (fun j => cnd (W j)) 14).1, z') ∧ CI ev th z' n C L U ∧ MU ev m z z' := by
  intro d
  induction d with
  | zero =>
    intro f j z hj I
    have : j = 14 := by omega
    subst this
    exact ⟨z, by rw [q_X7_best_35, if_pos (by decide)], I, MU.rf ev m z⟩
  | succ d ih =>
    intro f j z hj I
    obtain ⟨z1, a1, a2, a3⟩ := (hW j (by omega)).1 z I
    obtain ⟨z2, b1, b2, b3⟩ := ih f (j + 1) z1 (by omega) a2
    refine ⟨z2, ?_, b2, a3.tr b3⟩
    rw [q_X7_best_35, if_neg (by rw [show (14 : Int32) = nI 14 from rfl, i_le (by omega) (by omega)]; omega), ck_e (inB_n (show j < 14 by omega) (by omega)), nI_clamp (by omega), bd_e, a1, ob_e]
    simp only [bd_e, nI_s]
    rw [bst_s] at b1
    by_cases h : (bst (fun j => cnd (W j)) j).1 = 0
    · rw [if_pos h] at b1 ⊢; exact b1
    · rw [if_neg h] at b1 ⊢
      by_cases h' : (bst (fun j => cnd (W j)) j).2 ≤ cnd (W j)
      · rw [if_pos h'] at b1 ⊢; exact b1
      · rw [if_neg h'] at b1 ⊢; exact b1
theorem mb_loop {ev : EV} {th m : Nat} (hD : DM ev m) {n : Nat} {C L : Nat → Cv} {U : Nat → Int} {c : Nat} (hc : c < n) {W : Nat → Cv} (hW : ∀ j, j < 14 → cTC ev th m n C L U c (tw1 j) (W j)) : ∀ (d f j : Nat) (z : PS), j + d = 14 → MI ev m z n C → ∃ z', q_X8_best_12 ev m (f + d + 1) (nI c) (bst (fun j => cnd (W j)) j).1 (bst (fun j => cnd (W j)) j).2 (nI j) z = some ((bst (fun j => cnd (W j)) 14).1, z') ∧ FM ev m z z' := by
  intro d
  induction d with
  | zero =>
    intro f j z hj M
    have : j = 14 := by omega
    subst this
    exact ⟨z, by rw [q_X8_best_12, if_pos (by decide)], FM.rf ev m z⟩
  | succ d ih =>
    intro f j z hj M
    have h14 : j < 14 := by omega
    obtain ⟨z1, z2, a1, a2, a3⟩ := (hW j h14).2 z M
    have M2 := M.fm hD a3
    obtain ⟨z3, b1, b2⟩ := ih f (j + 1) z2 (by omega) M2
    refine ⟨z3, ?_, a3.tr b2⟩
    have e60 : ∀ l3 : Int64, q_X8_best_60 ev m (q_X8_best_12 ev m (f + (d + 1))) (nI c) l3 (nI j) (cnd (W j)) z2 = q_X8_best_12 ev m (f + (d + 1)) (nI c) (tw1 j) (cnd (W j)) (nI (j + 1)) z2 := by
      intro l3
      unfold q_X8_best_60
      rw [ck_e (inB_n h14 (by omega)), bd_e, ck_e (inB_n h14 (by omega)), if_pos rfl, bd_e, nI_clamp (by omega), M2.2 j h14, nI_s]
    have eM : rI z (rf ev 133 m) (nI j).toNatClampNeg = tw1 j := by rw [nI_clamp (by omega)]; exact M.2 j h14
    rw [q_X8_best_12, if_neg (by rw [show (14 : Int32) = nI 14 from rfl, i_le (by omega) (by omega)]; omega), m_th1 M.1.2.1 M.1.1 hc, ob_e, if_neg ne10, ck_e (inB_n h14 (by omega)), eM, a1, ob_e, bd_e, bd_e, if_neg ne10, a2, ob_e, bd_e, bd_e, e60]
    rw [bst_s] at b1
    by_cases h : (bst (fun j => cnd (W j)) j).1 = 0
    · rw [if_pos h] at b1 ⊢; exact b1
    · rw [if_neg h] at b1 ⊢
      by_cases h' : (bst (fun j => cnd (W j)) j).2 ≤ cnd (W j)
      · rw [if_pos h'] at b1 ⊢
        obtain ⟨i, i1, i2⟩ := (bst_in (fun j => cnd (W j)) j).resolve_left h
        rw [ck_e (inB_n h14 (by omega)), nI_clamp (by omega), M2.2 j h14, if_neg (by rw [i2]; exact tw1_ne ⟨i, by omega⟩ ⟨j, h14⟩ (fun e => by have := congrArg Fin.val e; dsimp only at this; omega)), bd_e, nI_s]
        exact b1
      · rw [if_neg h'] at b1 ⊢; exact b1
theorem mb0_loop {ev : EV} {m : Nat} (hD : DM ev m) {n : Nat} {C : Nat → Cv} {c : Nat} (hc : c < n) {L : Cv} {u : Int} (H : HG (C c) L u) (h2 : ¬ D2 L) : ∀ (d f j : Nat) (z : PS), j + d = 14 → MI ev m z n C → ∃ z', q_X8_best_12 ev m (f + d + 1) (nI c) (0 : Int32) (0 : Int64) (nI j) z = some (0, z') ∧ FM ev m z z' := by
  intro d
  induction d with
  | zero =>
    intro f j z hj M
    have : j = 14 := by omega
    subst this
    exact ⟨z, by rw [q_X8_best_12, if_pos (by decide)], FM.rf ev m z⟩
  | succ d ih =>
    intro f j z hj M
    have h14 : j < 14 := by omega
    obtain ⟨z1, a1, a2⟩ := (m_tws hD M hc H (tw1 j)).1 h2
    obtain ⟨z3, b1, b2⟩ := ih f (j + 1) z1 (by omega) (M.fm hD a2)
    refine ⟨z3, ?_, a2.tr b2⟩
    have eM : rI z (rf ev 133 m) (nI j).toNatClampNeg = tw1 j := by rw [nI_clamp (by omega)]; exact M.2 j h14
    rw [q_X8_best_12, if_neg (by rw [show (14 : Int32) = nI 14 from rfl, i_le (by omega) (by omega)]; omega), m_th1 M.1.2.1 M.1.1 hc, ob_e, if_neg ne10, ck_e (inB_n h14 (by omega)), eM, a1, ob_e, bd_e, bd_e, if_pos rfl, bd_e, nI_s]
    exact b1
theorem op_best {ev : EV} {th m : Nat} (S : Sep ev th m) {z : PS} (I : IV ev th m z) (l1 : Int32) : OP ev th m (g_X7_best ev z th l1) (fun z1 => g_X8_best ev z1 m l1) := by
  obtain ⟨n, C, L, U, I⟩ := I
  have hD := S.2.2.2
  have h16 := I.1.2.1
  have M0 := I.2.fm hD (w120 ev m z 0)
  have w0 := IV.w0 S I (NEU.rf ev th m z) (MU.rf ev m z) 0
  obtain ⟨fn, hfn⟩ := FU_ge (d := 14) (by omega)
  by_cases hc : ∃ c, c < n ∧ l1 = nI c
  · obtain ⟨c, c1, rfl⟩ := hc
    obtain ⟨f1, f2, f3, f4, f5⟩ := I.1.he c1
    by_cases h2 : D2 (L c)
    · obtain ⟨W, hW⟩ : ∃ W : Nat → Cv, ∀ j, j < 14 → cTC ev th m n C L U c (tw1 j) (W j) := by
        apply Classical.axiomOfChoice (r := fun j L' => j < 14 → cTC ev th m n C L U c (tw1 j) L')
        intro j
        by_cases hj : j < 14
        · obtain ⟨L', h⟩ := tw_both S I.1 c1 h2 (l2 := tw1 j) (tw1_D ⟨j, hj⟩)
          exact ⟨L', fun _ => h⟩
        · exact ⟨L c, fun h => absurd h hj⟩
      obtain ⟨z1, a1, a2, a3⟩ := cb_loop hW 14 fn 0 z (by omega) I.1
      have M1 := (I.2.mu a3).fm hD (w120 ev m z1 0)
      obtain ⟨z2, b1, b2⟩ := mb_loop hD c1 hW 14 fn 0 _ (by omega) M1
      refine ⟨(bst (fun j => cnd (W j)) 14).1, z1, z2, ?_, ?_, IV.mk (INV.fm S a2 I.2 a3 ((w120 ev m z1 0).tr b2))⟩
      · unfold g_X7_best
        rw [c_th1 I.1.1 h16 c1, ob_e, if_neg ne10, (c_hasT (m := m) I.1 c1).1 h2, ob_e, if_neg ne10, hfn]
        exact a1
      · dsimp only
        unfold g_X8_best
        rw [bd_e, hfn]
        exact b1
    · obtain ⟨z3, b1, b2⟩ := mb0_loop hD c1 f4 h2 14 fn 0 _ (by omega) M0
      refine ⟨0, z, z3, ?_, ?_, IV.mk (INV.fm S I.1 I.2 (MU.rf ev m z) ((w120 ev m z 0).tr b2))⟩
      · unfold g_X7_best
        rw [c_th1 I.1.1 h16 c1, ob_e, if_neg ne10, (c_hasT (m := m) I.1 c1).2 h2, ob_e, if_pos rfl]
      · dsimp only
        unfold g_X8_best
        rw [bd_e, hfn]
        exact b1
  · refine ⟨0, z, w32 z 120 m 0, ?_, ?_, w0⟩
    · unfold g_X7_best; rw [c_th0 I.1.1 h16 hc, ob_e, if_pos rfl]
    · dsimp only
      unfold g_X8_best
      rw [bd_e, hfn, q_X8_best_12, if_neg (by decide), m_th0 M0.1.2.1 h16 hc, ob_e, if_pos rfl]
