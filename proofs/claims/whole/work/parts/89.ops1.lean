/-! the calls, one by one: class and reference answer alike -/
def OP {α : Type} (ev : EV) (th m : Nat) (a : Option (α × PS)) (b : PS → Option (α × PS)) : Prop := ∃ (r : α) (z1 z2 : PS), a = some (r, z1) ∧ b z1 = some (r, z2) ∧ IV ev th m z2
theorem cr_of {E : Cv} (h : ∀ k, k < 5 → b9 (co E k)) : CR E := by
  have f : ∀ k, k < 5 → inR (co E k) := fun k hk => by have h1 := (h k hk).1; have h2 := (h k hk).2; exact ⟨by omega, by omega⟩
  exact ⟨f 0 (by omega), f 1 (by omega), f 2 (by omega), f 3 (by omega), f 4 (by omega)⟩
theorem both_keep {ev : EV} {th m : Nat} (S : Sep ev th m) {z : PS} {n : Nat} {C L : Nat → Cv} {U : Nat → Int} (I : INV ev th m z n C L U) {z1 : PS} (N : NEU ev th m z z1) (u1 : MU ev m z z1) {E G : Cv} {u : Int} (hE : EQ z1 (rf ev 102 th) E) (k : KG E G u) (h5 : S5 E → B5 G) (hc : ∀ k, k < 5 → b9 (co E k)) (hd : b9 (dd E)) :
    ∃ r z2, g_X7_keepDraft ev z1 th = some (r, z2) ∧ MU ev m z z2 ∧ ∀ z3, FM ev m z2 z3 → AH ev m z3 123 E → ∃ z4, g_X8_keeps ev z3 m = some (r, z4) ∧ IV ev th m z4 := by
  obtain ⟨IC, IM⟩ := I
  have c1 := IC.neu S N
  obtain ⟨p1, p2⟩ := c_keep (m := m) S c1 hE k h5 (cr_of hc) hd
  by_cases h : n < 16 ∧ S5 E ∧ D8 E
  · obtain ⟨z2, a1, a2, a3⟩ := p1 h
    refine ⟨nI n, z2, a1, u1.tr a3, fun z3 F A => ?_⟩
    obtain ⟨q1, -⟩ := n_keeps S.2.2.2 ((IM.mu (u1.tr a3)).fm S.2.2.2 F) A hc hd
    obtain ⟨z4, b1, b2, b3⟩ := q1 h
    exact ⟨z4, b1, n + 1, _, _, _, (a2.neu S (F.neu (th := th))).neu S (b3 th), b2⟩
  · refine ⟨-1, z1, p2 h, u1, fun z3 F A => ?_⟩
    have hM := (IM.mu u1).fm S.2.2.2 F
    obtain ⟨-, q2⟩ := n_keeps S.2.2.2 hM A hc hd
    exact ⟨z3, q2 h, n, C, L, U, c1.neu S (F.neu (th := th)), hM⟩
theorem c_th1 {ev : EV} {z : PS} {th n c : Nat} (h : r32 z 101 th = nI n) (hn : n ≤ 16) (hc : c < n) : g_X7_there ev z th (nI c) = some 1 := by
  unfold g_X7_there
  rw [if_neg (nI_pos (by omega)), h, if_neg (by rw [i_le (by omega) (by omega)]; omega)]
theorem c_th0 {ev : EV} {z : PS} {th n : Nat} {l1 : Int32} (h : r32 z 101 th = nI n) (hn : n ≤ 16) (hc : ¬ ∃ c, c < n ∧ l1 = nI c) : g_X7_there ev z th l1 = some 0 := by
  unfold g_X7_there
  by_cases h0 : l1 < 0
  · rw [if_pos h0]
  · obtain ⟨j, j1, rfl⟩ := nI_of h0
    rw [if_neg h0, h, if_pos (by rw [i_le (by omega) (by omega)]; exact Nat.le_of_not_lt (fun hh => hc ⟨j, hh, rfl⟩))]
theorem m_th1 {ev : EV} {z : PS} {m n c : Nat} (h : r32 z 121 m = nI n) (hn : n ≤ 16) (hc : c < n) : g_X8_isCurve ev z m (nI c) = some 1 := by
  unfold g_X8_isCurve
  rw [if_neg (nI_pos (by omega)), h, if_neg (by rw [i_le (by omega) (by omega)]; omega)]
theorem m_th0 {ev : EV} {z : PS} {m n : Nat} {l1 : Int32} (h : r32 z 121 m = nI n) (hn : n ≤ 16) (hc : ¬ ∃ c, c < n ∧ l1 = nI c) : g_X8_isCurve ev z m l1 = some 0 := by
  unfold g_X8_isCurve
  by_cases h0 : l1 < 0
  · rw [if_pos h0]
  · obtain ⟨j, j1, rfl⟩ := nI_of h0
    rw [if_neg h0, h, if_pos (by rw [i_le (by omega) (by omega)]; exact Nat.le_of_not_lt (fun hh => hc ⟨j, hh, rfl⟩))]
theorem ne10 : ¬ (1 : Int32) = 0 := by decide
theorem IV.w0 {ev : EV} {th m : Nat} (S : Sep ev th m) {z z1 : PS} {n : Nat} {C L : Nat → Cv} {U : Nat → Int} (I : INV ev th m z n C L U) (N : NEU ev th m z z1) (u : MU ev m z z1) (v : Int32) : IV ev th m (w32 z1 120 m v) :=
  ⟨n, C, L, U, INV.fm S (I.1.neu S N) I.2 u (w120 ev m z1 v)⟩
theorem sm_9 {E : Cv} (h : SmE E) : ∀ k, k < 5 → b9 (co E k) := by
  obtain ⟨h1, h2, h3, h4, h6⟩ := h
  intro k hk
  rcases (show k = 0 ∨ k = 1 ∨ k = 2 ∨ k = 3 ∨ k = 4 by omega) with rfl | rfl | rfl | rfl | rfl
  · show b9 (a1 E); exact ⟨by omega, by omega⟩
  · show b9 (a2 E); exact ⟨by omega, by omega⟩
  · show b9 (a3 E); exact ⟨by omega, by omega⟩
  · show b9 (a4 E); exact ⟨by omega, by omega⟩
  · show b9 (a6 E); exact ⟨by omega, by omega⟩
theorem op_curve {ev : EV} {th m : Nat} (S : Sep ev th m) {z : PS} (I : IV ev th m z) (l1 l2 l3 l4 l5 : Int32) : OP ev th m (g_X7_curve ev z th l1 l2 l3 l4 l5) (fun z1 => g_X8_curve ev z1 m l1 l2 l3 l4 l5) := by
  obtain ⟨n, C, L, U, I⟩ := I
  have hD := S.2.2.2
  by_cases hS : SmE (l1.toInt, l2.toInt, l3.toInt, l4.toInt, l5.toInt)
  · obtain ⟨s1', s2', s3', s4', s5'⟩ := id hS
    have t1 : -9 ≤ l1.toInt ∧ l1.toInt ≤ 9 := s1'
    have t2' : -9 ≤ l2.toInt ∧ l2.toInt ≤ 9 := s2'
    have t3' : -9 ≤ l3.toInt ∧ l3.toInt ≤ 9 := s3'
    have t4' : -99 ≤ l4.toInt ∧ l4.toInt ≤ 99 := s4'
    have t5' : -99 ≤ l5.toInt ∧ l5.toInt ≤ 99 := s5'
    obtain ⟨q4, q6, q12⟩ := sm_b hS
    have rd : inR (dd (l1.toInt, l2.toInt, l3.toInt, l4.toInt, l5.toInt)) := ⟨by omega, by omega⟩
    have e7 : g_X7_curve ev z th l1 l2 l3 l4 l5 = if ph (dd (l1.toInt, l2.toInt, l3.toInt, l4.toInt, l5.toInt)) = (0 : Int64) then some ((-1 : Int32), sE z (rf ev 102 th) (l1.toInt, l2.toInt, l3.toInt, l4.toInt, l5.toInt)) else ob (g_X7_keepDraft ev (sE z (rf ev 102 th) (l1.toInt, l2.toInt, l3.toInt, l4.toInt, l5.toInt)) th) (fun qv14 => bd qv14.1 (fun v14 => bd qv14.2 (fun z13 => some (v14, z13)))) := by
      unfold g_X7_curve
      rw [i64 l1, i64 l2, i64 l3, i64 l4, i64 l5, show (9 : Int64) = ph 9 from rfl, show (99 : Int64) = ph 99 from rfl, c_within (i_in l1) (by omega) (by omega), c_within (i_in l2) (by omega) (by omega), c_within (i_in l3) (by omega) (by omega), c_within (i_in l4) (by omega) (by omega), c_within (i_in l5) (by omega) (by omega)]
      simp only [ob_e, ite01]
      rw [if_pos t1, if_pos t2', if_pos t3', if_pos t4', if_pos t5', c_put, ob_e, (EQ_sE z (rf ev 102 th) _).dd]
    have e8 : ∀ z1, g_X8_curve ev z1 m l1 l2 l3 l4 l5 = if ph (dd (l1.toInt, l2.toInt, l3.toInt, l4.toInt, l5.toInt)) = (0 : Int64) then some ((-1 : Int32), sA (w32 z1 120 m 0) (rf ev 123 m) (l1.toInt, l2.toInt, l3.toInt, l4.toInt, l5.toInt)) else ob (g_X8_keeps ev (sA (w32 z1 120 m 0) (rf ev 123 m) (l1.toInt, l2.toInt, l3.toInt, l4.toInt, l5.toInt)) m) (fun qv14 => bd qv14.1 (fun v14 => bd qv14.2 (fun z13 => some (v14, z13)))) := by
      intro z1
      unfold g_X8_curve
      rw [i64 l1, i64 l2, i64 l3, i64 l4, i64 l5, show (-9 : Int64) = ph (-9) from rfl, show (-99 : Int64) = ph (-99) from rfl, show (9 : Int64) = ph 9 from rfl, show (99 : Int64) = ph 99 from rfl, m_within (i_in l1) ⟨by omega, by omega⟩ ⟨by omega, by omega⟩, m_within (i_in l2) ⟨by omega, by omega⟩ ⟨by omega, by omega⟩, m_within (i_in l3) ⟨by omega, by omega⟩ ⟨by omega, by omega⟩, m_within (i_in l4) ⟨by omega, by omega⟩ ⟨by omega, by omega⟩, m_within (i_in l5) ⟨by omega, by omega⟩ ⟨by omega, by omega⟩]
      simp only [ob_e, ite01, bd_e]
      rw [if_pos t1, if_pos t2', if_pos t3', if_pos t4', if_pos t5', show wJ (wJ (wJ (wJ (wJ (w32 z1 120 m 0) (rf ev 123 m) 0 (ph l1.toInt)) (rf ev 123 m) 1 (ph l2.toInt)) (rf ev 123 m) 2 (ph l3.toInt)) (rf ev 123 m) 3 (ph l4.toInt)) (rf ev 123 m) 4 (ph l5.toInt) = sA (w32 z1 120 m 0) (rf ev 123 m) (l1.toInt, l2.toInt, l3.toInt, l4.toInt, l5.toInt) from wJ5 _ _ (l1.toInt, l2.toInt, l3.toInt, l4.toInt, l5.toInt), n_dd (AM_sA ev m _ _), ob_e]
    by_cases h0 : dd (l1.toInt, l2.toInt, l3.toInt, l4.toInt, l5.toInt) = 0
    · refine ⟨-1, _, _, by rw [e7, if_pos (by rw [h0]; rfl)], by dsimp only; rw [e8, if_pos (by rw [h0]; rfl)], ?_⟩
      exact ⟨n, C, L, U, INV.fm S (I.1.neu S (sE_neu ev th m z _)) I.2 (sE_mu ev m z _ _) ((w120 ev m _ 0).tr (FM_sA ev m _ _ (Or.inl rfl)))⟩
    · obtain ⟨G, u, k, h5⟩ := sm_KG ev hS h0
      have hne : ¬ ph (dd (l1.toInt, l2.toInt, l3.toInt, l4.toInt, l5.toInt)) = (0 : Int64) := by rw [l0, ph_eq rd z_R]; exact h0
      obtain ⟨r, z2, b1, b2, b3⟩ := both_keep S I (sE_neu ev th m z _) (sE_mu ev m z _ _) (EQ_sE z (rf ev 102 th) (l1.toInt, l2.toInt, l3.toInt, l4.toInt, l5.toInt)) k (fun _ => h5) (sm_9 hS) ⟨by omega, by omega⟩
      obtain ⟨z4, d1, d2⟩ := b3 _ ((w120 ev m z2 0).tr (FM_sA ev m _ (l1.toInt, l2.toInt, l3.toInt, l4.toInt, l5.toInt) (Or.inl rfl))) (AH_sA ev m _ 123 _)
      exact ⟨r, z2, z4, by rw [e7, if_neg hne, b1, ob_e, bd_e, bd_e], by dsimp only; rw [e8, if_neg hne, d1, ob_e, bd_e, bd_e], d2⟩
  · refine ⟨-1, z, w32 z 120 m 0, ?_, ?_, IV.w0 S I (NEU.rf ev th m z) (MU.rf ev m z) 0⟩
    · unfold g_X7_curve
      rw [i64 l1, i64 l2, i64 l3, i64 l4, i64 l5, show (9 : Int64) = ph 9 from rfl, show (99 : Int64) = ph 99 from rfl, c_within (i_in l1) (by omega) (by omega), c_within (i_in l2) (by omega) (by omega), c_within (i_in l3) (by omega) (by omega), c_within (i_in l4) (by omega) (by omega), c_within (i_in l5) (by omega) (by omega)]
      simp only [ob_e, ite01, iand]
      rw [if_neg (fun h => hS ⟨h.1, h.2.1, h.2.2.1, h.2.2.2.1, h.2.2.2.2⟩)]
    · dsimp only
      unfold g_X8_curve
      rw [i64 l1, i64 l2, i64 l3, i64 l4, i64 l5, show (-9 : Int64) = ph (-9) from rfl, show (-99 : Int64) = ph (-99) from rfl, show (9 : Int64) = ph 9 from rfl, show (99 : Int64) = ph 99 from rfl, m_within (i_in l1) ⟨by omega, by omega⟩ ⟨by omega, by omega⟩, m_within (i_in l2) ⟨by omega, by omega⟩ ⟨by omega, by omega⟩, m_within (i_in l3) ⟨by omega, by omega⟩ ⟨by omega, by omega⟩, m_within (i_in l4) ⟨by omega, by omega⟩ ⟨by omega, by omega⟩, m_within (i_in l5) ⟨by omega, by omega⟩ ⟨by omega, by omega⟩]
      simp only [ob_e, ite01, bd_e, iand]
      rw [if_neg (fun h => hS ⟨h.1, h.2.1, h.2.2.1, h.2.2.2.1, h.2.2.2.2⟩)]
theorem sh_9 {E : Cv} (h : S5 E) {r s t : Int} (hr : -99 ≤ r ∧ r ≤ 99) (hs : -99 ≤ s ∧ s ≤ 99) (ht : -99 ≤ t ∧ t ≤ 99) : ∀ k, k < 5 → b9 (co (sh E r s t) k) := by
  obtain ⟨h1, h2, h3, h4, h6⟩ := h
  have m1 := mb hs h1
  have m2 := mb hs hs
  have m3 := mb hr h1
  have m4 := mb hs h3
  have m5 := mb (show -198 ≤ 2 * r ∧ 2 * r ≤ 198 by omega) h2
  have m6 := mb hr hs
  have m7 := mb (show -9900 ≤ t + r * s ∧ t + r * s ≤ 9900 by omega) h1
  have m8 := mb (show -297 ≤ 3 * r ∧ 3 * r ≤ 297 by omega) hr
  have m9 := mb (show -198 ≤ 2 * s ∧ 2 * s ≤ 198 by omega) ht
  have m10 := mb hr h4
  have m11 := mb hr hr
  have m12 := mb m11 h2
  have m13 := mb m11 hr
  have m14 := mb ht h3
  have m15 := mb ht ht
  have m16 := mb (mb hr ht) h1
  intro k hk
  rcases (show k = 0 ∨ k = 1 ∨ k = 2 ∨ k = 3 ∨ k = 4 by omega) with rfl | rfl | rfl | rfl | rfl
  · show b9 (a1 E + 2 * s); exact ⟨by omega, by omega⟩
  · show b9 (a2 E - s * a1 E + 3 * r - s * s); exact ⟨by omega, by omega⟩
  · show b9 (a3 E + r * a1 E + 2 * t); exact ⟨by omega, by omega⟩
  · show b9 (a4 E - s * a3 E + 2 * r * a2 E - (t + r * s) * a1 E + 3 * r * r - 2 * s * t); exact ⟨by omega, by omega⟩
  · show b9 (a6 E + r * a4 E + r * r * a2 E + r * r * r - t * a3 E - t * t - r * t * a1 E); exact ⟨by omega, by omega⟩
theorem CI.he {ev : EV} {th : Nat} {z : PS} {n : Nat} {C L : Nat → Cv} {U : Nat → Int} (I : CI ev th z n C L U) {c : Nat} (hc : c < n) : HE ev (Ho ev th c) z (C c) (L c) (U c) := I.2.2.1 c hc
theorem d8_9 {E : Cv} (h : D8 E) : b9 (dd E) := ⟨by have := h.1; omega, by have := h.2; omega⟩
theorem op_change {ev : EV} {th m : Nat} (S : Sep ev th m) {z : PS} (I : IV ev th m z) (l1 l2 l3 l4 : Int32) : OP ev th m (g_X7_change ev z th l1 l2 l3 l4) (fun z1 => g_X8_change ev z1 m l1 l2 l3 l4) := by
  obtain ⟨n, C, L, U, I⟩ := I
  have hD := S.2.2.2
  have h16 := I.1.2.1
  have none : (g_X7_change ev z th l1 l2 l3 l4 = some (-1, z)) → (g_X8_change ev z m l1 l2 l3 l4 = some (-1, w32 z 120 m 0)) → OP ev th m (g_X7_change ev z th l1 l2 l3 l4) (fun z1 => g_X8_change ev z1 m l1 l2 l3 l4) := fun a b => ⟨-1, z, _, a, b, IV.w0 S I (NEU.rf ev th m z) (MU.rf ev m z) 0⟩
  by_cases hc : ∃ c, c < n ∧ l1 = nI c
  · obtain ⟨c, c1, rfl⟩ := hc
    obtain ⟨f1, f2, f3, f4, f5⟩ := I.1.he c1
    by_cases hw : (-99 ≤ l2.toInt ∧ l2.toInt ≤ 99) ∧ (-99 ≤ l3.toInt ∧ l3.toInt ≤ 99) ∧ (-99 ≤ l4.toInt ∧ l4.toInt ≤ 99)
    · obtain ⟨w2, w3, w4⟩ := hw
      have e7 : g_X7_change ev z th (nI c) l2 l3 l4 = ob (g_X7_keepDraft ev (sE z (rf ev 102 th) (sh (C c) l2.toInt l3.toInt l4.toInt)) th) (fun qv14 => bd qv14.1 (fun v14 => bd qv14.2 (fun z13 => some (v14, z13)))) := by
        unfold g_X7_change
        rw [c_th1 I.1.1 h16 c1, ob_e, if_neg ne10, i64 l2, i64 l3, i64 l4, show (99 : Int64) = ph 99 from rfl, c_within (i_in l2) (by omega) (by omega), c_within (i_in l3) (by omega) (by omega), c_within (i_in l4) (by omega) (by omega)]
        simp only [ob_e, ite01]
        rw [if_pos w2, if_pos w3, if_pos w4, ck_e (inB_n (show c < 16 by omega) (by omega)), nI_clamp (by omega), c_take f1, ob_e, c_shift (EQ_sE z (rf ev 102 th) (C c)), ob_e, sE_sE]
      have e8 : ∀ z1, MI ev m z1 n C → g_X8_change ev z1 m (nI c) l2 l3 l4 = ob (g_X8_keeps ev (sA (w32 z1 120 m 0) (rf ev 123 m) (sh (C c) l2.toInt l3.toInt l4.toInt)) m) (fun qv14 => bd qv14.1 (fun v14 => bd qv14.2 (fun z13 => some (v14, z13)))) := by
        intro z1 M
        have M' := M.fm hD (w120 ev m z1 0)
        unfold g_X8_change
        rw [bd_e, m_th1 M'.1.2.1 h16 c1, ob_e, if_neg ne10, i64 l2, i64 l3, i64 l4, show (-99 : Int64) = ph (-99) from rfl, show (99 : Int64) = ph 99 from rfl, m_within (i_in l2) ⟨by omega, by omega⟩ ⟨by omega, by omega⟩, m_within (i_in l3) ⟨by omega, by omega⟩ ⟨by omega, by omega⟩, m_within (i_in l4) ⟨by omega, by omega⟩ ⟨by omega, by omega⟩]
        simp only [ob_e, ite01]
        rw [if_pos w2, if_pos w3, if_pos w4, n_loads hD M'.1 c1, ob_e, n_sh (AM_sA ev m _ (C c)), ob_e, sA_sA]
      have hdd : D8 (sh (C c) l2.toInt l3.toInt l4.toInt) := by unfold D8; rw [dd_sh]; exact f4.2.2.1
      obtain ⟨r, z2, b1, b2, b3⟩ := both_keep S I (sE_neu ev th m z _) (sE_mu ev m z _ _) (EQ_sE z (rf ev 102 th) (sh (C c) l2.toInt l3.toInt l4.toInt)) (f4.1.sh _ _ _) (fun _ => f4.2.2.2) (sh_9 f4.2.1 w2 w3 w4) (d8_9 hdd)
      obtain ⟨z4, d1, d2⟩ := b3 _ ((w120 ev m z2 0).tr (FM_sA ev m _ (sh (C c) l2.toInt l3.toInt l4.toInt) (Or.inl rfl))) (AH_sA ev m _ 123 _)
      exact ⟨r, z2, z4, by rw [e7, b1, ob_e, bd_e, bd_e], by dsimp only; rw [e8 z2 (I.2.mu b2), d1, ob_e, bd_e, bd_e], d2⟩
    · apply none
      · unfold g_X7_change
        rw [c_th1 I.1.1 h16 c1, ob_e, if_neg ne10, i64 l2, i64 l3, i64 l4, show (99 : Int64) = ph 99 from rfl, c_within (i_in l2) (by omega) (by omega), c_within (i_in l3) (by omega) (by omega), c_within (i_in l4) (by omega) (by omega)]
        simp only [ob_e, ite01, iand]
        rw [if_neg hw]
      · have M' := I.2.fm hD (w120 ev m z 0)
        unfold g_X8_change
        rw [bd_e, m_th1 M'.1.2.1 h16 c1, ob_e, if_neg ne10, i64 l2, i64 l3, i64 l4, show (-99 : Int64) = ph (-99) from rfl, show (99 : Int64) = ph 99 from rfl, m_within (i_in l2) ⟨by omega, by omega⟩ ⟨by omega, by omega⟩, m_within (i_in l3) ⟨by omega, by omega⟩ ⟨by omega, by omega⟩, m_within (i_in l4) ⟨by omega, by omega⟩ ⟨by omega, by omega⟩]
        simp only [ob_e, ite01, iand]
        rw [if_neg hw]
  · apply none
    · unfold g_X7_change; rw [c_th0 I.1.1 h16 hc, ob_e, if_pos rfl]
    · unfold g_X8_change; rw [bd_e, m_th0 (I.2.fm hD (w120 ev m z 0)).1.2.1 h16 hc, ob_e, if_pos rfl]
theorem lb_9 {L : Cv} (h : LB L) : ∀ k, k < 5 → b9 (co L k) := by
  obtain ⟨⟨h1, h2, h3⟩, h4, h6⟩ := h
  intro k hk
  rcases (show k = 0 ∨ k = 1 ∨ k = 2 ∨ k = 3 ∨ k = 4 by omega) with rfl | rfl | rfl | rfl | rfl
  · show b9 (a1 L); exact ⟨by omega, by omega⟩
  · show b9 (a2 L); exact ⟨by omega, by omega⟩
  · show b9 (a3 L); exact ⟨by omega, by omega⟩
  · show b9 (a4 L); exact ⟨by omega, by omega⟩
  · show b9 (a6 L); exact ⟨by omega, by omega⟩
theorem op_least {ev : EV} {th m : Nat} (S : Sep ev th m) {z : PS} (I : IV ev th m z) (l1 : Int32) : OP ev th m (g_X7_least ev z th l1) (fun z1 => g_X8_least ev z1 m l1) := by
  obtain ⟨n, C, L, U, I⟩ := I
  have hD := S.2.2.2
  have h16 := I.1.2.1
  by_cases hc : ∃ c, c < n ∧ l1 = nI c
  · obtain ⟨c, c1, rfl⟩ := hc
    obtain ⟨f1, f2, f3, f4, f5⟩ := I.1.he c1
    have hp := f4.pq
    obtain ⟨r, z2, b1, b2, b3⟩ := both_keep S I (sE_neu ev th m z _) (sE_mu ev m z _ _) (EQ_sE z (rf ev 102 th) (L c)) f4.1.least (fun _ => f4.2.2.2) (lb_9 hp.1.lb) hp.1.dLb
    have M' := (I.2.mu b2).fm hD (w120 ev m z2 0)
    have eL := n_loads hD M'.1 c1
    obtain ⟨z3, g1, g2, g3, g4⟩ := n_goesL hD hp (AH_sA ev m (w32 z2 120 m 0) 123 (C c))
    obtain ⟨z4, d1, d2⟩ := b3 z3 (((w120 ev m z2 0).tr (FM_sA ev m _ (C c) (Or.inl rfl))).tr g4) g2
    refine ⟨r, z2, z4, ?_, ?_, d2⟩
    · unfold g_X7_least
      rw [c_th1 I.1.1 h16 c1, ob_e, if_neg ne10, ck_e (inB_n (show c < 16 by omega) (by omega)), nI_clamp (by omega), c_take f2, ob_e, b1, ob_e, bd_e, bd_e]
    · dsimp only
      unfold g_X8_least
      rw [bd_e, m_th1 M'.1.2.1 h16 c1, ob_e, if_neg ne10, eL, ob_e, g1, ob_e, d1, ob_e, bd_e, bd_e]
  · refine ⟨-1, z, w32 z 120 m 0, ?_, ?_, IV.w0 S I (NEU.rf ev th m z) (MU.rf ev m z) 0⟩
    · unfold g_X7_least; rw [c_th0 I.1.1 h16 hc, ob_e, if_pos rfl]
    · dsimp only; unfold g_X8_least; rw [bd_e, m_th0 (I.2.fm hD (w120 ev m z 0)).1.2.1 h16 hc, ob_e, if_pos rfl]
theorem op_drop {ev : EV} {th m : Nat} (S : Sep ev th m) {z : PS} (I : IV ev th m z) : OP ev th m (g_X7_drop ev z th) (fun z1 => g_X8_drop ev z1 m) := by
  obtain ⟨n, C, L, U, IC, IM⟩ := I
  have hD := S.2.2.2
  obtain ⟨i1, i2, i3, i4⟩ := IC
  obtain ⟨⟨m1, m2, m3⟩, m4⟩ := IM
  rcases n with _ | n
  · refine ⟨-1, z, w32 z 120 m 0, ?_, ?_, IV.w0 S ⟨⟨i1, i2, i3, i4⟩, ⟨m1, m2, m3⟩, m4⟩ (NEU.rf ev th m z) (MU.rf ev m z) 0⟩
    · unfold g_X7_drop; rw [i1, if_pos nI_0]
    · dsimp only; unfold g_X8_drop; rw [bd_e, r32_ne _ _ _ _ (by decide), m2, if_pos nI_0]
  · refine ⟨nI n, w32 (w32 z 101 th (nI n)) 105 th (-1), w32 (w32 (w32 (w32 z 101 th (nI n)) 105 th (-1)) 120 m 0) 121 m (nI n), ?_, ?_, n, C, L, U, ⟨?_, by omega, ?_, Or.inl ?_⟩, ⟨by omega, r32_eq _ _ _ _, fun i hi k hk => m3 i (by omega) k hk⟩, m4⟩
    · unfold g_X7_drop
      rw [i1, if_neg (nI_ne0 (by omega) (by omega)), nI_pred, bd_e, bd_e, bd_e, r32_ne _ _ _ _ (by decide), r32_eq]
    · dsimp only
      unfold g_X8_drop
      have e : r32 (w32 (w32 (w32 z 101 th (nI n)) 105 th (-1)) 120 m 0) 121 m = nI (n + 1) := (r32_ne _ _ _ _ (by decide)).trans ((r32_ne _ _ _ _ (by decide)).trans ((r32_ne _ _ _ _ (by decide)).trans m2))
      rw [bd_e, e, if_neg (nI_ne0 (by omega) (by omega)), nI_pred, bd_e, bd_e, r32_eq]
    · exact (r32_ne _ _ _ _ (by decide)).trans ((r32_ne _ _ _ _ (by decide)).trans ((r32_ne _ _ _ _ (by decide)).trans (r32_eq _ _ _ _)))
    · intro i hi
      refine (i3 i (by omega)).cg (fun _ _ => rfl) (fun _ _ => rfl) rfl ?_ ?_ (fun _ => rfl)
      · exact (r32_ne _ _ _ _ (by decide)).trans ((r32_ne _ _ _ _ (by decide)).trans ((r32_ne _ _ _ _ (by decide)).trans (r32_ne _ _ _ _ (by decide))))
      · exact (r32_ne _ _ _ _ (by decide)).trans ((r32_ne _ _ _ _ (by decide)).trans ((r32_ne _ _ _ _ (by decide)).trans (r32_ne _ _ _ _ (by decide))))
    · exact (r32_ne _ _ _ _ (by decide)).trans ((r32_ne _ _ _ _ (by decide)).trans (r32_eq _ _ _ _))
