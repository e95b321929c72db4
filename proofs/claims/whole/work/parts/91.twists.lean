/-! twists of held curves -/
theorem it_loop {ev : EV} {z : PS} {l0 : Int32} : ∀ (d n j : Nat), j + d = 14 → ((∃ i, j ≤ i ∧ i < 14 ∧ l0 = tw1 i) → q_X7_isTwister_16 ev z (n + d + 1) l0 (14 : Int32) (nI j) = some 1) ∧ ((¬ ∃ i, j ≤ i ∧ i < 14 ∧ l0 = tw1 i) → q_X7_isTwister_16 ev z (n + d + 1) l0 (14 : Int32) (nI j) = some 0) := by
  intro d
  induction d with
  | zero =>
    intro n j hj
    have : j = 14 := by omega
    subst this
    exact ⟨fun ⟨i, h1, h2, _⟩ => by omega, fun _ => by rw [q_X7_isTwister_16, if_pos (by decide)]⟩
  | succ d ih =>
    intro n j hj
    obtain ⟨a, b⟩ := ih n (j + 1) (by omega)
    have st : q_X7_isTwister_16 ev z (n + (d + 1) + 1) l0 (14 : Int32) (nI j) = if l0 = tw1 j then some 1 else q_X7_isTwister_16 ev z (n + d + 1) l0 (14 : Int32) (nI (j + 1)) := by
      rw [q_X7_isTwister_16, if_neg (by rw [show (14 : Int32) = nI 14 from rfl, i_le (by omega) (by omega)]; omega), ck_e (inB_n (show j < 14 by omega) (by omega)), nI_clamp (by omega), bd_e, bd_e, nI_s]
      rfl
    rw [st]
    by_cases h : l0 = tw1 j
    · rw [if_pos h]
      exact ⟨fun _ => rfl, fun hh => absurd ⟨j, by omega, by omega, h⟩ hh⟩
    · rw [if_neg h]
      refine ⟨fun ⟨i, h1, h2, h3⟩ => a ⟨i, ?_, h2, h3⟩, fun hh => b (fun ⟨i, h1, h2, h3⟩ => hh ⟨i, by omega, h2, h3⟩)⟩
      rcases (show i = j ∨ j + 1 ≤ i by omega) with e | e
      · subst e; exact absurd h3 h
      · exact e
theorem tw1_D : ∀ i : Fin 14, tw1 i.val = 1 ∨ ((tw1 i.val).toInt = -1 ∨ (tw1 i.val).toInt = 2 ∨ (tw1 i.val).toInt = -2 ∨ (tw1 i.val).toInt = 3 ∨ (tw1 i.val).toInt = -3 ∨ (tw1 i.val).toInt = 5 ∨ (tw1 i.val).toInt = -5 ∨ (tw1 i.val).toInt = 6 ∨ (tw1 i.val).toInt = -6 ∨ (tw1 i.val).toInt = 7 ∨ (tw1 i.val).toInt = -7 ∨ (tw1 i.val).toInt = 10 ∨ (tw1 i.val).toInt = -10) := by decide +kernel
theorem isD_tw {l0 : Int32} (h : isD l0.toInt) : ∃ i, i < 14 ∧ l0 = tw1 i := by
  have f : ∀ i, i < 14 → l0.toInt = (tw1 i).toInt → ∃ i, i < 14 ∧ l0 = tw1 i := fun i hi e => ⟨i, hi, Int32.toInt_inj.mp e⟩
  rcases h with h | h | h | h | h | h | h | h | h | h | h | h | h
  · exact f 1 (by omega) (h.trans (by decide))
  · exact f 2 (by omega) (h.trans (by decide))
  · exact f 3 (by omega) (h.trans (by decide))
  · exact f 4 (by omega) (h.trans (by decide))
  · exact f 5 (by omega) (h.trans (by decide))
  · exact f 6 (by omega) (h.trans (by decide))
  · exact f 7 (by omega) (h.trans (by decide))
  · exact f 8 (by omega) (h.trans (by decide))
  · exact f 9 (by omega) (h.trans (by decide))
  · exact f 10 (by omega) (h.trans (by decide))
  · exact f 11 (by omega) (h.trans (by decide))
  · exact f 12 (by omega) (h.trans (by decide))
  · exact f 13 (by omega) (h.trans (by decide))
theorem c_isT {ev : EV} {z : PS} (l0 : Int32) : (isD l0.toInt → g_X7_isTwister ev z l0 = some 1) ∧ (¬ isD l0.toInt → g_X7_isTwister ev z l0 = some 0) := by
  obtain ⟨n, hn⟩ := FU_ge (d := 14) (by omega)
  obtain ⟨a, b⟩ := it_loop (ev := ev) (z := z) (l0 := l0) 14 n 0 (by omega)
  unfold g_X7_isTwister
  rw [hn, show (0 : Int32) = nI 0 from rfl]
  constructor
  · intro h
    rw [if_neg (fun e => by subst e; revert h; unfold isD; decide)]
    obtain ⟨i, h1, h2⟩ := isD_tw h
    exact a ⟨i, by omega, h1, h2⟩
  · intro h
    by_cases e : l0 = (1 : Int32)
    · rw [if_pos e]
    · rw [if_neg e]
      exact b (fun ⟨i, _, h2, h3⟩ => by
        rcases tw1_D ⟨i, h2⟩ with h4 | h4
        · exact e (h3.trans h4)
        · dsimp only at h4; rw [← h3] at h4; exact h h4)
def isDb (d : Int) : Bool := decide (d = -1 ∨ d = 2 ∨ d = -2 ∨ d = 3 ∨ d = -3 ∨ d = 5 ∨ d = -5 ∨ d = 6 ∨ d = -6 ∨ d = 7 ∨ d = -7 ∨ d = 10 ∨ d = -10)
theorem m_isTall : ∀ x : Fin 21, g_X8_isTwist (Int32.ofInt ((x.val : Int) - 10)) = some (bI (isDb ((x.val : Int) - 10))) := by decide +kernel
theorem m_isT (l0 : Int32) : (isD l0.toInt → g_X8_isTwist l0 = some 1) ∧ (¬ isD l0.toInt → g_X8_isTwist l0 = some 0) := by
  by_cases hr : -10 ≤ l0.toInt ∧ l0.toInt ≤ 10
  · have e : Int32.ofInt (((l0.toInt + 10).toNat : Int) - 10) = l0 := by rw [show ((l0.toInt + 10).toNat : Int) - 10 = l0.toInt by omega, Int32.ofInt_toInt]
    have h := m_isTall ⟨(l0.toInt + 10).toNat, by omega⟩
    dsimp only at h
    rw [e, show ((l0.toInt + 10).toNat : Int) - 10 = l0.toInt by omega] at h
    rw [h]
    exact ⟨fun g => by rw [show isDb l0.toInt = true from decide_eq_true g]; rfl, fun g => by rw [show isDb l0.toInt = false from decide_eq_false g]; rfl⟩
  · refine ⟨fun g => absurd g.v.2.1 hr, fun _ => ?_⟩
    unfold g_X8_isTwist
    rw [i64 l0, show (-10 : Int64) = ph (-10) from rfl, show (10 : Int64) = ph 10 from rfl, m_within (i_in l0) ⟨by omega, by omega⟩ ⟨by omega, by omega⟩, ob_e, if_neg hr, if_pos rfl]
def D2 (L : Cv) : Prop := -2000000000 ≤ dd L ∧ dd L ≤ 2000000000
theorem c_hasT {ev : EV} {th m : Nat} {z : PS} {n : Nat} {C L : Nat → Cv} {U : Nat → Int} (I : CI ev th z n C L U) {c : Nat} (hc : c < n) : (D2 (L c) → g_X7_hasTwists ev z th (nI c) = some 1) ∧ (¬ D2 (L c) → g_X7_hasTwists ev z th (nI c) = some 0) := by
  have h16 := I.2.1
  obtain ⟨f1, f2, f3, f4, f5⟩ := I.he hc
  have hb := f4.pq.1.dLb
  have hb1 := hb.1
  have hb2 := hb.2
  unfold g_X7_hasTwists
  rw [ck_e (inB_n (show c < 16 by omega) (by omega)), nI_clamp (by omega), f2.dd, show (2000000000 : Int64) = ph 2000000000 from rfl, c_within ⟨by omega, by omega⟩ (by omega) (by omega), ob_e]
  constructor
  · intro h
    have e : (if -2000000000 ≤ dd (L c) ∧ dd (L c) ≤ 2000000000 then (1 : Int32) else 0) = 1 := if_pos h
    rw [ck_e (Or.inr e), e]
  · intro h
    have e : (if -2000000000 ≤ dd (L c) ∧ dd (L c) ≤ 2000000000 then (1 : Int32) else 0) = 0 := if_neg h
    rw [ck_e (Or.inl e), e]
/-- a twist's least one, by the class and for the reference -/
theorem c_dtw {ev : EV} {th : Nat} {z : PS} {n : Nat} {C L : Nat → Cv} {U : Nat → Int} (I : CI ev th z n C L U) {c : Nat} (hc : c < n) (h2 : D2 (L c)) {l2 : Int32} (hd : isD l2.toInt) : ∃ L' u', KG (tq (L c) l2.toInt) L' u' ∧ HI (tq (L c) l2.toInt) L' u' ∧ ∀ z' C' L'' U' n', CI ev th z' n' C' L'' U' → c < n' → L'' c = L c → g_X7_draftTwist ev z' th (nI c) l2 = some (sE z' (rf ev 102 th) L') := by
  obtain ⟨f1, f2, f3, f4, f5⟩ := I.he hc
  obtain ⟨L', u', a1', a2', a3'⟩ := tw_PQ ev f4 h2 hd
  refine ⟨L', u', a1', a2', fun z' C' L'' U' n' I' hc' hL => ?_⟩
  have h16 := I'.2.1
  obtain ⟨-, g2, -, -, -⟩ := I'.he hc'
  rw [hL] at g2
  unfold g_X7_draftTwist
  rw [ck_e (inB_n (show c < 16 by omega) (by omega)), nI_clamp (by omega), i64 l2, g2.c4, g2.c6, g2.dd, show (16 : Int64) = ph 16 from rfl, show (64 : Int64) = ph 64 from rfl, show (4096 : Int64) = ph 4096 from rfl]
  simp only [bd_e, ph_mul]
  have e4 : 16 * (l2.toInt * l2.toInt) * c4 (L c) = 16 * l2.toInt ^ 2 * c4 (L c) := by grind
  have e6 : 64 * (l2.toInt * l2.toInt) * l2.toInt * c6 (L c) = 64 * l2.toInt ^ 3 * c6 (L c) := by grind
  have e12 : 4096 * (l2.toInt * l2.toInt * (l2.toInt * l2.toInt) * (l2.toInt * l2.toInt)) * dd (L c) = 4096 * l2.toInt ^ 6 * dd (L c) := by grind
  rw [e4, e6, e12, a3', ob_e]
theorem m_tws {ev : EV} {m : Nat} (hD : DM ev m) {z : PS} {n : Nat} {C : Nat → Cv} (M : MI ev m z n C) {c : Nat} (hc : c < n) {L : Cv} {u : Int} (H : HG (C c) L u) (l2 : Int32) :
    (¬ D2 L → ∃ z', g_X8_twists ev z m (nI c) l2 = some (0, z') ∧ FM ev m z z') ∧ (D2 L → l2 = 1 → ∃ z', g_X8_twists ev z m (nI c) l2 = some (1, z') ∧ FM ev m z z' ∧ AH ev m z' 123 L) ∧
    (D2 L → isD l2.toInt → ∀ L' u', PQ (tq L l2.toInt) L' u' → ∃ z', g_X8_twists ev z m (nI c) l2 = some (1, z') ∧ FM ev m z z' ∧ AH ev m z' 123 L') := by
  have hp := H.pq
  obtain ⟨z2, g1, g2, g3, g4⟩ := n_goesL hD hp (AH_sA ev m z 123 (C c))
  have F := (FM_sA ev m z (C c) (Or.inl rfl)).tr g4
  have hb := hp.1.dLb
  have hb1 := hb.1
  have hb2 := hb.2
  have e := Eq.refl (g_X8_twists ev z m (nI c) l2)
  conv at e =>
    rhs
    unfold g_X8_twists
    rw [n_loads hD M.1 hc, ob_e, g1, ob_e, n_dd g2, ob_e, m_size hb, ob_e, show (2000000000 : Int64) = ph 2000000000 from rfl]
  refine ⟨fun h => ?_, fun h h1 => ?_, fun h hd L' u' hq => ?_⟩
  · rw [if_neg (by unfold D2 at h; rw [ph_le ⟨by omega, by omega⟩ ⟨by omega, by omega⟩]; omega)] at e
    exact ⟨z2, e, F⟩
  · rw [if_pos (by unfold D2 at h; rw [ph_le ⟨by omega, by omega⟩ ⟨by omega, by omega⟩]; omega), if_pos h1] at e
    exact ⟨z2, e, F, g2⟩
  · have hne : ¬ l2 = (1 : Int32) := fun e => by subst e; revert hd; unfold isD; decide
    obtain ⟨z3, k1, k2, k3, k4⟩ := n_goesL hD hq (AH_sA ev m z2 123 (tq L l2.toInt))
    have b4e : g_X8_b4 ev z2 m = some (ph (b4 L)) := by have := m_b4 ev z2 m L; rwa [AM.eq g2] at this
    rw [if_pos (by unfold D2 at h; rw [ph_le ⟨by omega, by omega⟩ ⟨by omega, by omega⟩]; omega), if_neg hne, n_b2 g2, ob_e, b4e, ob_e, n_b6 g2, ob_e, i64 l2, show (8 : Int64) = ph 8 from rfl, show (16 : Int64) = ph 16 from rfl, l0] at e
    simp only [bd_e, ph_mul] at e
    rw [show wJ (wJ (wJ (wJ (wJ z2 (rf ev 123 m) 0 (ph 0)) (rf ev 123 m) 1 (ph (l2.toInt * b2 L))) (rf ev 123 m) 2 (ph 0)) (rf ev 123 m) 3 (ph (8 * l2.toInt * l2.toInt * b4 L))) (rf ev 123 m) 4 (ph (16 * l2.toInt * l2.toInt * l2.toInt * b6 L)) = sA z2 (rf ev 123 m) (tq L l2.toInt) from wJ5 z2 (rf ev 123 m) (tq L l2.toInt), k1, ob_e] at e
    exact ⟨z3, e, (F.tr (FM_sA ev m z2 _ (Or.inl rfl))).tr k4, k2⟩
theorem op_twist {ev : EV} {th m : Nat} (S : Sep ev th m) {z : PS} (I : IV ev th m z) (l1 l2 : Int32) : OP ev th m (g_X7_twist ev z th l1 l2) (fun z1 => g_X8_twist ev z1 m l1 l2) := by
  obtain ⟨n, C, L, U, I⟩ := I
  have hD := S.2.2.2
  have h16 := I.1.2.1
  have M0 := I.2.fm hD (w120 ev m z 0)
  have w0 := IV.w0 S I (NEU.rf ev th m z) (MU.rf ev m z) 0
  by_cases hc : ∃ c, c < n ∧ l1 = nI c
  · obtain ⟨c, c1, rfl⟩ := hc
    obtain ⟨f1, f2, f3, f4, f5⟩ := I.1.he c1
    by_cases hd : isD l2.toInt
    · by_cases h2 : D2 (L c)
      · obtain ⟨L', u', p1, p2, p3⟩ := c_dtw I.1 c1 h2 hd
        have pq : PQ (tq (L c) l2.toInt) L' u' := ⟨p2.pair, p1.2.2.2.2.2.2⟩
        obtain ⟨r, z2, b1, b2, b3⟩ := both_keep S I (sE_neu ev th m z _) (sE_mu ev m z _ _) (EQ_sE z (rf ev 102 th) L') p1.least (fun s => ⟨s.2.2.2.1, s.2.2.2.2⟩) (lb_9 pq.1.lb) pq.1.dLb
        have M' := (I.2.mu b2).fm hD (w120 ev m z2 0)
        obtain ⟨z3, g1, g2, g3⟩ := (m_tws hD M' c1 f4 l2).2.2 h2 hd L' u' pq
        obtain ⟨z4, d1, d2⟩ := b3 z3 ((w120 ev m z2 0).tr g2) g3
        refine ⟨r, z2, z4, ?_, ?_, d2⟩
        · unfold g_X7_twist
          rw [c_th1 I.1.1 h16 c1, ob_e, if_neg ne10, (c_isT l2).1 hd, ob_e, if_neg ne10, (c_hasT (m := m) I.1 c1).1 h2, ob_e, if_neg ne10, p3 z C L U n I.1 c1 rfl, ob_e, b1, ob_e, bd_e, bd_e]
        · dsimp only
          unfold g_X8_twist
          rw [bd_e, m_th1 M'.1.2.1 h16 c1, ob_e, if_neg ne10, (m_isT l2).1 hd, ob_e, if_neg ne10, g1, ob_e, bd_e, bd_e, if_neg ne10, d1, ob_e, bd_e, bd_e]
      · obtain ⟨z3, g1, g2⟩ := (m_tws hD M0 c1 f4 l2).1 h2
        refine ⟨-1, z, z3, ?_, ?_, n, C, L, U, INV.fm S I.1 I.2 (MU.rf ev m z) ((w120 ev m z 0).tr g2)⟩
        · unfold g_X7_twist
          rw [c_th1 I.1.1 h16 c1, ob_e, if_neg ne10, (c_isT l2).1 hd, ob_e, if_neg ne10, (c_hasT (m := m) I.1 c1).2 h2, ob_e, if_pos rfl]
        · dsimp only
          unfold g_X8_twist
          rw [bd_e, m_th1 M0.1.2.1 h16 c1, ob_e, if_neg ne10, (m_isT l2).1 hd, ob_e, if_neg ne10, g1, ob_e, bd_e, bd_e, if_pos rfl]
    · refine ⟨-1, z, w32 z 120 m 0, ?_, ?_, w0⟩
      · unfold g_X7_twist; rw [c_th1 I.1.1 h16 c1, ob_e, if_neg ne10, (c_isT l2).2 hd, ob_e, if_pos rfl]
      · dsimp only; unfold g_X8_twist; rw [bd_e, m_th1 M0.1.2.1 h16 c1, ob_e, if_neg ne10, (m_isT l2).2 hd, ob_e, if_pos rfl]
  · refine ⟨-1, z, w32 z 120 m 0, ?_, ?_, w0⟩
    · unfold g_X7_twist; rw [c_th0 I.1.1 h16 hc, ob_e, if_pos rfl]
    · dsimp only; unfold g_X8_twist; rw [bd_e, m_th0 M0.1.2.1 h16 hc, ob_e, if_pos rfl]
