/-! one, count -/
def OP1 {α : Type} (ev : EV) (th m : Nat) (a : Option α) (b : Option (α × PS)) : Prop := ∃ (r : α) (z2 : PS), a = some r ∧ b = some (r, z2) ∧ IV ev th m z2
theorem cv_ext {E F : Cv} (h : ∀ k, k < 5 → co E k = co F k) : E = F := by
  have h0 : a1 E = a1 F := h 0 (by omega)
  have h1 : a2 E = a2 F := h 1 (by omega)
  have h2 : a3 E = a3 F := h 2 (by omega)
  have h3 : a4 E = a4 F := h 3 (by omega)
  have h4 : a6 E = a6 F := h 4 (by omega)
  exact Prod.ext h0 (Prod.ext h1 (Prod.ext h2 (Prod.ext h3 h4)))
theorem b9_R {x : Int} (h : b9 x) : inR x := ⟨by have := h.1; omega, by have := h.2; omega⟩
def sameE (E F : Cv) : Bool := decide (E = F)
theorem c_same {ev : EV} {z : PS} {x y : Nat} {E F : Cv} (hE : EQ z x E) (hF : EQ z y F) (cE : ∀ k, k < 5 → b9 (co E k)) (cF : ∀ k, k < 5 → b9 (co F k)) : g_X0_isSameAs ev z x y = some (bI (sameE E F)) := by
  have q : ∀ k, k < 5 → (ph (co E k) = ph (co F k) ↔ co E k = co F k) := fun k hk => ph_eq (b9_R (cE k hk)) (b9_R (cF k hk))
  have q0 : ph (a1 E) = ph (a1 F) ↔ a1 E = a1 F := q 0 (by omega)
  have q1 : ph (a2 E) = ph (a2 F) ↔ a2 E = a2 F := q 1 (by omega)
  have q2 : ph (a3 E) = ph (a3 F) ↔ a3 E = a3 F := q 2 (by omega)
  have q3 : ph (a4 E) = ph (a4 F) ↔ a4 E = a4 F := q 3 (by omega)
  have q4 : ph (a6 E) = ph (a6 F) ↔ a6 E = a6 F := q 4 (by omega)
  unfold g_X0_isSameAs
  rw [hE.a1, hE.a2, hE.a3, hE.a4, hE.a6, hF.a1, hF.a2, hF.a3, hF.a4, hF.a6]
  by_cases h : E = F
  · rw [show sameE E F = true from decide_eq_true h]
    subst h
    rw [if_pos rfl, if_pos rfl, if_pos rfl, if_pos rfl, if_pos rfl]; rfl
  · rw [show sameE E F = false from decide_eq_false h]
    simp only [iand]
    rw [if_neg]
    · rfl
    · intro ⟨e0, e1, e2, e3, e4⟩
      exact h (Prod.ext (q0.mp e0) (Prod.ext (q1.mp e1) (Prod.ext (q2.mp e2) (Prod.ext (q3.mp e3) (q4.mp e4)))))
def ek (E F : Cv) (k : Nat) : Bool := decide (co E k = co F k)
theorem ek_all (E F : Cv) : (true && ek E F 0 && ek E F 1 && ek E F 2 && ek E F 3 && ek E F 4) = sameE E F := by
  by_cases h : E = F
  · subst h
    rw [show sameE E E = true from decide_eq_true rfl]
    simp [ek]
  · rw [show sameE E F = false from decide_eq_false h]
    rw [Bool.eq_false_iff]
    intro hh
    simp only [Bool.and_eq_true, ek, decide_eq_true_eq] at hh
    apply h
    apply cv_ext
    intro k hk
    rcases (show k = 0 ∨ k = 1 ∨ k = 2 ∨ k = 3 ∨ k = 4 by omega) with rfl | rfl | rfl | rfl | rfl
    · exact hh.1.1.1.1.2
    · exact hh.1.1.1.2
    · exact hh.1.1.2
    · exact hh.1.2
    · exact hh.2
theorem ao_step {ev : EV} {m : Nat} {z : PS} {E F : Cv} (A : AH ev m z 132 E) (B : AH ev m z 123 F) (cE : ∀ k, k < 5 → b9 (co E k)) (cF : ∀ k, k < 5 → b9 (co F k)) {k : Nat} (hk : k < 5) (n : Nat) (b : Bool) : q_X8_areOne_48 ev m (n + 1) (bI b) (nI k) z = q_X8_areOne_48 ev m n (bI (b && ek E F k)) (nI (k + 1)) z := by
  have q : ph (co E k) = ph (co F k) ↔ co E k = co F k := ph_eq (b9_R (cE k hk)) (b9_R (cF k hk))
  rw [q_X8_areOne_48, if_neg (lt5 hk), nI_s]
  cases b with
  | false => rw [if_pos (by decide), bd_e]; rfl
  | true =>
    rw [if_neg (by decide), ck_e (inB_n hk (by omega)), ck_e (inB_n hk (by omega)), cl k hk, A k hk, B k hk, bd_e, bd_e]
    by_cases h : co E k = co F k
    · rw [if_pos (q.mpr h), show ek E F k = true from decide_eq_true h]; rfl
    · rw [if_neg (fun e => h (q.mp e)), show ek E F k = false from decide_eq_false h]; rfl
theorem ao_all {ev : EV} {m : Nat} {z : PS} {E F : Cv} (A : AH ev m z 132 E) (B : AH ev m z 123 F) (cE : ∀ k, k < 5 → b9 (co E k)) (cF : ∀ k, k < 5 → b9 (co F k)) : q_X8_areOne_48 ev m FU (1 : Int32) (0 : Int32) z = some (bI (sameE E F), z) := by
  obtain ⟨n, hn⟩ := FU5
  rw [hn, show (0 : Int32) = nI 0 from rfl, show (1 : Int32) = bI true from rfl, show n + 1 + 5 = n + 1 + 4 + 1 from rfl, ao_step A B cE cF (by omega), show n + 1 + 4 = n + 1 + 3 + 1 from rfl, ao_step A B cE cF (by omega), show n + 1 + 3 = n + 1 + 2 + 1 from rfl, ao_step A B cE cF (by omega), show n + 1 + 2 = n + 1 + 1 + 1 from rfl, ao_step A B cE cF (by omega), ao_step A B cE cF (by omega), ek_all, q_X8_areOne_48, if_pos (by decide), ck_e (bI_ck _)]
theorem m_one {ev : EV} {m : Nat} (hD : DM ev m) {z : PS} {n : Nat} {C : Nat → Cv} (M : MI ev m z n C) {c d : Nat} (hc : c < n) (hd : d < n) {L L' : Cv} {u u' : Int} (H : HG (C c) L u) (H' : HG (C d) L' u') : ∃ z', g_X8_areOne ev z m (nI c) (nI d) = some (bI (sameE L L'), z') ∧ FM ev m z z' := by
  obtain ⟨z1, a1', a2', a3', a4'⟩ := n_goesN hD H.pq (AH_sA ev m z 123 (C c))
  have F1 := (FM_sA ev m z (C c) (Or.inl rfl)).tr a4'.fm
  have F2 := F1.tr (FM_sA ev m z1 L (a := 132) (by omega))
  have M2 := M.fm hD F2
  obtain ⟨z3, b1, b2', b3, b4'⟩ := n_goesN hD H'.pq (AH_sA ev m (sA z1 (rf ev 132 m) L) 123 (C d))
  have A132 : AH ev m z3 132 L := b4'.ah hD.sb132 (AH.ne (AH_sA ev m z1 132 L) (hD.ne 132 123))
  refine ⟨z3, ?_, (F2.tr (FM_sA ev m _ (C d) (Or.inl rfl))).tr b4'.fm⟩
  obtain ⟨f, hf⟩ := FU5
  unfold g_X8_areOne
  rw [n_loads hD M.1 hc, ob_e, a1', ob_e, hf, cp5 (Q := fun f => q_X8_areOne_11 ev m f (nI d)) (o := 0) (hD.ne 123 132) (fun f k z hk => by
    show q_X8_areOne_11 ev m (f + 1) (nI d) (nI k) z = _
    rw [q_X8_areOne_11, if_neg (lt5 hk), ck_e (inB_n hk (by omega)), bd_e, ck_e (inB_n hk (by omega)), bd_e, bd_e, cl k hk, nI_s, Nat.zero_add]) (f + 1) z1 (E := L) (fun k hk => by rw [Nat.zero_add]; exact a2' k hk)]
  show q_X8_areOne_11 ev m (f + 1) (nI d) (nI 5) _ = _
  rw [q_X8_areOne_11, if_pos five_le, n_loads hD M2.1 hd, ob_e, b1, ob_e, ao_all A132 b2' (lb_9 H.pq.1.lb) (lb_9 H'.pq.1.lb)]
theorem op_one {ev : EV} {th m : Nat} (S : Sep ev th m) {z : PS} (I : IV ev th m z) (l1 l2 : Int32) : OP1 ev th m (g_X7_one ev z th l1 l2) (g_X8_one ev z m l1 l2) := by
  obtain ⟨n, C, L, U, I⟩ := I
  have hD := S.2.2.2
  have h16 := I.1.2.1
  have M0 := I.2.fm hD (w120 ev m z 0)
  have w0 := IV.w0 S I (NEU.rf ev th m z) (MU.rf ev m z) 0
  by_cases hc : ∃ c, c < n ∧ l1 = nI c
  · obtain ⟨c, c1, rfl⟩ := hc
    by_cases hd : ∃ c, c < n ∧ l2 = nI c
    · obtain ⟨d, d1, rfl⟩ := hd
      obtain ⟨f1, f2, f3, f4, f5⟩ := I.1.he c1
      obtain ⟨g1, g2, g3, g4, g5⟩ := I.1.he d1
      obtain ⟨z', a1', a2'⟩ := m_one hD M0 c1 d1 f4 g4
      have iv := IV.mk (INV.fm S I.1 I.2 (MU.rf ev m z) ((w120 ev m z 0).tr a2'))
      have e7 : g_X7_one ev z th (nI c) (nI d) = if bI (sameE (L c) (L d)) = 0 then some 0 else some 1 := by
        unfold g_X7_one
        rw [c_th1 I.1.1 h16 c1, ob_e, if_neg ne10, c_th1 I.1.1 h16 d1, ob_e, if_neg ne10, ck_e (inB_n (show c < 16 by omega) (by omega)), ck_e (inB_n (show d < 16 by omega) (by omega)), nI_clamp (show c < 2 ^ 31 by omega), nI_clamp (show d < 2 ^ 31 by omega), c_same f2 g2 (lb_9 f4.pq.1.lb) (lb_9 g4.pq.1.lb), ob_e]
      have e8 : g_X8_one ev z m (nI c) (nI d) = if bI (sameE (L c) (L d)) = 0 then some (0, z') else some (1, z') := by
        unfold g_X8_one
        rw [bd_e, m_th1 M0.1.2.1 h16 c1, ob_e, if_neg ne10, m_th1 M0.1.2.1 h16 d1, ob_e, if_neg ne10, a1', ob_e, bd_e, bd_e]
      by_cases h : bI (sameE (L c) (L d)) = 0
      · exact ⟨0, z', by rw [e7, if_pos h], by rw [e8, if_pos h], iv⟩
      · exact ⟨1, z', by rw [e7, if_neg h], by rw [e8, if_neg h], iv⟩
    · refine ⟨0, w32 z 120 m 0, ?_, ?_, w0⟩
      · unfold g_X7_one; rw [c_th1 I.1.1 h16 c1, ob_e, if_neg ne10, c_th0 I.1.1 h16 hd, ob_e, if_pos rfl]
      · unfold g_X8_one; rw [bd_e, m_th1 M0.1.2.1 h16 c1, ob_e, if_neg ne10, m_th0 M0.1.2.1 h16 hd, ob_e, if_pos rfl]
  · refine ⟨0, w32 z 120 m 0, ?_, ?_, w0⟩
    · unfold g_X7_one; rw [c_th0 I.1.1 h16 hc, ob_e, if_pos rfl]
    · unfold g_X8_one; rw [bd_e, m_th0 M0.1.2.1 h16 hc, ob_e, if_pos rfl]
/-! bits -/
def bts (c : Nat → Bool) : Nat → Int32
  | 0 => 0
  | k + 1 => if c k then bts c k ||| ((1 : Int32) <<< (nI k &&& 31)) else bts c k
theorem bts_s (c : Nat → Bool) (k : Nat) : bts c (k + 1) = if c k then bts c k ||| ((1 : Int32) <<< (nI k &&& 31)) else bts c k := rfl
def own1 (U : Nat → Int) (k : Nat) : Bool := decide (U k = 1)
def own2 (C L : Nat → Cv) (k : Nat) : Bool := sameE (L k) (C k)
theorem sameE_c (E F : Cv) : sameE E F = sameE F E := by
  unfold sameE
  by_cases h : E = F
  · subst h; rfl
  · rw [decide_eq_false h, decide_eq_false (fun e => h e.symm)]
theorem u_one {E L : Cv} {u : Int} (h : Pair E L u) : ph u = (1 : Int64) ↔ u = 1 := by
  have uR := (h.ur (e := 1) (by omega)).2.1
  rw [Int.pow_one] at uR
  rw [l1, ph_eq uR ⟨by omega, by omega⟩]
theorem cb1_loop {ev : EV} {th : Nat} {z : PS} {n : Nat} {C L : Nat → Cv} {U : Nat → Int} (I : CI ev th z n C L U) : ∀ (d f k : Nat), k + d = n → q_X7_bitsOfLeast_4 ev z th (f + d + 1) (0 : Int32) (bts (own1 U) k) (nI k) = some (bts (own1 U) n) := by
  have h16 := I.2.1
  intro d
  induction d with
  | zero =>
    intro f k hk
    have : k = n := by omega
    subst this
    rw [q_X7_bitsOfLeast_4, I.1, if_pos (Int32.le_refl _)]
  | succ d ih =>
    intro f k hk
    obtain ⟨f1, f2, f3, f4, f5⟩ := I.he (show k < n by omega)
    have := ih f (k + 1) (by omega)
    rw [bts_s] at this
    rw [q_X7_bitsOfLeast_4, I.1, if_neg (by rw [i_le (by omega) (by omega)]; omega), ck_e (inB_n (show k < 16 by omega) (by omega)), if_pos rfl, nI_clamp (by omega), f3]
    simp only [bd_e, nI_s]
    by_cases h : U k = 1
    · rw [if_pos ((u_one f4.pq.1).mpr h)]
      rw [show own1 U k = true from decide_eq_true h, if_pos rfl] at this
      exact this
    · rw [if_neg (fun e => h ((u_one f4.pq.1).mp e))]
      rw [show own1 U k = false from decide_eq_false h, if_neg (by decide)] at this
      exact this
theorem cb2_loop {ev : EV} {th : Nat} {z : PS} {n : Nat} {C L : Nat → Cv} {U : Nat → Int} (I : CI ev th z n C L U) : ∀ (d f k : Nat), k + d = n → q_X7_bitsOfLeast_4 ev z th (f + d + 1) (1 : Int32) (bts (own2 C L) k) (nI k) = some (bts (own2 C L) n) := by
  have h16 := I.2.1
  intro d
  induction d with
  | zero =>
    intro f k hk
    have : k = n := by omega
    subst this
    rw [q_X7_bitsOfLeast_4, I.1, if_pos (Int32.le_refl _)]
  | succ d ih =>
    intro f k hk
    obtain ⟨f1, f2, f3, f4, f5⟩ := I.he (show k < n by omega)
    have := ih f (k + 1) (by omega)
    rw [bts_s] at this
    rw [q_X7_bitsOfLeast_4, I.1, if_neg (by rw [i_le (by omega) (by omega)]; omega), ck_e (inB_n (show k < 16 by omega) (by omega)), if_neg ne10, nI_clamp (by omega), c_same f1 f2 (s5_9 f4.2.1) (lb_9 f4.pq.1.lb), ob_e, sameE_c]
    simp only [bd_e, nI_s]
    unfold own2 at this
    unfold own2
    cases hb : sameE (L k) (C k) with
    | true =>
      rw [hb, if_pos rfl] at this
      rw [if_neg (by decide)]
      exact this
    | false =>
      rw [hb, if_neg (by decide)] at this
      rw [if_pos (by decide)]
      exact this
theorem il_step {ev : EV} {m : Nat} {z : PS} {E F : Cv} (A : AH ev m z 124 E) (B : AH ev m z 123 F) (cE : ∀ k, k < 5 → b9 (co E k)) (cF : ∀ k, k < 5 → b9 (co F k)) {k : Nat} (hk : k < 5) (n : Nat) (b : Bool) : q_X8_isLeast_13 ev m (n + 1) (bI b) (nI k) z = q_X8_isLeast_13 ev m n (bI (b && ek E F k)) (nI (k + 1)) z := by
  have q : ph (co E k) = ph (co F k) ↔ co E k = co F k := ph_eq (b9_R (cE k hk)) (b9_R (cF k hk))
  rw [q_X8_isLeast_13, if_neg (lt5 hk), nI_s]
  cases b with
  | false => rw [if_pos (by decide), bd_e]; rfl
  | true =>
    rw [if_neg (by decide), ck_e (inB_n hk (by omega)), ck_e (inB_n hk (by omega)), cl k hk, A k hk, B k hk, bd_e, bd_e]
    by_cases h : co E k = co F k
    · rw [if_pos (q.mpr h), show ek E F k = true from decide_eq_true h]; rfl
    · rw [if_neg (fun e => h (q.mp e)), show ek E F k = false from decide_eq_false h]; rfl
theorem m_isL {ev : EV} {m : Nat} (hD : DM ev m) {z : PS} {n : Nat} {C : Nat → Cv} (M : MI ev m z n C) {c : Nat} (hc : c < n) {L : Cv} {u : Int} (H : HG (C c) L u) : (∃ z', g_X8_isLeast ev z m (nI c) = some (bI (sameE L (C c)), z') ∧ FM ev m z z') ∧ (∃ z', g_X8_isLeastEverywhere ev z m (nI c) = some (bI (decide (u = 1)), z') ∧ FM ev m z z') := by
  obtain ⟨z1, a1', a2', a3', a4', a5'⟩ := n_laysL hD H.pq (AH_sA ev m z 123 (C c))
  have F := (FM_sA ev m z (C c) (Or.inl rfl)).tr a5'
  refine ⟨⟨z1, ?_, F⟩, z1, ?_, F⟩
  · obtain ⟨f, hf⟩ := FU5
    have cE := lb_9 H.pq.1.lb
    have cF := s5_9 H.2.1
    unfold g_X8_isLeast
    rw [n_loads hD M.1 hc, ob_e, a1', ob_e, hf, show (0 : Int32) = nI 0 from rfl, show (1 : Int32) = bI true from rfl, show f + 1 + 5 = f + 1 + 4 + 1 from rfl, il_step a3' a2' cE cF (by omega), show f + 1 + 4 = f + 1 + 3 + 1 from rfl, il_step a3' a2' cE cF (by omega), show f + 1 + 3 = f + 1 + 2 + 1 from rfl, il_step a3' a2' cE cF (by omega), show f + 1 + 2 = f + 1 + 1 + 1 from rfl, il_step a3' a2' cE cF (by omega), il_step a3' a2' cE cF (by omega), ek_all, q_X8_isLeast_13, if_pos (by decide), ck_e (bI_ck _)]
  · unfold g_X8_isLeastEverywhere
    rw [n_loads hD M.1 hc, ob_e, a1', ob_e, a4']
    by_cases h : u = 1
    · rw [if_pos ((u_one H.pq.1).mpr h), decide_eq_true h]; rfl
    · rw [if_neg (fun e => h ((u_one H.pq.1).mp e)), decide_eq_false h]; rfl
theorem mb1_loop {ev : EV} {th m : Nat} (hD : DM ev m) {n : Nat} {C L : Nat → Cv} {U : Nat → Int} (H : ∀ k, k < n → HG (C k) (L k) (U k)) (h16 : n ≤ 16) : ∀ (d f k : Nat) (z : PS), k + d = n → MI ev m z n C → ∃ z', q_X8_count_117 ev m (f + d + 1) (bts (own1 U) k) (nI k) z = some (bts (own1 U) n, z') ∧ FM ev m z z' := by
  intro d
  induction d with
  | zero =>
    intro f k z hk M
    have : k = n := by omega
    subst this
    exact ⟨z, by rw [q_X8_count_117, M.1.2.1, if_pos (Int32.le_refl _)], FM.rf ev m z⟩
  | succ d ih =>
    intro f k z hk M
    obtain ⟨-, z1, a1', a2'⟩ := m_isL hD M (show k < n by omega) (H k (by omega))
    obtain ⟨z2, b1, b2'⟩ := ih f (k + 1) z1 (by omega) (M.fm hD a2')
    refine ⟨z2, ?_, a2'.tr b2'⟩
    rw [bts_s] at b1
    rw [q_X8_count_117, M.1.2.1, if_neg (by rw [i_le (by omega) (by omega)]; omega), a1', ob_e]
    simp only [bd_e, nI_s, Int32.or_zero]
    unfold own1 at b1
    unfold own1
    by_cases h : U k = 1
    · rw [decide_eq_true h, if_pos rfl] at b1
      rw [decide_eq_true h, if_neg (by decide)]
      exact b1
    · rw [decide_eq_false h, if_neg (by decide)] at b1
      rw [decide_eq_false h, if_pos (by decide)]
      exact b1
theorem mb2_loop {ev : EV} {th m : Nat} (hD : DM ev m) {n : Nat} {C L : Nat → Cv} {U : Nat → Int} (H : ∀ k, k < n → HG (C k) (L k) (U k)) (h16 : n ≤ 16) : ∀ (d f k : Nat) (z : PS), k + d = n → MI ev m z n C → ∃ z', q_X8_count_81 ev m (f + d + 1) (bts (own2 C L) k) (nI k) z = some (bts (own2 C L) n, z') ∧ FM ev m z z' := by
  intro d
  induction d with
  | zero =>
    intro f k z hk M
    have : k = n := by omega
    subst this
    exact ⟨z, by rw [q_X8_count_81, M.1.2.1, if_pos (Int32.le_refl _)], FM.rf ev m z⟩
  | succ d ih =>
    intro f k z hk M
    obtain ⟨⟨z1, a1', a2'⟩, -⟩ := m_isL hD M (show k < n by omega) (H k (by omega))
    obtain ⟨z2, b1, b2'⟩ := ih f (k + 1) z1 (by omega) (M.fm hD a2')
    refine ⟨z2, ?_, a2'.tr b2'⟩
    rw [bts_s] at b1
    rw [q_X8_count_81, M.1.2.1, if_neg (by rw [i_le (by omega) (by omega)]; omega), a1', ob_e]
    simp only [bd_e, nI_s, Int32.or_zero]
    unfold own2 at b1
    unfold own2
    cases hb : sameE (L k) (C k) with
    | true =>
      rw [hb, if_pos rfl] at b1
      rw [if_neg (by decide)]
      exact b1
    | false =>
      rw [hb, if_neg (by decide)] at b1
      rw [if_pos (by decide)]
      exact b1
/-! unlike ones -/
def anyE (L : Nat → Cv) (i : Nat) : Nat → Bool
  | 0 => false
  | j + 1 => anyE L i j || sameE (L i) (L j)
def unl (L : Nat → Cv) : Nat → Nat
  | 0 => 0
  | i + 1 => if anyE L i i then unl L i else unl L i + 1
theorem any_mono (L : Nat → Cv) (i : Nat) : ∀ d j, anyE L i j = true → anyE L i (j + d) = true := by
  intro d
  induction d with
  | zero => intro j h; exact h
  | succ d ih => intro j h; show (anyE L i (j + d) || _) = true; rw [ih j h]; rfl
theorem cu_in {ev : EV} {th : Nat} {z : PS} {n : Nat} {C L : Nat → Cv} {U : Nat → Int} (I : CI ev th z n C L U) {i A : Nat} (hi : i < n) (k4 : Int32 → Int32 → Option Int32) : ∀ (d f j : Nat), j + d = i → q_X7_countUnlike_17 ev z th k4 (f + d + 1) (nI A) (nI i) (bI (anyE L i j)) (nI j) = if anyE L i i then k4 (nI A) (nI (i + 1)) else k4 (nI (A + 1)) (nI (i + 1)) := by
  have h16 := I.2.1
  intro d
  induction d with
  | zero =>
    intro f j hj
    have : j = i := by omega
    subst this
    rw [q_X7_countUnlike_17, if_pos (Int32.le_refl _)]
    simp only [bd_e, nI_s]
    cases anyE L j j <;> rfl
  | succ d ih =>
    intro f j hj
    rw [q_X7_countUnlike_17, if_neg (by rw [i_le (by omega) (by omega)]; omega)]
    cases ha : anyE L i j with
    | true =>
      have hm := any_mono L i (d + 1) j ha
      rw [hj] at hm
      rw [hm, if_neg (by decide), if_neg (by decide), bd_e, nI_s]; rfl
    | false =>
      obtain ⟨f1, f2, f3, f4, f5⟩ := I.he hi
      obtain ⟨g1, g2, g3, g4, g5⟩ := I.he (show j < n by omega)
      have := ih f (j + 1) (by omega)
      rw [show anyE L i (j + 1) = (anyE L i j || sameE (L i) (L j)) from rfl, ha, Bool.false_or] at this
      rw [if_pos (by decide), ck_e (inB_n (show i < 16 by omega) (by omega)), ck_e (inB_n (show j < 16 by omega) (by omega)), nI_clamp (show i < 2 ^ 31 by omega), nI_clamp (show j < 2 ^ 31 by omega), c_same f2 g2 (lb_9 f4.pq.1.lb) (lb_9 g4.pq.1.lb), ob_e, bd_e, nI_s]
      exact this
theorem c_unl {ev : EV} {th : Nat} {z : PS} {n : Nat} {C L : Nat → Cv} {U : Nat → Int} (I : CI ev th z n C L U) : g_X7_countUnlike ev z th = some (nI (unl L n)) := by
  have h16 := I.2.1
  have loop : ∀ (d f i : Nat), i + d = n → q_X7_countUnlike_4 ev z th (f + d + 1) (nI (unl L i)) (nI i) = some (nI (unl L n)) := by
    intro d
    induction d with
    | zero =>
      intro f i hi
      have : i = n := by omega
      subst this
      rw [q_X7_countUnlike_4, I.1, if_pos (Int32.le_refl _)]
    | succ d ih =>
      intro f i hi
      obtain ⟨g, hg⟩ := FU_ge (d := i) (by omega)
      have st := cu_in I (A := unl L i) (show i < n by omega) (q_X7_countUnlike_4 ev z th (f + (d + 1))) i g 0 (by omega)
      rw [q_X7_countUnlike_4, I.1, if_neg (by rw [i_le (by omega) (by omega)]; omega), hg]
      refine Eq.trans st ?_
      have := ih f (i + 1) (by omega)
      rw [show unl L (i + 1) = if anyE L i i then unl L i else unl L i + 1 from rfl] at this
      cases ha : anyE L i i with
      | true => rw [ha, if_pos rfl] at this; rw [if_pos rfl]; exact this
      | false => rw [ha, if_neg (by decide)] at this; rw [if_neg (by decide)]; exact this
  obtain ⟨f, hf⟩ := FU_ge (d := n) (by omega)
  unfold g_X7_countUnlike
  rw [hf]
  exact loop n f 0 (by omega)
theorem mu_in {ev : EV} {m : Nat} (hD : DM ev m) {n : Nat} {C L : Nat → Cv} {U : Nat → Int} (H : ∀ k, k < n → HG (C k) (L k) (U k)) (h16 : n ≤ 16) {i : Nat} (hi : i < n) : ∀ (d f j : Nat) (z : PS), j + d = i → MI ev m z n C → ∃ z', q_X8_isUnlike_4 ev m (f + d + 1) (nI i) (bI (!anyE L i j)) (nI j) z = some (bI (!anyE L i i), z') ∧ FM ev m z z' := by
  intro d
  induction d with
  | zero =>
    intro f j z hj M
    have : j = i := by omega
    subst this
    exact ⟨z, by rw [q_X8_isUnlike_4, if_pos (Int32.le_refl _), ck_e (bI_ck _)], FM.rf ev m z⟩
  | succ d ih =>
    intro f j z hj M
    cases ha : anyE L i j with
    | true =>
      obtain ⟨z2, b1, b2'⟩ := ih f (j + 1) z (by omega) M
      refine ⟨z2, ?_, b2'⟩
      rw [show anyE L i (j + 1) = (anyE L i j || sameE (L i) (L j)) from rfl, ha, Bool.true_or] at b1
      rw [q_X8_isUnlike_4, if_neg (by rw [i_le (by omega) (by omega)]; omega), if_pos (by decide), bd_e, nI_s]
      exact b1
    | false =>
      obtain ⟨z1, a1', a2'⟩ := m_one hD M (show j < n by omega) hi (H j (by omega)) (H i hi)
      obtain ⟨z2, b1, b2'⟩ := ih f (j + 1) z1 (by omega) (M.fm hD a2')
      refine ⟨z2, ?_, a2'.tr b2'⟩
      rw [show anyE L i (j + 1) = (anyE L i j || sameE (L i) (L j)) from rfl, ha, Bool.false_or, sameE_c] at b1
      rw [q_X8_isUnlike_4, if_neg (by rw [i_le (by omega) (by omega)]; omega), if_neg (by decide), a1', ob_e]
      simp only [bd_e, nI_s]
      cases hs : sameE (L j) (L i) with
      | true => rw [hs] at b1; rw [if_neg (by decide)]; exact b1
      | false => rw [hs] at b1; rw [if_pos (by decide)]; exact b1
theorem m_unlk {ev : EV} {m : Nat} (hD : DM ev m) {n : Nat} {C L : Nat → Cv} {U : Nat → Int} (H : ∀ k, k < n → HG (C k) (L k) (U k)) (h16 : n ≤ 16) : ∀ (d f i : Nat) (z : PS), i + d = n → MI ev m z n C → ∃ z', q_X8_count_47 ev m (f + d + 1) (nI (unl L i)) (nI i) z = some (nI (unl L n), z') ∧ FM ev m z z' := by
  intro d
  induction d with
  | zero =>
    intro f i z hi M
    have : i = n := by omega
    subst this
    exact ⟨z, by rw [q_X8_count_47, M.1.2.1, if_pos (Int32.le_refl _)], FM.rf ev m z⟩
  | succ d ih =>
    intro f i z hi M
    obtain ⟨g, hg⟩ := FU_ge (d := i) (by omega)
    obtain ⟨z1, a1', a2'⟩ := mu_in hD H h16 (show i < n by omega) i g 0 z (by omega) M
    obtain ⟨z2, b1, b2'⟩ := ih f (i + 1) z1 (by omega) (M.fm hD a2')
    refine ⟨z2, ?_, a2'.tr b2'⟩
    have e : g_X8_isUnlike ev z m (nI i) = some (bI (!anyE L i i), z1) := by
      unfold g_X8_isUnlike
      rw [hg]
      exact a1'
    rw [show unl L (i + 1) = if anyE L i i then unl L i else unl L i + 1 from rfl] at b1
    rw [q_X8_count_47, M.1.2.1, if_neg (by rw [i_le (by omega) (by omega)]; omega), e, ob_e]
    simp only [bd_e, nI_s]
    cases ha : anyE L i i with
    | true =>
      rw [ha, if_pos rfl] at b1
      rw [if_pos (by decide), show (0 : Int32) = nI 0 from rfl, i_add]
      exact b1
    | false =>
      rw [ha, if_neg (by decide)] at b1
      rw [if_neg (by decide)]
      exact b1
theorem op_count {ev : EV} {th m : Nat} (S : Sep ev th m) {z : PS} (I : IV ev th m z) (l1 : Int32) : OP1 ev th m (g_X7_count ev z th l1) (g_X8_count ev z m l1) := by
  obtain ⟨n, C, L, U, I⟩ := I
  have hD := S.2.2.2
  have h16 := I.1.2.1
  have M0 := I.2.fm hD (w120 ev m z 0)
  have w0 := IV.w0 S I (NEU.rf ev th m z) (MU.rf ev m z) 0
  have H : ∀ k, k < n → HG (C k) (L k) (U k) := fun k hk => (I.1.he hk).2.2.2.1
  have iv : ∀ z', FM ev m (w32 z 120 m 0) z' → IV ev th m z' := fun z' F => IV.mk (INV.fm S I.1 I.2 (MU.rf ev m z) ((w120 ev m z 0).tr F))
  obtain ⟨f, hf⟩ := FU_ge (d := n) (by omega)
  unfold g_X7_count g_X8_count
  rw [bd_e]
  by_cases c0 : l1 = 0
  · rw [if_pos c0, if_pos c0]
    exact ⟨nI n, _, by rw [I.1.1], by rw [show r32 (w32 z 120 m 0) 121 m = nI n from M0.1.2.1], w0⟩
  · rw [if_neg c0, if_neg c0]
    by_cases c1 : l1 = 1
    · rw [if_pos c1, if_pos c1]
      obtain ⟨z', a1', a2'⟩ := m_unlk hD H h16 n f 0 _ (by omega) M0
      exact ⟨nI (unl L n), z', by rw [c_unl I.1, ob_e], by rw [hf]; exact a1', iv z' a2'⟩
    · rw [if_neg c1, if_neg c1]
      by_cases c2 : l1 = 2
      · rw [if_pos c2, if_pos c2]
        obtain ⟨z', a1', a2'⟩ := mb2_loop (th := th) hD H h16 n f 0 _ (by omega) M0
        refine ⟨bts (own2 C L) n, z', ?_, by rw [hf]; exact a1', iv z' a2'⟩
        unfold g_X7_bitsOfLeast
        rw [hf, show q_X7_bitsOfLeast_4 ev z th (f + n + 1) 1 0 0 = some (bts (own2 C L) n) from cb2_loop I.1 n f 0 (by omega), ob_e]
      · rw [if_neg c2, if_neg c2]
        by_cases c3 : l1 = 3
        · rw [if_pos c3, if_pos c3]
          obtain ⟨z', a1', a2'⟩ := mb1_loop (th := th) hD H h16 n f 0 _ (by omega) M0
          refine ⟨bts (own1 U) n, z', ?_, by rw [hf]; exact a1', iv z' a2'⟩
          unfold g_X7_bitsOfLeast
          rw [hf, show q_X7_bitsOfLeast_4 ev z th (f + n + 1) 0 0 0 = some (bts (own1 U) n) from cb1_loop I.1 n f 0 (by omega), ob_e]
        · rw [if_neg c3, if_neg c3]
          exact ⟨-1, _, rfl, rfl, w0⟩
