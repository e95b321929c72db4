/-! the same once more, with a narrower frame -/
def sbN (ev : EV) (m b : Nat) : Prop := b ≠ rf ev 123 m ∧ b ≠ rf ev 124 m ∧ b ≠ rf ev 125 m ∧ b ≠ rf ev 129 m ∧ b ≠ rf ev 131 m
def FN (ev : EV) (m : Nat) (z z' : PS) : Prop := (∀ i x, ¬ (i = 126 ∧ x = m) → z'.1 i x = z.1 i x) ∧ (∀ i x, ¬ ((i = 128 ∨ i = 130) ∧ x = m) → z'.2.1 i x = z.2.1 i x) ∧ (∀ b j, b ≠ rf ev 127 m → z'.2.2.1 b j = z.2.2.1 b j) ∧ (∀ b j, sbN ev m b → z'.2.2.2 b j = z.2.2.2 b j)
theorem FN.tr {ev : EV} {m : Nat} {x y z : PS} (h : FN ev m x y) (h' : FN ev m y z) : FN ev m x z :=
  ⟨fun i w hw => (h'.1 i w hw).trans (h.1 i w hw), fun i w hw => (h'.2.1 i w hw).trans (h.2.1 i w hw), fun b j hb => (h'.2.2.1 b j hb).trans (h.2.2.1 b j hb), fun b j hb => (h'.2.2.2 b j hb).trans (h.2.2.2 b j hb)⟩
theorem FN.fm {ev : EV} {m : Nat} {z z' : PS} (h : FN ev m z z') : FM ev m z z' :=
  ⟨fun i x hx => h.1 i x (fun hh => hx ⟨Or.inr (Or.inl hh.1), hh.2⟩), h.2.1, h.2.2.1, fun b j hb => h.2.2.2 b j ⟨hb.1, hb.2.1, hb.2.2.1, hb.2.2.2.1, hb.2.2.2.2.1⟩⟩
theorem Fr.fn {ev : EV} {m : Nat} {z z' : PS} (h : Fr ev m z z') : FN ev m z z' :=
  ⟨fun i x _ => by rw [h.1], fun i x hx => h.2.1 i x (fun hh => hx ⟨Or.inl hh.1, hh.2⟩), h.2.2.1, fun b j hb => h.2.2.2 b j hb.1 hb.2.2.2.1⟩
theorem FrQ.fn {ev : EV} {m : Nat} {z z' : PS} (h : FrQ ev m z z') : FN ev m z z' :=
  ⟨fun i x hx => h.2.2.1 i x hx, fun i x _ => by rw [h.1], fun b j _ => by rw [h.2.1], fun b j hb => h.2.2.2 b j hb.2.2.1⟩
theorem FN_sA (ev : EV) (m : Nat) (z : PS) {a : Nat} (E : Cv) (ha : a = 123 ∨ a = 124 ∨ a = 125 ∨ a = 129 ∨ a = 131) : FN ev m z (sA z (rf ev a m) E) := by
  refine ⟨fun _ _ _ => rfl, fun _ _ _ => rfl, fun _ _ _ => rfl, fun b j hb => ?_⟩
  refine sA_ne z E ?_ j
  obtain ⟨h1, h2, h3, h4, h5⟩ := hb
  rcases ha with rfl | rfl | rfl | rfl | rfl <;> assumption
theorem FN.ah {ev : EV} {m : Nat} {z z' : PS} {a : Nat} {E : Cv} (h : FN ev m z z') (hb : sbN ev m (ev.2.2.2.1 a m)) (A : AH ev m z a E) : AH ev m z' a E := fun k hk => (h.2.2.2 _ k hb).trans (A k hk)
theorem DM.sb132 {ev : EV} {m : Nat} (h : DM ev m) : sbN ev m (rf ev 132 m) := ⟨h.ne 132 123, h.ne 132 124, h.ne 132 125, h.ne 132 129, h.ne 132 131⟩
theorem ll_loopN {ev : EV} {m : Nat} (hD : DM ev m) {E L : Cv} {u : Int} (h : Pair E L u) {K : Nat} {f : Nat → Nat} (hP : PL (dd E).natAbs K f) : ∀ (d n i : Nat) (z : PS) (s w : Int), i + d = K → AH ev m z 131 E → MP ev m z K f → r64 z 130 m = ph s → u = s * w → 0 < s → 0 < w →
    (∀ j, j < i → ¬ (f j : Int) ∣ w) → (∀ j, i ≤ j → j < K → ¬ (f j : Int) ∣ s) →
    ∃ z', q_X8_laysLeast_19 ev m (n + d + 1) (nI i) z = some z' ∧ AH ev m z' 123 E ∧ AH ev m z' 124 L ∧ r64 z' 130 m = ph u ∧ FN ev m z z' := by
  have hK16 := hP.2.2.2.1
  intro d
  induction d with
  | zero =>
    intro n i z s w hi A C hs e s0 w0 hw _
    have : i = K := by omega
    subst this
    have hw1 : w = 1 := by
      rcases (show w = 1 ∨ 2 ≤ w by omega) with h1 | h1
      · exact h1
      · exfalso
        obtain ⟨Q, q1, q2⟩ := pr_ex (n := w.toNat) (by omega)
        have hQw : (Q : Int) ∣ w := by have := nd_int.mpr q2; rwa [show ((w.toNat : Nat) : Int) = w by omega] at this
        have hQD : Q ∣ (dd E).natAbs := by
          apply Int.ofNat_dvd_left.mp
          rw [h.ddE, e]
          refine Int.dvd_mul_of_dvd_left ?_
          exact Int.dvd_trans hQw ⟨s * (s * w) ^ 11, by rw [show (12 : Nat) = 11 + 1 from rfl, Int.pow_succ]; grind⟩
        obtain ⟨j, j1, j2⟩ := hP.2.2.1 Q q1 hQD
        exact hw j j1 (by rw [j2]; exact hQw)
    subst hw1
    rw [Int.mul_one] at e
    subst e
    rw [q_X8_laysLeast_19, C.1, if_pos (show nI i ≤ nI i from Int32.le_refl _), n_wholeA hD A, ob_e]
    have A1 : AM ev m (sA z (rf ev 123 m) E) E := AM_sA ev m z E
    have e130 : r64 (sA z (rf ev 123 m) E) 130 m = ph u := hs
    obtain ⟨u4, u4r, u40⟩ := h.ur (e := 4) (by omega)
    obtain ⟨u6, u6r, u60⟩ := h.ur (e := 6) (by omega)
    have f4 : c4 E = u ^ 4 * c4 L := by rw [← h.eqv.c4, c4_sc]
    have f6 : c6 E = u ^ 6 * c6 L := by rw [← h.eqv.c6, c6_sc]
    have b4 := h.b4
    have b6 := h.b6
    have R4 : inR (c4 E) := ⟨by have := b4.1; omega, by have := b4.2; omega⟩
    have R6 : inR (c6 E) := ⟨by have := b6.1; omega, by have := b6.2; omega⟩
    rw [n_c4 A1, ob_e, e130, show (4 : Int32) = nI 4 from rfl, show (6 : Int32) = nI 6 from rfl, g_power8 u (by omega), ob_e, ck_e u40, n_c6 A1, ob_e, g_power8 u (by omega), ob_e, ck_e u60, f4, f6, dvx u4 u4r (by rw [← f4]; exact R4), dvx u6 u6r (by rw [← f6]; exact R6), n_leads h.lb, ob_e]
    refine ⟨_, rfl, AH.ne (AM_sA ev m z E) (hD.ne 123 124), AH_sA ev m _ 124 L, hs, (FN_sA ev m z E (Or.inl rfl)).tr (FN_sA ev m _ L (Or.inr (Or.inl rfl)))⟩
  | succ d ih =>
    intro n i z s w hi A C hs e s0 w0 hw hns
    have hiK : i < K := by omega
    obtain ⟨p1, p2⟩ := hP.2.1 i hiK
    have p9 := hP.2.2.2.2 i hiK
    obtain ⟨k, w', k1, k2, k3⟩ := val_ex p1 (w.natAbs + 1) w w0 (by omega)
    have hu : u = (s * w') * (f i : Int) ^ k := by rw [e, k1]; generalize (f i : Int) ^ k = A; grind
    have hnd : ¬ (f i : Int) ∣ s * w' := fun hh => (p1.2 _ _ hh).elim (hns i (by omega) hiK) k2
    rw [q_X8_laysLeast_19, C.1, if_neg (by rw [i_le (by omega) (by omega)]; omega), n_wholeA hD A, ob_e, ck_e (inB_n (show i < 20 by omega) (by omega)), show rJ (sA z (rf ev 123 m) E) (rf ev 125 m) (nI i).toNatClampNeg = ph (f i) by rw [nI_clamp (by omega)]; exact (C.sA (hD.ne 125 123)).2 i hiK]
    obtain ⟨z', g1, g2, g3, -, -⟩ := h.lays (hD.ne 123 129) (AM_sA ev m z E) p1 (by omega) (h.rv ev p1 (by omega)) hu hnd
    have C' := g2.mp hD (C.sA (a := 123) (E := E) (hD.ne 125 123))
    have A' : AH ev m z' 131 E := g2.ah (hD.ne 131 123) (hD.ne 131 129) (A.ne (hD.ne 131 123))
    have hs' : r64 z' 130 m = ph s := (g2.2.1 130 m (by omega)).trans hs
    have hk9 : k < 1000 := by
      rcases Nat.lt_or_ge k 1000 with hh | hh
      · exact hh
      · exfalso
        have hu12 := h.u12
        have hd : (f i : Int) ^ k ∣ u := ⟨s * w', by rw [hu]; generalize (f i : Int) ^ k = A; grind⟩
        have h2 := Int.le_of_dvd h.pos hd
        have h64 : (f i : Int) ^ 64 ∣ (f i : Int) ^ k := dv_pow (Int.dvd_refl _) (by omega)
        have h3 := Int.le_of_dvd (Int.pow_pos (by have := p1.1; omega)) h64
        have h4 := pw_ge (n := 64) (pr_2 p1)
        have h5 : ((2 : Nat) : Int) ^ 64 = 18446744073709551616 := by decide
        have h6 := h.ur (e := 1) (by omega)
        rw [Int.pow_one] at h6
        have := h6.2.1.2
        omega
    rw [g1, ob_e, ck_e (inB_n (show i < 20 by omega) (by omega)), nI_clamp (by omega), C'.2 i hiK, g3, g_power8 _ (by omega), ob_e, bd_e, bd_e, bd_e, nI_s, hs', ph_mul]
    obtain ⟨z2, b1, b2, b3, b4, b5⟩ := ih n (i + 1) (w64 z' 130 m (ph (s * (f i : Int) ^ k))) (s * (f i : Int) ^ k) w' (by omega) A' C' (rw_eq z' 130 m _) (by rw [e, k1]; generalize (f i : Int) ^ k = A; grind) (Int.mul_pos s0 (Int.pow_pos (by have := p1.1; omega))) k3 (by
      intro j hj
      rcases (show j = i ∨ j < i by omega) with h1 | h1
      · subst h1; exact k2
      · intro hd
        exact hw j h1 (by rw [k1]; exact Int.dvd_mul_of_dvd_left hd)) (by
      intro j hj1 hj2 hd
      obtain ⟨r1, -⟩ := hP.2.1 j hj2
      rcases r1.2 _ _ hd with h1 | h1
      · exact hns j (by omega) hj2 h1
      · have h2 := nd_int.mp (r1.pow k h1)
        have h3 := Nat.le_of_dvd (by have := pr_2 p1; omega) h2
        have := hP.1 i j (by omega) hj2
        omega)
    refine ⟨z2, b1, b2, b3, b4, ?_⟩
    refine (((FN_sA ev m z E (Or.inl rfl)).tr g2.fn).tr ?_).tr b5
    exact ⟨fun _ _ _ => rfl, fun j x hx => by show (if _ then _ else _) = _; rw [if_neg (fun hh => hx ⟨Or.inr hh.1, hh.2⟩)], fun _ _ _ => rfl, fun _ _ _ => rfl⟩
theorem n_laysN {ev : EV} {m : Nat} (hD : DM ev m) {z : PS} {E L : Cv} {u : Int} (h : PQ E L u) (A : AH ev m z 123 E) : ∃ z', g_X8_laysLeast ev z m = some z' ∧ AH ev m z' 123 E ∧ AH ev m z' 124 L ∧ r64 z' 130 m = ph u ∧ FN ev m z z' := by
  obtain ⟨hp, hQ⟩ := h
  have A1 : AH ev m (sA z (rf ev 131 m) E) 123 E := A.ne (hD.ne 123 131)
  obtain ⟨z3, k, f, a1, a2, a3, a4⟩ := n_laysP (ev := ev) (m := m) (z := sA z (rf ev 131 m) E) hp.d0 hp.db hQ
  have A3 : AH ev m z3 131 E := a4.ah (hD.ne 131 125) (AH_sA ev m z 131 E)
  obtain ⟨n, hn⟩ := FU_ge (d := k) (by have := a3.2.2.2.1; omega)
  obtain ⟨z', b1, b2, b3, b4, b5⟩ := ll_loopN hD hp a3 k n 0 (w64 z3 130 m (1 : Int64)) 1 u (by omega) A3 a2 (rw_eq z3 130 m _) (by omega) (by omega) hp.pos (fun j hj => by omega) (fun j _ hj hd => by have := Int.le_of_dvd (by omega) hd; have := (a3.2.1 j hj).1.1; omega)
  refine ⟨z', ?_, b2, b3, b4, ?_⟩
  · unfold g_X8_laysLeast
    rw [n_keepsW hD A, ob_e, n_dd A1, ob_e, a1, ob_e, bd_e, hn]
    exact b1
  · refine (((FN_sA ev m z E (by omega)).tr a4.fn).tr ?_).tr b5
    exact ⟨fun _ _ _ => rfl, fun j x hx => by show (if _ then _ else _) = _; rw [if_neg (fun hh => hx ⟨Or.inr hh.1, hh.2⟩)], fun _ _ _ => rfl, fun _ _ _ => rfl⟩
theorem n_goesN {ev : EV} {m : Nat} (hD : DM ev m) {z : PS} {E L : Cv} {u : Int} (h : PQ E L u) (A : AH ev m z 123 E) : ∃ z', g_X8_goesLeast ev z m = some z' ∧ AH ev m z' 123 L ∧ r64 z' 130 m = ph u ∧ FN ev m z z' := by
  obtain ⟨z1, a1, a2, a3, a4, a5⟩ := n_laysN hD h A
  refine ⟨sA z1 (rf ev 123 m) L, ?_, AH_sA ev m z1 123 L, a4, a5.tr (FN_sA ev m z1 L (Or.inl rfl))⟩
  unfold g_X8_goesLeast
  rw [a1, ob_e, n_goes6 hD a3]
theorem c_cp1 {l : Int32} (h : PRM 199 l) : g_X7_isCountedPrime l = some 1 := by
  obtain ⟨q1, q2⟩ := (c_pr (M := 199) (by omega) l).1 h
  unfold g_X7_isCountedPrime
  rw [show (199 : Int32) = nI 199 from rfl, if_neg q1, q2, ob_e, if_neg ne10]
theorem c_cp0 {l : Int32} (h : ¬ PRM 199 l) : g_X7_isCountedPrime l = some 0 := by
  unfold g_X7_isCountedPrime
  rw [show (199 : Int32) = nI 199 from rfl]
  rcases (c_pr (M := 199) (by omega) l).2 h with h | ⟨h, h'⟩
  · rw [if_pos h]
  · rw [if_neg h, h', ob_e, if_pos rfl]
theorem m_cp1 {l : Int32} (h : PRM 199 l) : g_X8_isPointed l = some 1 := by
  obtain ⟨q1, q2⟩ := (m_pr (M := 199) (by omega) l).1 h
  unfold g_X8_isPointed
  rw [show (199 : Int64) = ph ((199 : Nat) : Int) from rfl, q1, ob_e, if_neg ne10, q2, ob_e, if_neg ne10]
theorem m_cp0 {l : Int32} (h : ¬ PRM 199 l) : g_X8_isPointed l = some 0 := by
  unfold g_X8_isPointed
  rw [show (199 : Int64) = ph ((199 : Nat) : Int) from rfl]
  rcases (m_pr (M := 199) (by omega) l).2 h with h | ⟨h, h'⟩
  · rw [h, ob_e, if_pos rfl]
  · rw [h, ob_e, if_neg ne10, h', ob_e, if_pos rfl]
theorem op_points {ev : EV} {th m : Nat} (S : Sep ev th m) {z : PS} (I : IV ev th m z) (l1 l2 : Int32) : OP ev th m (g_X7_points ev z th l1 l2) (fun z1 => g_X8_points ev z1 m l1 l2) := by
  obtain ⟨n, C, L, U, I⟩ := I
  have hD := S.2.2.2
  have h16 := I.1.2.1
  have M0 := I.2.fm hD (w120 ev m z 0)
  have w0 := IV.w0 S I (NEU.rf ev th m z) (MU.rf ev m z) 0
  by_cases hc : ∃ c, c < n ∧ l1 = nI c
  · obtain ⟨c, c1, rfl⟩ := hc
    obtain ⟨f1, f2, f3, f4, f5⟩ := I.1.he c1
    by_cases hP : PRM 199 l2
    · have c8 := c_cp1 hP
      have m8 := m_cp1 hP
      obtain ⟨p, p1, p2, p3⟩ := hP
      subst p3
      obtain ⟨z1, a1', a2'⟩ := c_pts (ev := ev) (th := th) f1 f4.2.1 p1 p2
      have M1 := (I.2.mu (a2'.mu S)).fm hD (w120 ev m z1 0)
      refine ⟨nI (1 + ptN (C c) p), z1, sA (w32 z1 120 m 0) (rf ev 123 m) (C c), ?_, ?_, IV.mk (INV.fm S (I.1.neu S a2'.neu) I.2 (a2'.mu S) ((w120 ev m z1 0).tr (FM_sA ev m _ (C c) (Or.inl rfl))))⟩
      · unfold g_X7_points
        rw [c_th1 I.1.1 h16 c1, ob_e, if_neg ne10, c8, ob_e, if_neg ne10, ck_e (inB_n (show c < 16 by omega) (by omega)), nI_clamp (by omega), a1', ob_e, bd_e, bd_e]
      · dsimp only
        unfold g_X8_points
        rw [bd_e, m_th1 M1.1.2.1 h16 c1, ob_e, if_neg ne10, m8, ob_e, if_neg ne10, n_loads hD M1.1 c1, ob_e, nI_L (by omega), m_pts (AM_sA ev m _ (C c)) f4.2.1 (pr_2 p1) p2, ob_e]
    · refine ⟨-1, z, w32 z 120 m 0, ?_, ?_, w0⟩
      · unfold g_X7_points; rw [c_th1 I.1.1 h16 c1, ob_e, if_neg ne10, c_cp0 hP, ob_e, if_pos rfl]
      · dsimp only; unfold g_X8_points; rw [bd_e, m_th1 M0.1.2.1 h16 c1, ob_e, if_neg ne10, m_cp0 hP, ob_e, if_pos rfl]
  · refine ⟨-1, z, w32 z 120 m 0, ?_, ?_, w0⟩
    · unfold g_X7_points; rw [c_th0 I.1.1 h16 hc, ob_e, if_pos rfl]
    · dsimp only; unfold g_X8_points; rw [bd_e, m_th0 M0.1.2.1 h16 hc, ob_e, if_pos rfl]
theorem s5_L {L : Cv} (hr : Red L) (h5 : B5 L) : S5 L := by
  obtain ⟨r1, r2, r3⟩ := hr
  exact ⟨by omega, by omega, by omega, h5.1, h5.2⟩
theorem op_trace {ev : EV} {th m : Nat} (S : Sep ev th m) {z : PS} (I : IV ev th m z) (l1 l2 : Int32) : OP ev th m (g_X7_trace ev z th l1 l2) (fun z1 => g_X8_trace ev z1 m l1 l2) := by
  obtain ⟨n, C, L, U, I⟩ := I
  have hD := S.2.2.2
  have h16 := I.1.2.1
  have M0 := I.2.fm hD (w120 ev m z 0)
  have w0 := IV.w0 S I (NEU.rf ev th m z) (MU.rf ev m z) 0
  by_cases hc : ∃ c, c < n ∧ l1 = nI c
  · obtain ⟨c, c1, rfl⟩ := hc
    obtain ⟨f1, f2, f3, f4, f5⟩ := I.1.he c1
    by_cases hP : PRM 199 l2
    · have c8 := c_cp1 hP
      have m8 := m_cp1 hP
      obtain ⟨p, p1, p2, p3⟩ := hP
      subst p3
      have p0 := pr_2 p1
      have hp := f4.pq
      have hs := s5_L f4.1.2.2.1 f4.2.2.2
      have hq : PQ (L c) (L c) 1 := hi_self hp.1 f4.1.2.2.1 f4.1.2.2.2.2.2.1 hp.2
      obtain ⟨z1, r1, r2, r3, r4⟩ := c_rk hD hp.1 (fl := rf ev 103 th) (S.l3 (show c < 16 by omega)) f2 p1 (by omega)
      obtain ⟨⟨k, k1, k2⟩, k6⟩ := rv_k (hp.1.rv ev p1 (by omega))
      have e0 : r32 z1 20 (rf ev 103 th) = nI k := (r3 0 (by omega)).trans k2
      have e6 := r4 (by omega)
      have f2' : EQ z1 (rf ev 41 (Ho ev th c)) (L c) := r2.eq (S.l3 (by omega)) f2
      have mod : ∀ y, MI ev m y n C → ∃ y', (AM ev m y' (L c) ∧ rI y' (rf ev 127 m) 0 = nI k ∧ rI y' (rf ev 127 m) 6 = rvl p (L c) 6) ∧ FM ev m y y' ∧ g_X8_trace ev y m (nI c) (nI p) = if nI k = 0 then (ob (g_X8_pointsOf ev y' m (ph p)) (fun v14 => some (((nI p + (1 : Int32)) - v14), y'))) else (if nI k ≤ (1 : Int32) then (if rvl p (L c) 6 = (1 : Int32) then (some ((1 : Int32), y')) else (some ((-1 : Int32), y'))) else (some ((0 : Int32), y'))) := by
        intro y M
        have M1 := M.fm hD (w120 ev m y 0)
        obtain ⟨y1, g1, g2, g3, g4⟩ := n_goesL hD hp (AH_sA ev m (w32 y 120 m 0) 123 (C c))
        obtain ⟨y2, q1, q2, q3, q4, q5⟩ := hq.1.lays (hD.ne 123 129) (k := 0) (w := 1) (AH.ne (F := L c) g2 (hD.ne 123 131)) p1 (by omega) (hq.1.rv ev p1 (by omega)) (by rw [Int.pow_zero]; rfl) (fun hd => by have := Int.le_of_dvd (by omega) hd; have := p1.1; omega)
        have a131 : AH ev m y2 131 (L c) := q2.ah (hD.ne 131 123) (hD.ne 131 129) (AH_sA ev m y1 131 (L c))
        refine ⟨sA y2 (rf ev 123 m) (L c), ⟨AM_sA ev m y2 (L c), (q4 0 (by omega)).trans k2, q5 (by omega)⟩, ?_, ?_⟩
        · exact (((((w120 ev m y 0).tr (FM_sA ev m _ (C c) (Or.inl rfl))).tr g4).tr (FM_sA ev m y1 (L c) (by omega))).tr q2.fm).tr (FM_sA ev m y2 (L c) (Or.inl rfl))
        · unfold g_X8_trace
          rw [bd_e, m_th1 M1.1.2.1 h16 c1, ob_e, if_neg ne10, m8, ob_e, if_neg ne10, n_loads hD M1.1 c1, ob_e, g1, ob_e, n_keepsW hD g2, ob_e, nI_L (by omega), q1, ob_e, n_wholeA hD a131, ob_e]
          rw [show rI (sA y2 (rf ev 123 m) (L c)) (rf ev 127 m) 0 = nI k from (q4 0 (by omega)).trans k2, show rI (sA y2 (rf ev 123 m) (L c)) (rf ev 127 m) 6 = rvl p (L c) 6 from q5 (by omega)]
      have e7 : g_X7_trace ev z th (nI c) (nI p) = if nI k = 0 then (ob (g_X7_pointsOn ev z1 th (rf ev 41 (Ho ev th c)) (nI p)) (fun qv11 => bd qv11.1 (fun v11 => bd qv11.2 (fun z10 => some (((nI p + (1 : Int32)) - v11), z10))))) else (if nI k = (1 : Int32) then (if rvl p (L c) 6 = 0 then (some ((-1 : Int32), z1)) else (some ((1 : Int32), z1))) else (some ((0 : Int32), z1))) := by
        unfold g_X7_trace
        rw [c_th1 I.1.1 h16 c1, ob_e, if_neg ne10, c8, ob_e, if_neg ne10, ck_e (inB_n (show c < 16 by omega) (by omega)), nI_clamp (by omega), r1, ob_e, e0, e6]
      by_cases k0 : k = 0
      · subst k0
        obtain ⟨z2, a1', a2'⟩ := c_pts (ev := ev) (th := th) f2' hs p1 p2
        obtain ⟨y', ⟨y1, -, -⟩, y2, y3⟩ := mod z2 (I.2.mu (r2.mu.tr (a2'.mu S)))
        refine ⟨_, z2, y', by rw [e7, if_pos nI_0, a1', ob_e, bd_e, bd_e], ?_, IV.mk (INV.fm S ((I.1.neu S r2.neu).neu S a2'.neu) I.2 (r2.mu.tr (a2'.mu S)) y2)⟩
        dsimp only
        rw [y3, if_pos nI_0, m_pts y1 hs p0 p2, ob_e]
      · obtain ⟨y', -, y2, y3⟩ := mod z1 (I.2.mu r2.mu)
        have iv := IV.mk (INV.fm S (I.1.neu S r2.neu) I.2 r2.mu y2)
        have n0 : ¬ nI k = 0 := nI_ne0 (by omega) (by omega)
        rw [if_neg n0] at e7 y3
        by_cases h1 : k = 1
        · subst h1
          rw [if_pos (show nI 1 = (1 : Int32) from rfl)] at e7
          rw [if_pos (by decide)] at y3
          rcases k6 with e | e
          · rw [e, if_pos rfl] at e7
            rw [e, if_neg (by decide)] at y3
            exact ⟨-1, z1, y', e7, y3, iv⟩
          · rw [e, if_neg ne10] at e7
            rw [e, if_pos rfl] at y3
            exact ⟨1, z1, y', e7, y3, iv⟩
        · rw [if_neg (show ¬ nI k = (1 : Int32) from nI_ne (b := 1) (by omega) (by omega) h1)] at e7
          rw [if_neg (by rw [show (1 : Int32) = nI 1 from rfl, i_le (by omega) (by omega)]; omega)] at y3
          exact ⟨0, z1, y', e7, y3, iv⟩
    · refine ⟨-1000, z, w32 z 120 m 0, ?_, ?_, w0⟩
      · unfold g_X7_trace; rw [c_th1 I.1.1 h16 c1, ob_e, if_neg ne10, c_cp0 hP, ob_e, if_pos rfl]
      · dsimp only; unfold g_X8_trace; rw [bd_e, m_th1 M0.1.2.1 h16 c1, ob_e, if_neg ne10, m_cp0 hP, ob_e, if_pos rfl]
  · refine ⟨-1000, z, w32 z 120 m 0, ?_, ?_, w0⟩
    · unfold g_X7_trace; rw [c_th0 I.1.1 h16 hc, ob_e, if_pos rfl]
    · dsimp only; unfold g_X8_trace; rw [bd_e, m_th0 M0.1.2.1 h16 hc, ob_e, if_pos rfl]
