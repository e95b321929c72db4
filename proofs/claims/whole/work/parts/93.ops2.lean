/-! prime, conductor, own, twisted, best -/
theorem c_prim {ev : EV} {th m : Nat} (S : Sep ev th m) {z : PS} {n : Nat} {C L : Nat → Cv} {U : Nat → Int} (I : CI ev th z n C L U) {c : Nat} (hc : c < n) : ∃ z' k f, g_X2_primesOfDisc ev z (Ho ev th c) = some z' ∧ CI ev th z' n C L U ∧ MU ev m z z' ∧ CP ev (rf ev 43 (Ho ev th c)) z' k f ∧ PL (dd (C c)).natAbs k f ∧ z'.2.1 = z.2.1 := by
  obtain ⟨i1, i2, i3, i4⟩ := id I
  obtain ⟨f1, f2, f3, f4, f5⟩ := i3 c hc
  unfold g_X2_primesOfDisc
  rcases f5 with f5 | ⟨f5, k, f, c1, p1⟩
  · have hp := f4.pq
    obtain ⟨z2, k, f, a1, a2, a3, a4⟩ := c_find (ev := ev) (th := rf ev 43 (Ho ev th c)) (z := z) hp.1.d0 hp.1.db hp.2
    obtain ⟨q1, q2, q3, q4⟩ := a4
    have cp' : CP ev (rf ev 43 (Ho ev th c)) (w32 z2 44 (Ho ev th c) 1) k f := ⟨(r32_ne _ _ _ _ (by decide)).trans a2.1, fun i hi => a2.2 i hi⟩
    refine ⟨w32 z2 44 (Ho ev th c) 1, k, f, ?_, ⟨?_, i2, ?_, ?_⟩, ⟨?_, ?_, ?_⟩, cp', a3, q1⟩
    · rw [if_pos f5, f1.dd, a1, ob_e, bd_e]
    · exact (r32_ne _ _ _ _ (by decide)).trans ((q3 101 th (by omega)).trans i1)
    · intro i hi
      rcases Nat.lt_trichotomy i c with h | h | h
      · have hne := S.2.2.1 i c (by omega) (by omega) (by omega)
        refine (i3 i hi).cg (fun k _ => by show z2.2.1 _ _ = _; rw [q1]) (fun k _ => by show z2.2.1 _ _ = _; rw [q1]) (by show z2.2.1 _ _ = _; rw [q1]) ((r32_nx _ _ _ hne.1).trans (q3 44 _ (by omega))) ((r32_ne _ _ _ _ (by decide)).trans (q3 61 _ (fun hh => hne.2 hh.2))) (fun j => q4 _ j (S.pp (by omega) (by omega) (by omega)))
      · subst h
        refine ⟨f1.cg (fun k _ => by show z2.2.1 _ _ = _; rw [q1]), f2.cg (fun k _ => by show z2.2.1 _ _ = _; rw [q1]), ?_, f4, Or.inr ⟨by rw [r32_eq]; decide, k, f, cp', a3⟩⟩
        show z2.2.1 _ _ = _
        rw [q1]; exact f3
      · have hne := S.2.2.1 i c (by omega) (by omega) (by omega)
        refine (i3 i hi).cg (fun k _ => by show z2.2.1 _ _ = _; rw [q1]) (fun k _ => by show z2.2.1 _ _ = _; rw [q1]) (by show z2.2.1 _ _ = _; rw [q1]) ((r32_nx _ _ _ hne.1).trans (q3 44 _ (by omega))) ((r32_ne _ _ _ _ (by decide)).trans (q3 61 _ (fun hh => hne.2 hh.2))) (fun j => q4 _ j (S.pp (by omega) (by omega) (by omega)))
    · obtain ⟨n1, n2, -⟩ := S.pa (i := c) (by omega)
      have e : r32 (w32 z2 44 (Ho ev th c) 1) 105 th = r32 z 105 th := (r32_ne _ _ _ _ (by decide)).trans (q3 105 th (by omega))
      rcases i4 with i4 | ⟨d, d1, d2, d3⟩
      · exact Or.inl (e.trans i4)
      · refine Or.inr ⟨d, d1, e.trans d2, (r32_ne _ _ _ _ (by decide)).trans ((q3 82 _ (by omega)).trans d3.1), fun i x y hi => ⟨(q4 _ i (fun e => n1 e.symm)).trans (d3.2 i x y hi).1, (q4 _ i (fun e => n2 e.symm)).trans (d3.2 i x y hi).2⟩⟩
    · intro i x hi
      exact (r32_ne _ _ _ _ (by omega)).trans (q3 i x (by omega))
    · intro j
      obtain ⟨-, -, -, -, n5⟩ := S.pa (i := c) (by omega)
      exact q4 _ j (fun e => n5 e.symm)
    · exact q2
  · exact ⟨z, k, f, by rw [if_neg f5], I, MU.rf ev m z, c1, p1, rfl⟩
theorem IV.mk {ev : EV} {th m : Nat} {z : PS} {n : Nat} {C L : Nat → Cv} {U : Nat → Int} (h : INV ev th m z n C L U) : IV ev th m z := ⟨n, C, L, U, h⟩
theorem op_prime {ev : EV} {th m : Nat} (S : Sep ev th m) {z : PS} (I : IV ev th m z) (l1 l2 : Int32) : OP ev th m (g_X7_prime ev z th l1 l2) (fun z1 => g_X8_prime ev z1 m l1 l2) := by
  obtain ⟨n, C, L, U, I⟩ := I
  have hD := S.2.2.2
  have h16 := I.1.2.1
  have M0 := I.2.fm hD (w120 ev m z 0)
  have w0 := IV.w0 S I (NEU.rf ev th m z) (MU.rf ev m z) 0
  by_cases hc : ∃ c, c < n ∧ l1 = nI c
  · obtain ⟨c, c1, rfl⟩ := hc
    obtain ⟨f1, f2, f3, f4, f5⟩ := I.1.he c1
    obtain ⟨z1, k, f, a1, a2, a3, a4, a5, a6⟩ := c_prim (m := m) S I.1 c1
    have hK := a5.2.2.2.1
    have hp := f4.pq
    have M1 := (I.2.mu a3).fm hD (w120 ev m z1 0)
    obtain ⟨z3, k', f', b1, b2, b3, b4⟩ := n_laysP (ev := ev) (m := m) (z := sA (w32 z1 120 m 0) (rf ev 123 m) (C c)) hp.1.d0 hp.1.db hp.2
    obtain ⟨o1, o2⟩ := a5.one b3
    have F3 := ((w120 ev m z1 0).tr (FM_sA ev m _ (C c) (Or.inl rfl))).tr b4.fm
    have e7 : g_X7_prime ev z th (nI c) l2 = if l2 = (-1 : Int32) then some (nI k, z1) else ob (g_X5_get ev z1 (rf ev 43 (Ho ev th c)) l2) (fun v6 => some (v6, z1)) := by
      unfold g_X7_prime
      rw [c_th1 I.1.1 h16 c1, ob_e, if_neg ne10, ck_e (inB_n (show c < 16 by omega) (by omega)), nI_clamp (by omega), a1, ob_e, a4.1]
    have e8 : g_X8_prime ev z1 m (nI c) l2 = if (-1 : Int32) ≤ l2 then (if l2 = (-1 : Int32) then some (nI k, z3) else if nI k ≤ l2 then some ((-1 : Int32), z3) else ck (inB l2 20) (some ((rJ z3 (rf ev 125 m) l2.toNatClampNeg).toInt32, z3))) else some ((-1 : Int32), w32 z1 120 m 0) := by
      unfold g_X8_prime
      rw [bd_e, m_th1 M1.1.2.1 h16 c1, ob_e, if_neg ne10, n_loads hD M1.1 c1, ob_e, n_dd (AM_sA ev m _ (C c)), ob_e, b1, ob_e, b2.1, ← o1]
    by_cases h1 : l2 = (-1 : Int32)
    · exact ⟨nI k, z1, z3, by rw [e7, if_pos h1], by dsimp only; rw [e8, if_pos (by rw [h1]; decide), if_pos h1], IV.mk (INV.fm S a2 I.2 a3 F3)⟩
    · by_cases h0 : l2 < 0
      · refine ⟨-1, z1, w32 z1 120 m 0, ?_, ?_, IV.mk (INV.fm S a2 I.2 a3 (w120 ev m z1 0))⟩
        · rw [e7, if_neg h1]; unfold g_X5_get; rw [if_pos h0, ob_e]
        · dsimp only
          rw [e8, if_neg]
          intro hh
          apply h1
          rw [Int32.lt_iff_toInt_lt] at h0
          rw [Int32.le_iff_toInt_le] at hh
          apply Int32.toInt_inj.mp
          have x1 : (0 : Int32).toInt = 0 := by decide
          have x2 : (-1 : Int32).toInt = -1 := by decide
          omega
      · obtain ⟨j, j1, rfl⟩ := nI_of h0
        have hle : (-1 : Int32) ≤ nI j := by
          rw [Int32.le_iff_toInt_le, nI_toInt j1, show (-1 : Int32).toInt = -1 by decide]; omega
        by_cases hj : j < k
        · have p9 := a5.2.2.2.2 j hj
          refine ⟨nI (f j), z1, z3, by rw [e7, if_neg h1, c_get a4 hK hj, ob_e], ?_, IV.mk (INV.fm S a2 I.2 a3 F3)⟩
          dsimp only
          rw [e8, if_pos hle, if_neg h1, if_neg (by rw [i_le (by omega) (by omega)]; omega), ck_e (inB_n (show j < 20 by omega) (by omega)), nI_clamp (by omega), b2.2 j (by omega), ← o2 j hj, ph_i32 (by omega)]
        · refine ⟨-1, z1, z3, ?_, ?_, IV.mk (INV.fm S a2 I.2 a3 F3)⟩
          · rw [e7, if_neg h1]; unfold g_X5_get; rw [if_neg h0, a4.1, if_pos (by rw [i_le (by omega) (by omega)]; omega), ob_e]
          · dsimp only
            rw [e8, if_pos hle, if_neg h1, if_pos (by rw [i_le (by omega) (by omega)]; omega)]
  · refine ⟨-1, z, w32 z 120 m 0, ?_, ?_, w0⟩
    · unfold g_X7_prime; rw [c_th0 I.1.1 h16 hc, ob_e, if_pos rfl]
    · dsimp only; unfold g_X8_prime; rw [bd_e, m_th0 M0.1.2.1 h16 hc, ob_e, if_pos rfl]
theorem op_conductor {ev : EV} {th m : Nat} (S : Sep ev th m) {z : PS} (I : IV ev th m z) (l1 : Int32) : OP ev th m (g_X7_conductor ev z th l1) (fun z1 => g_X8_conductor ev z1 m l1) := by
  obtain ⟨n, C, L, U, I⟩ := I
  have hD := S.2.2.2
  have h16 := I.1.2.1
  have M0 := I.2.fm hD (w120 ev m z 0)
  have w0 := IV.w0 S I (NEU.rf ev th m z) (MU.rf ev m z) 0
  by_cases hc : ∃ c, c < n ∧ l1 = nI c
  · obtain ⟨c, c1, rfl⟩ := hc
    obtain ⟨f1, f2, f3, f4, f5⟩ := I.1.he c1
    obtain ⟨z1, k, f, a1, a2, a3, a4, a5, a6⟩ := c_prim (m := m) S I.1 c1
    have hp := f4.pq
    obtain ⟨-, g2, -, -, -⟩ := a2.he c1
    obtain ⟨z2, d1, d2⟩ := c_cond hD hp.1 (th := th) a5 (S.l3 (show c < 16 by omega)) g2 a4 (fun _ _ _ h => h)
    have u2 : MU ev m z z2 := a3.tr d2.mu
    have M1 := (I.2.mu u2).fm hD (w120 ev m z2 0)
    obtain ⟨z3, k', f', b1, b2, b3, b4⟩ := n_tog hD hp (AH_sA ev m (w32 z2 120 m 0) 123 (C c)) false
    rw [prd_all b2] at b1
    refine ⟨prN (fac false (L c)) (dd (C c)).natAbs 1000000000, z2, z3, ?_, ?_, IV.mk (INV.fm S (a2.neu S d2.neu) I.2 u2 (((w120 ev m z2 0).tr (FM_sA ev m _ (C c) (Or.inl rfl))).tr b4))⟩
    · unfold g_X7_conductor
      rw [c_th1 I.1.1 h16 c1, ob_e, if_neg ne10, ck_e (inB_n (show c < 16 by omega) (by omega)), ck_e (inB_n (show c < 16 by omega) (by omega)), nI_clamp (by omega), a1, ob_e, d1, ob_e, bd_e, bd_e]
    · dsimp only
      unfold g_X8_conductor
      rw [bd_e, m_th1 M1.1.2.1 h16 c1, ob_e, if_neg ne10, n_loads hD M1.1 c1, ob_e]
      rw [show g_X8_together ev (sA (w32 z2 120 m 0) (rf ev 123 m) (C c)) m 0 = _ from b1, ob_e, bd_e, bd_e]
  · refine ⟨0, z, w32 z 120 m 0, ?_, ?_, w0⟩
    · unfold g_X7_conductor; rw [c_th0 I.1.1 h16 hc, ob_e, if_pos rfl]
    · dsimp only; unfold g_X8_conductor; rw [bd_e, m_th0 M0.1.2.1 h16 hc, ob_e, if_pos rfl]
theorem ow_loop {ev : EV} {m : Nat} (hD : DM ev m) {E L : Cv} {u : Int} (h : Pair E L u) {th c D K : Nat} (hc : c < 16) {f : Nat → Nat} (hP : PL D K f) (hne : rf ev 41 (Ho ev th c) ≠ rf ev 27 (rf ev 103 th)) : ∀ (d n i : Nat) (z : PS), i + d = K → EQ z (rf ev 41 (Ho ev th c)) L → CP ev (rf ev 43 (Ho ev th c)) z K f → ∃ z', q_X7_own_27 ev th (n + d + 1) (nI c) (prd (fac true L) f i) (nI i) z = some (prd (fac true L) f K, z') ∧ FrC ev (rf ev 103 th) z z' := by
  have hK := hP.2.2.2.1
  intro d
  induction d with
  | zero =>
    intro n i z hi hE cp
    have : i = K := by omega
    subst this
    exact ⟨z, by rw [q_X7_own_27, ck_e (inB_n (show c < 16 by omega) (by omega)), nI_clamp (by omega), cp.1, if_pos (Int32.le_refl _)], FrC.rf ev _ z⟩
  | succ d ih =>
    intro n i z hi hE cp
    have hiK : i < K := by omega
    obtain ⟨p1, p2⟩ := hP.2.1 i hiK
    have p9 := hP.2.2.2.2 i hiK
    obtain ⟨z1, r1, r2, r3, -⟩ := c_rk hD h (fl := rf ev 103 th) hne hE p1 (by omega)
    obtain ⟨z', a, b⟩ := ih n (i + 1) z1 (by omega) (r2.eq hne hE) (r2.cp cp)
    refine ⟨z', ?_, r2.tr b⟩
    rw [q_X7_own_27, ck_e (inB_n (show c < 16 by omega) (by omega)), nI_clamp (by omega), cp.1, if_neg (by rw [i_le (by omega) (by omega)]; omega), c_get cp hK hiK, ob_e, r1, ob_e, r3 4 (by omega), bd_e, bd_e, nI_s]
    exact a
theorem op_own {ev : EV} {th m : Nat} (S : Sep ev th m) {z : PS} (I : IV ev th m z) (l1 : Int32) : OP ev th m (g_X7_own ev z th l1) (fun z1 => g_X8_own ev z1 m l1) := by
  obtain ⟨n, C, L, U, I⟩ := I
  have hD := S.2.2.2
  have h16 := I.1.2.1
  have M0 := I.2.fm hD (w120 ev m z 0)
  have w0 := IV.w0 S I (NEU.rf ev th m z) (MU.rf ev m z) 0
  by_cases hc : ∃ c, c < n ∧ l1 = nI c
  · obtain ⟨c, c1, rfl⟩ := hc
    obtain ⟨f1, f2, f3, f4, f5⟩ := I.1.he c1
    obtain ⟨z1, k, f, a1, a2, a3, a4, a5, a6⟩ := c_prim (m := m) S I.1 c1
    have hK := a5.2.2.2.1
    have hp := f4.pq
    obtain ⟨-, g2, -, -, -⟩ := a2.he c1
    obtain ⟨fn, hfn⟩ := FU_ge (d := k) (by omega)
    obtain ⟨z2, d1, d2⟩ := ow_loop hD hp.1 (th := th) (show c < 16 by omega) a5 (S.l3 (by omega)) k fn 0 z1 (by omega) g2 a4
    have u2 : MU ev m z z2 := a3.tr d2.mu
    have M1 := (I.2.mu u2).fm hD (w120 ev m z2 0)
    obtain ⟨z3, k', f', b1, b2, b3, b4⟩ := n_tog hD hp (AH_sA ev m (w32 z2 120 m 0) 123 (C c)) true
    rw [prd_all b2] at b1
    rw [prd_all a5] at d1
    refine ⟨prN (fac true (L c)) (dd (C c)).natAbs 1000000000, z2, z3, ?_, ?_, IV.mk (INV.fm S (a2.neu S d2.neu) I.2 u2 (((w120 ev m z2 0).tr (FM_sA ev m _ (C c) (Or.inl rfl))).tr b4))⟩
    · unfold g_X7_own
      rw [c_th1 I.1.1 h16 c1, ob_e, if_neg ne10, ck_e (inB_n (show c < 16 by omega) (by omega)), nI_clamp (by omega), a1, ob_e, hfn]
      exact d1
    · dsimp only
      unfold g_X8_own
      rw [bd_e, m_th1 M1.1.2.1 h16 c1, ob_e, if_neg ne10, n_loads hD M1.1 c1, ob_e]
      rw [show g_X8_together ev (sA (w32 z2 120 m 0) (rf ev 123 m) (C c)) m 1 = _ from b1, ob_e, bd_e, bd_e]
  · refine ⟨-1, z, w32 z 120 m 0, ?_, ?_, w0⟩
    · unfold g_X7_own; rw [c_th0 I.1.1 h16 hc, ob_e, if_pos rfl]
    · dsimp only; unfold g_X8_own; rw [bd_e, m_th0 M0.1.2.1 h16 hc, ob_e, if_pos rfl]
/-- the conductor of a least one -/
noncomputable def cnd (L : Cv) : Int64 := prN (fac false L) (dd L).natAbs 1000000000
theorem tw_both {ev : EV} {th m : Nat} (S : Sep ev th m) {z : PS} {n : Nat} {C L : Nat → Cv} {U : Nat → Int} (I : CI ev th z n C L U) {c : Nat} (hc : c < n) (h2 : D2 (L c)) {l2 : Int32} (hl : l2 = 1 ∨ isD l2.toInt) : ∃ L', (∀ z', CI ev th z' n C L U → ∃ z'', g_X7_twistedConductor ev z' th (nI c) l2 = some (cnd L', z'') ∧ CI ev th z'' n C L U ∧ MU ev m z' z'') ∧ (∀ z', MI ev m z' n C → ∃ z'' z3, g_X8_twists ev z' m (nI c) l2 = some (1, z'') ∧ g_X8_together ev z'' m 0 = some (cnd L', z3) ∧ FM ev m z' z3) := by
  have hD := S.2.2.2
  have h16 := I.2.1
  obtain ⟨f1, f2, f3, f4, f5⟩ := I.he hc
  have hp := f4.pq
  have tail : ∀ L', PQ L' L' 1 → (∀ q : Nat, Pr q → 7 < q → q ∣ (dd L').natAbs → q ∣ (dd (C c)).natAbs) → ∀ z', CI ev th z' n C L U → ∃ z2 z'', g_X2_primesOfDisc ev (sE z' (rf ev 102 th) L') (Ho ev th c) = some z2 ∧ g_X7_conductorOf ev z2 th (rf ev 102 th) (rf ev 43 (Ho ev th c)) = some (cnd L', z'') ∧ CI ev th z'' n C L U ∧ MU ev m z' z'' := by
    intro L' hq hdv z' I'
    obtain ⟨z1, k, f, a1, a2, a3, a4, a5, a6⟩ := c_prim (m := m) S (I'.neu S (sE_neu ev th m z' L')) hc
    have hE : EQ z1 (rf ev 102 th) L' := (EQ_sE z' (rf ev 102 th) L').cg (fun k _ => by rw [a6])
    obtain ⟨z2, d1, d2⟩ := c_cond hD hq.1 (th := th) a5 S.d3 hE a4 hdv
    exact ⟨z1, z2, a1, d1, a2.neu S d2.neu, ((sE_mu ev m z' _ _).tr a3).tr d2.mu⟩
  have mtail : ∀ L', PQ L' L' 1 → ∀ z' z'', g_X8_twists ev z' m (nI c) l2 = some (1, z'') → FM ev m z' z'' → AH ev m z'' 123 L' → ∃ z'' z3, g_X8_twists ev z' m (nI c) l2 = some (1, z'') ∧ g_X8_together ev z'' m 0 = some (cnd L', z3) ∧ FM ev m z' z3 := by
    intro L' hq z' z'' g1 g2 g3
    obtain ⟨z3, k', f', b1, b2, b3, b4⟩ := n_tog hD hq g3 false
    rw [prd_all b2] at b1
    exact ⟨z'', z3, g1, b1, g2.tr b4⟩
  by_cases h1 : l2 = 1
  · have hq : PQ (L c) (L c) 1 := hi_self hp.1 f4.1.2.2.1 f4.1.2.2.2.2.2.1 hp.2
    refine ⟨L c, fun z' I' => ?_, fun z' M' => ?_⟩
    · obtain ⟨z2, z'', t1', t2', t3', t4'⟩ := tail (L c) hq (fun q _ _ hd => by
        apply Int.ofNat_dvd_left.mp
        rw [hp.1.ddE]; exact Int.dvd_mul_of_dvd_right (Int.ofNat_dvd_left.mpr hd)) z' I'
      obtain ⟨-, g2, -, -, -⟩ := I'.he hc
      refine ⟨z'', ?_, t3', t4'⟩
      unfold g_X7_twistedConductor
      rw [if_pos h1, ck_e (inB_n (show c < 16 by omega) (by omega)), c_take (show EQ z' (rf ev 41 (rh ev (rf ev 100 th) (nI c).toNatClampNeg)) (L c) by rw [nI_clamp (by omega)]; exact g2), ob_e, ck_e (inB_n (show c < 16 by omega) (by omega)), nI_clamp (by omega), t1', ob_e, t2', ob_e, bd_e, bd_e]
    · obtain ⟨z'', g1, g2, g3⟩ := (m_tws hD M' hc f4 l2).2.1 h2 h1
      exact mtail (L c) hq z' z'' g1 g2 g3
  · have hd := hl.resolve_left h1
    obtain ⟨L', u', p1, p2, p3⟩ := c_dtw I hc h2 hd
    have pq : PQ (tq (L c) l2.toInt) L' u' := ⟨p2.pair, p1.2.2.2.2.2.2⟩
    have hq : PQ L' L' 1 := hi_self pq.1 p1.2.2.1 p1.2.2.2.2.2.1 pq.2
    obtain ⟨v1, v2, v3, v4, v5, v6, v7⟩ := hd.v
    refine ⟨L', fun z' I' => ?_, fun z' M' => ?_⟩
    · obtain ⟨z2, z'', t1', t2', t3', t4'⟩ := tail L' hq (fun q hq7 h7 hdv => by
        have e1 : (q : Int) ∣ dd (tq (L c) l2.toInt) := by rw [pq.1.ddE]; exact Int.dvd_mul_of_dvd_right (Int.ofNat_dvd_left.mpr hdv)
        rw [(tq_c (L c) l2.toInt).2.2] at e1
        have e2 : (q : Int) ∣ dd (L c) := by
          rcases hq7.2 _ _ e1 with hh | hh
          · rcases hq7.2 _ _ hh with hh | hh
            · have h2' : (q : Int) ∣ 2 := hq7.pow 12 (by exact hh)
              have := Int.le_of_dvd (by omega) h2'; omega
            · exfalso
              have h11 := v6 q hq7 (hq7.pow 6 hh)
              rcases (show q = 8 ∨ q = 9 ∨ q = 10 by omega) with rfl | rfl | rfl
              · exact npr_2 (n := 8) (by omega) (by omega) hq7
              · exact npr_3 (n := 9) (by omega) (by omega) hq7
              · exact npr_2 (n := 10) (by omega) (by omega) hq7
          · exact hh
        apply Int.ofNat_dvd_left.mp
        rw [hp.1.ddE]; exact Int.dvd_mul_of_dvd_right e2) z' I'
      refine ⟨z'', ?_, t3', t4'⟩
      unfold g_X7_twistedConductor
      rw [if_neg h1, p3 z' C L U n I' hc rfl, ob_e, ck_e (inB_n (show c < 16 by omega) (by omega)), nI_clamp (by omega), t1', ob_e, t2', ob_e, bd_e, bd_e]
    · obtain ⟨z'', g1, g2, g3⟩ := (m_tws hD M' hc f4 l2).2.2 h2 hd L' u' pq
      exact mtail L' hq z' z'' g1 g2 g3
theorem op_twisted {ev : EV} {th m : Nat} (S : Sep ev th m) {z : PS} (I : IV ev th m z) (l1 l2 : Int32) : OP ev th m (g_X7_twisted ev z th l1 l2) (fun z1 => g_X8_twisted ev z1 m l1 l2) := by
  obtain ⟨n, C, L, U, I⟩ := I
  have hD := S.2.2.2
  have h16 := I.1.2.1
  have M0 := I.2.fm hD (w120 ev m z 0)
  have w0 := IV.w0 S I (NEU.rf ev th m z) (MU.rf ev m z) 0
  by_cases hc : ∃ c, c < n ∧ l1 = nI c
  · obtain ⟨c, c1, rfl⟩ := hc
    obtain ⟨f1, f2, f3, f4, f5⟩ := I.1.he c1
    by_cases h2 : D2 (L c)
    · by_cases hl : l2 = 1 ∨ isD l2.toInt
      · obtain ⟨L', p1, p2⟩ := tw_both S I.1 c1 h2 hl
        obtain ⟨z1, a1, a2, a3⟩ := p1 z I.1
        have M1 := (I.2.mu a3).fm hD (w120 ev m z1 0)
        obtain ⟨z2, z3, b1, b2, b3⟩ := p2 _ M1
        refine ⟨cnd L', z1, z3, ?_, ?_, IV.mk (INV.fm S a2 I.2 a3 ((w120 ev m z1 0).tr b3))⟩
        · unfold g_X7_twisted
          rw [c_th1 I.1.1 h16 c1, ob_e, if_neg ne10, (c_hasT (m := m) I.1 c1).1 h2, ob_e, if_neg ne10]
          by_cases h1 : l2 = 1
          · rw [if_pos h1, a1, ob_e, bd_e, bd_e]
          · rw [if_neg h1, (c_isT l2).1 (hl.resolve_left h1), ob_e, if_neg ne10, a1, ob_e, bd_e, bd_e]
        · dsimp only
          unfold g_X8_twisted
          rw [bd_e, m_th1 M1.1.2.1 h16 c1, ob_e, if_neg ne10]
          by_cases h1 : l2 = 1
          · rw [if_pos h1, b1, ob_e, bd_e, bd_e, if_neg ne10, b2, ob_e, bd_e, bd_e]
          · rw [if_neg h1, (m_isT l2).1 (hl.resolve_left h1), ob_e, if_neg ne10, b1, ob_e, bd_e, bd_e, if_neg ne10, b2, ob_e, bd_e, bd_e]
      · have h1 : ¬ l2 = 1 := fun e => hl (Or.inl e)
        have hd : ¬ isD l2.toInt := fun e => hl (Or.inr e)
        refine ⟨0, z, w32 z 120 m 0, ?_, ?_, w0⟩
        · unfold g_X7_twisted
          rw [c_th1 I.1.1 h16 c1, ob_e, if_neg ne10, (c_hasT (m := m) I.1 c1).1 h2, ob_e, if_neg ne10, if_neg h1, (c_isT l2).2 hd, ob_e, if_pos rfl]
        · dsimp only
          unfold g_X8_twisted
          rw [bd_e, m_th1 M0.1.2.1 h16 c1, ob_e, if_neg ne10, if_neg h1, (m_isT l2).2 hd, ob_e, if_pos rfl]
    · have e7 : g_X7_twisted ev z th (nI c) l2 = some (0, z) := by
        unfold g_X7_twisted
        rw [c_th1 I.1.1 h16 c1, ob_e, if_neg ne10, (c_hasT (m := m) I.1 c1).2 h2, ob_e, if_pos rfl]
      obtain ⟨z3, g1, g2⟩ := (m_tws hD M0 c1 f4 l2).1 h2
      have iv := IV.mk (INV.fm S I.1 I.2 (MU.rf ev m z) ((w120 ev m z 0).tr g2))
      by_cases h1 : l2 = 1
      · refine ⟨0, z, z3, e7, ?_, iv⟩
        dsimp only
        unfold g_X8_twisted
        rw [bd_e, m_th1 M0.1.2.1 h16 c1, ob_e, if_neg ne10, if_pos h1, g1, ob_e, bd_e, bd_e, if_pos rfl]
      · by_cases hd : isD l2.toInt
        · refine ⟨0, z, z3, e7, ?_, iv⟩
          dsimp only
          unfold g_X8_twisted
          rw [bd_e, m_th1 M0.1.2.1 h16 c1, ob_e, if_neg ne10, if_neg h1, (m_isT l2).1 hd, ob_e, if_neg ne10, g1, ob_e, bd_e, bd_e, if_pos rfl]
        · refine ⟨0, z, w32 z 120 m 0, e7, ?_, w0⟩
          dsimp only
          unfold g_X8_twisted
          rw [bd_e, m_th1 M0.1.2.1 h16 c1, ob_e, if_neg ne10, if_neg h1, (m_isT l2).2 hd, ob_e, if_pos rfl]
  · refine ⟨0, z, w32 z 120 m 0, ?_, ?_, w0⟩
    · unfold g_X7_twisted; rw [c_th0 I.1.1 h16 hc, ob_e, if_pos rfl]
    · dsimp only; unfold g_X8_twisted; rw [bd_e, m_th0 M0.1.2.1 h16 hc, ob_e, if_pos rfl]
