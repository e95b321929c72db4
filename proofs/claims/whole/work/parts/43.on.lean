/-! fallsOn as a whole -/
theorem NK1_c4 {E : Cv} (h : NK 3 1 E) : ¬ (3 : Int) ^ 3 ∣ c4 E := by
  obtain ⟨h2, h⟩ := h
  rw [if_pos (by decide)] at h
  obtain ⟨⟨x1, e1⟩, ⟨x2, e2⟩, ⟨x3, e3⟩, ⟨x4, e4⟩, -⟩ := h
  intro hc
  apply h2
  unfold c4 b2 b4 at hc
  rw [e1, e2, e3, e4] at hc
  rw [e2]
  obtain ⟨k, hk⟩ := hc
  have e3 : (3 : Int) ^ ((1 + 3) / 2) = 9 := by decide
  have e4 : (3 : Int) ^ ((1 + 3) / 2 + 1) = 27 := by decide
  rw [e3, e4] at hk
  have hx : (3 : Int) ∣ x2 := by
    have : (3 : Int) ∣ x2 * x2 := ⟨k - 3 * x1 * x1 * x1 * x1 - 8 * x1 * x1 * x2 - 5 * x2 * x2 + 24 * (x1 * x3 + 2 * x4), by
      clear e1 e2 e3 e4
      grind⟩
    obtain ⟨q, i, e, hi⟩ := md3 x2
    obtain ⟨w, hw⟩ := this
    rcases hi with rfl | rfl | rfl
    · exact ⟨q, by omega⟩
    · subst e; exfalso
      have : 3 * (3 * q * q + 2 * q - w) = -1 := by grind
      omega
    · subst e; exfalso
      have : 3 * (3 * q * q + 4 * q + 1 - w) = -1 := by grind
      omega
  obtain ⟨q, hq⟩ := hx
  exact ⟨q, by rw [hq]; grind⟩
theorem n_fallsOn {ev : EV} {m : Nat} {z : PS} {E : Cv} (hd : rf ev 123 m ≠ rf ev 129 m) (A : AM ev m z E) {p : Int} (hp : p = 2 ∨ p = 3) (hF : Fit p E) (hN : N1 p E) (h2 : p ∣ b2 E) (h6 : p ^ 2 ∣ a6 E) (h8 : p ^ 3 ∣ b8 E) (h3 : p ^ 3 ∣ b6 E) {N : Nat} (hND : ¬ p ^ (N + 1) ∣ dd E) (hN2 : (p = 2 ∧ N ≤ 62) ∨ (p = 3 ∧ (¬ (3 : Int) ^ 3 ∣ c4 E → N ≤ 26))) :
    ∃ E2 k i c, Eqv E E2 ∧ FL p E2 ∧ Late p E2 k i c ∧ FoR ev m z p E N (g_X8_fallsOn ev z m (ph p) (nI N)) k i c := by
  obtain ⟨r, s, t, z1, hr, hs, ht, fl, A1, F1, e1⟩ := n_flatten hd A hp hF hN h2 h6 h8 h3
  obtain ⟨b, c, d, hc⟩ := fl.cb
  have f1 := hF.co (r := r) (s := s) (t := t) (by omega) (by omega) (by omega)
  have bb := cb_BB hF hp (by omega) (by omega) (by omega) hc
  have u1 := n_unlike A1 hp f1 hc
  refine ⟨sh E r s t, ?_⟩
  have q2 : ¬ ph p * ph p = 0 := by rw [ph_pow2]; exact pw_n0 (pok1 hp (by omega))
  generalize ho : g_X8_fallsOn ev z m (ph p) (nI N) = o
  unfold g_X8_fallsOn at ho
  rw [e1, ob_e, u1, ob_e] at ho
  by_cases hD : p ∣ cubD b c d
  · rw [if_pos hD] at ho
    by_cases hT : p ∣ b * b - 3 * c
    · rw [if_pos hT, if_neg (by decide), if_pos rfl] at ho
      obtain ⟨T, t0, tp, ⟨hT1, -⟩, e2⟩ := n_moves A1 hp f1 hc bb hD true
      rw [if_pos rfl] at e2
      unfold q_X8_fallsOn_51 at ho
      rw [e2, ob_e, if_neg (by decide), ck_e q2] at ho
      have n3 := mv_nt hp fl hc hD hT hT1
      have hE3 : sh (sh E r s t) (p * T) 0 0 = sh E (r + p * T) s (t + s * (p * T)) := by
        rw [sh_sh]; congr 1 <;> omega
      have hpT : 0 ≤ p * T ∧ p * T ≤ 6 := by
        rcases hp with rfl | rfl <;> omega
      have hsT : 0 ≤ s * (p * T) ∧ s * (p * T) ≤ 12 := by
        rcases (show s = 0 ∨ s = 1 ∨ s = 2 by omega) with rfl | rfl | rfl <;> omega
      have A3 : AM ev m (sA z1 (rf ev 123 m) (sh (sh E r s t) (p * T) 0 0)) (sh E (r + p * T) s (t + s * (p * T))) := by
        rw [← hE3]; exact AM_sA ev m z1 _
      have F3 : Fs ev m z (sA z1 (rf ev 123 m) (sh (sh E r s t) (p * T) 0 0)) := F1.tr (Fs_sA ev m z1 _)
      rw [hE3] at n3
      obtain ⟨y, hy⟩ := n3.2.2.1
      obtain ⟨w, hw⟩ := n3.2.2.2.2
      have L := n_late3 (X := 0) hp hF (r := r + p * T) (s := s) (t := t + s * (p * T)) (by omega) (by omega) (by omega) A3 n3 N hy (w := -w) (by rw [hw, Int.neg_neg]) ho.symm
      have lift : ∀ k i c, FoR ev m (sA z1 (rf ev 123 m) (sh (sh E r s t) (p * T) 0 0)) p E N o k i c → FoR ev m z p E N o k i c := by
        intro k i c h
        rcases h with ⟨k1, k2, z', e, g1, g2, g3⟩ | ⟨k1, r, s, t, z', F, b1, b2, b3, e, g1, g2⟩
        · refine Or.inl ⟨k1, k2, z', e, F3.1.tr g1, g2, ?_⟩
          rw [g3]; simp only [rI]; rw [F3.2]
        · exact Or.inr ⟨k1, r, s, t, z', F, b1, b2, b3, e, F3.tr g1, g2⟩
      rcases L with ⟨L1, cc, L2, L3⟩ | ⟨L1, E4, L2, L3, kk, cc, L4, L5⟩
      · refine ⟨7, 0, cc, Eqv.sh E r s t, fl, ⟨b, c, d, hc.1, hc.2.1, hc.2.2, Or.inr (Or.inr ⟨hD, hT, rfl, _, ?_, n3, y, -w, hy, by rw [hw, Int.neg_neg], Or.inl ⟨L1, rfl, L2⟩⟩)⟩, lift _ _ _ L3⟩
        rw [← hE3]; exact Eqv.sh _ _ _ _
      · refine ⟨kk, 0, cc, Eqv.sh E r s t, fl, ⟨b, c, d, hc.1, hc.2.1, hc.2.2, Or.inr (Or.inr ⟨hD, hT, rfl, _, ?_, n3, y, -w, hy, by rw [hw, Int.neg_neg], Or.inr ⟨L1, E4, L2, L3, L4⟩⟩)⟩, lift _ _ _ L5⟩
        rw [← hE3]; exact Eqv.sh _ _ _ _
    · rw [if_neg hT, if_neg (by decide), if_neg (by decide)] at ho
      obtain ⟨T, t0, tp, ⟨hT1, hT2⟩, e2⟩ := n_moves A1 hp f1 hc bb hD false
      rw [if_neg (by decide)] at e2
      have hT2 : p ∣ 3 * T * T + 2 * b * T + c := by rcases hT2 with h | h; exact absurd h (by decide); exact h
      unfold q_X8_fallsOn_51 at ho
      rw [e2, ob_e, if_pos rfl] at ho
      have n3 := mv_nk hp fl hc hT hT1 hT2
      have hE3 : sh (sh E r s t) (p * T) 0 0 = sh E (r + p * T) s (t + s * (p * T)) := by
        rw [sh_sh]; congr 1 <;> omega
      have hpT : 0 ≤ p * T ∧ p * T ≤ 6 := by
        rcases hp with rfl | rfl <;> omega
      have hsT : 0 ≤ s * (p * T) ∧ s * (p * T) ≤ 12 := by
        rcases (show s = 0 ∨ s = 1 ∨ s = 2 by omega) with rfl | rfl | rfl <;> omega
      rw [hE3] at n3
      have A3 : AM ev m (sA z1 (rf ev 123 m) (sh (sh E r s t) (p * T) 0 0)) (sh E (r + p * T) s (t + s * (p * T))) := by
        rw [← hE3]; exact AM_sA ev m z1 _
      have F3 : Fs ev m z (sA z1 (rf ev 123 m) (sh (sh E r s t) (p * T) 0 0)) := F1.tr (Fs_sA ev m z1 _)
      have hN3 : (p = 2 ∧ N ≤ 62) ∨ (p = 3 ∧ N ≤ 26) := by
        rcases hN2 with h | ⟨h, h'⟩
        · exact Or.inl h
        · refine Or.inr ⟨h, h' ?_⟩
          have := n3; rw [h] at this
          have := NK1_c4 this
          rwa [c4_sh] at this
      have h7 : 7 ≤ N := by
        rcases Nat.lt_or_ge N 7 with h | h
        · exact absurd (dv_pow (by have := NK_D (by omega) n3; rwa [dd_sh] at this) (by omega)) hND
        · exact h
      obtain ⟨n, hn⟩ := FU_ge (d := N - 6 + 1) (by omega)
      have tb : TB p E 1 (r + p * T) s (t + s * (p * T)) := by
        rcases hF with h | h
        · exact Or.inl h
        · refine Or.inr ⟨h, by omega, ?_, ?_⟩
          · have : (3 : Int) ^ ((1 + 3) / 2) = 9 := by decide
            omega
          · have : (3 : Int) ^ ((1 + 4) / 2) = 9 := by decide
            rw [this]; simp; omega
      obtain ⟨j, cc, z', h1, h2, h4, h5, h6⟩ := t_loop hp hND hN3 (N - 6) 1 n (r + p * T) s (t + s * (p * T)) _ (by omega) (by omega) A3 tb n3
      unfold g_X8_turns at ho
      rw [hn, show n + (N - 6 + 1) + 1 = n + (N - 6) + 2 by omega, show (1 : Int32) = nI 1 from rfl] at ho
      rw [h6, ob_e] at ho
      refine ⟨6, j + 1, cc, Eqv.sh E r s t, fl, ⟨b, c, d, hc.1, hc.2.1, hc.2.2, Or.inr (Or.inl ⟨hD, hT, rfl, _, ?_, n3, j, rfl, h1⟩)⟩, Or.inl ⟨by omega, by omega, _, ho.symm, ?_⟩⟩
      · rw [← hE3]; exact Eqv.sh _ _ _ _
      · refine ans_of (F3.tr h5) (by omega) rfl (by rw [Nat.add_comm]) ?_ ?_ rfl rfl
        · show _ = nI N - nI (5 + (j + 1) - 1)
          have e : nI (5 + (j + 1) - 1) = nI 4 + nI (1 + j) := by rw [i_add]; congr 1; omega
          rw [e]
          show (nI N - nI 4) - nI (1 + j) = _
          grind
        · show nI 5 + nI (1 + j) = nI (5 + (j + 1))
          rw [i_add]; congr 1; omega
  · rw [if_neg hD, if_pos rfl, n_nrt A1 hp f1 hc bb, ob_e, m_is, ob_e] at ho
    refine ⟨5, 0, 1 + nrt p b c d, Eqv.sh E r s t, fl, ⟨b, c, d, hc.1, hc.2.1, hc.2.2, Or.inl ⟨hD, rfl, rfl, rfl⟩⟩, Or.inl ⟨by omega, by omega, _, ho.symm, ?_⟩⟩
    exact ans_of F1 (by omega) rfl rfl rfl rfl (by rw [← i_add]; rfl) rfl
