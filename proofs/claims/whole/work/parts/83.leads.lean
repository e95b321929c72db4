/-! the model's LEAST for all; what a curve comes to at a prime, by one choice -/
theorem Pair.rek {E L : Cv} {u : Int} (h : Pair E L u) (ev : EV) {P : Nat} (hp : Pr P) (hP : P < 2147483648) : ∃ v, RekG P L v := by
  obtain ⟨z', -, -, r⟩ := c_reckon (ev := ev) (z := sE (fun _ _ => 0, fun _ _ => 0, fun _ _ => 0, fun _ _ => 0) (rf ev 27 0 + 1) L) (th := 0) (l1 := rf ev 27 0 + 1) hp hP (by omega) (EQ_sE _ _ L) h.lb (h.min P hp) h.dL0 h.dLb (h.pa P hp)
  exact ⟨_, r⟩
noncomputable def rvl (P : Nat) (L : Cv) : Nat → Int32 := Classical.epsilon (fun v => RekG P L v)
theorem Pair.rv {E L : Cv} {u : Int} (h : Pair E L u) (ev : EV) {P : Nat} (hp : Pr P) (hP : P < 2147483648) : RekG P L (rvl P L) := Classical.epsilon_spec (h.rek ev hp hP)
theorem Pair.one {E L : Cv} {u : Int} (h : Pair E L u) {ev : EV} {m : Nat} (hD : DM ev m) {P : Nat} (hp : Pr P) (hP : P < 2147483648) {v : Nat → Int32} (hv : RekG P L v) : (∀ j, j < 6 → v j = rvl P L j) ∧ (P ≤ 999983 → v 6 = rvl P L 6) := by
  obtain ⟨k, w, e1, e2, -⟩ := val_ex hp (u.natAbs + 1) u h.pos (by omega)
  have A : AM ev m (sA (fun _ _ => 0, fun _ _ => 0, fun _ _ => 0, fun _ _ => 0) (rf ev 123 m) E) E := AM_sA ev m _ E
  obtain ⟨z1, g1, -, -, g4, g5⟩ := h.lays (hD.ne 123 129) A hp hP hv e1 e2
  obtain ⟨z2, k1, -, -, k4, k5⟩ := h.lays (hD.ne 123 129) A hp hP (h.rv ev hp hP) e1 e2
  rw [g1] at k1
  cases k1
  exact ⟨fun j hj => (g4 j hj).symm.trans (k4 j hj), fun h9 => (g5 h9).symm.trans (k5 h9)⟩
theorem dvx {k x : Int} (hk : 0 < k) (hR : inR k) (h : inR (k * x)) : ph (k * x) / ph k = ph x := by rw [ph_div h hR hk, td_ex (by omega)]
theorem wJ5' (z : PS) (B : Nat) (E : Cv) : wJ (wJ (wJ (wJ (wJ z B 0 (ph (a1 E))) B 2 (ph (a3 E))) B 1 (ph (a2 E))) B 3 (ph (a4 E))) B 4 (ph (a6 E)) = sA z B E := by
  unfold sA wJ
  refine Prod.ext rfl (Prod.ext rfl (Prod.ext rfl ?_))
  funext b j
  dsimp only
  by_cases hb : b = B
  · subst hb
    by_cases h0 : j = 0
    · simp [h0]
    by_cases h1 : j = 1
    · simp [h1]
    by_cases h2 : j = 2
    · simp [h2]
    by_cases h3 : j = 3
    · simp [h3]
    by_cases h4 : j = 4
    · simp [h4]
    simp [h0, h1, h2, h3, h4]
  · simp [hb]
theorem wr_eq (z : PS) (B i : Nat) (v : Int64) : rJ (wJ z B i v) B i = v := by simp [rJ, wJ]
theorem wr_ne (z : PS) (B : Nat) {i j : Nat} (v : Int64) (h : j ≠ i) : rJ (wJ z B i v) B j = rJ z B j := by simp [rJ, wJ, h]
theorem LB.red {L : Cv} (h : LB L) : Red L := by
  obtain ⟨⟨h1, h2, h3⟩, -⟩ := h
  exact ⟨by omega, by omega, by omega⟩
theorem n_leads {ev : EV} {z : PS} {m : Nat} {F : Cv} (hL : LB F) : g_X8_leads ev z m (ph (c4 F)) (ph (c6 F)) = some (sA z (rf ev 124 m) F) := by
  have hR := hL.red
  have hb := ldb_red hR
  obtain ⟨rc4, rc6, rc6n⟩ := lb_c hL
  obtain ⟨⟨h1, h2, h3⟩, h4, h6⟩ := hL
  obtain ⟨r1, r2, r3⟩ := hR
  have q1 : a1 F * a1 F = a1 F := by rcases r1 with h | h <;> rw [h] <;> rfl
  have q3 : a3 F * a3 F = a3 F := by rcases r3 with h | h <;> rw [h] <;> rfl
  have m2 : -4 ≤ b2 F ∧ b2 F ≤ 5 := by unfold b2; rw [q1]; omega
  have q13 : 0 ≤ a1 F * a3 F ∧ a1 F * a3 F ≤ 1 := by rcases r1 with h | h <;> rw [h] <;> omega
  have m4 : -14000001 ≤ b4 F ∧ b4 F ≤ 14000001 := by unfold b4; omega
  have m6 : -28000000001 ≤ b6 F ∧ b6 F ≤ 28000000001 := by unfold b6; rw [q3]; omega
  have e4 : b2 F * b2 F - c4 F = 24 * b4 F := by unfold c4; omega
  have e6 : 36 * b2 F * b4 F - b2 F * b2 F * b2 F - c6 F = 216 * b6 F := by unfold c6; omega
  have s1 : b2 F % 2 = a1 F := by unfold b2; rcases r1 with h | h <;> rw [h] <;> omega
  have s3 : b6 F % 2 = a3 F := by unfold b6; rcases r3 with h | h <;> rw [h] <;> omega
  have t2 : b2 F - a1 F = 4 * a2 F := by unfold b2; omega
  have t4 : b4 F - a1 F * a3 F = 2 * a4 F := by unfold b4; omega
  have t6 : b6 F - a3 F = 4 * a6 F := by unfold b6; omega
  have key : q_X8_leads_30 ev m (ph (c4 F)) (ph (c6 F)) (ph (b2 F)) z = some (sA z (rf ev 124 m) F) := by
    unfold q_X8_leads_30
    rw [show (24 : Int64) = ph 24 from rfl, show (216 : Int64) = ph 216 from rfl, show (36 : Int64) = ph 36 from rfl, show (2 : Int64) = ph 2 from rfl, show (4 : Int64) = ph 4 from rfl, ph_mul, ph_sub, e4,
      dvx (by omega) ⟨by omega, by omega⟩ ⟨by omega, by omega⟩, bd_e, ph_mul, ph_mul, ph_mul, ph_sub, ph_sub, e6, dvx (by omega) ⟨by omega, by omega⟩ ⟨by omega, by omega⟩, bd_e,
      m_mod (by omega) (by omega) (Or.inl ⟨by omega, by omega⟩), ob_e, bd_e, m_mod (by omega) (by omega) (Or.inl ⟨by omega, by omega⟩), ob_e, bd_e, s1, s3]
    simp only [bd_e, wr_eq, wr_ne _ _ _ (show (0 : Nat) ≠ 2 by decide), wr_ne _ _ _ (show (0 : Nat) ≠ 1 by decide), wr_ne _ _ _ (show (2 : Nat) ≠ 1 by decide), wr_ne _ _ _ (show (2 : Nat) ≠ 3 by decide)]
    rw [ph_sub, t2, dvx (by omega) ⟨by omega, by omega⟩ ⟨by omega, by omega⟩, ph_mul, ph_sub, t4, dvx (by omega) ⟨by omega, by omega⟩ ⟨by omega, by omega⟩, ph_sub, t6, dvx (by omega) ⟨by omega, by omega⟩ ⟨by omega, by omega⟩, wJ5']
  unfold g_X8_leads
  rw [show (12 : Int64) = ph 12 from rfl, show (6 : Int64) = ph 6 from rfl, ph_neg, m_mod (by omega) (by omega) (Or.inl rc6n), ob_e]
  unfold ldb at hb
  have k1 := Int.emod_nonneg (-c6 F) (show (12 : Int) ≠ 0 by omega)
  have k2 := Int.emod_lt_of_pos (-c6 F) (show (0 : Int) < 12 by omega)
  by_cases hc : 6 < -c6 F % 12
  · rw [if_pos hc] at hb
    rw [if_neg (by rw [ph_le ⟨by omega, by omega⟩ ⟨by omega, by omega⟩]; omega), ph_sub, hb, key]
  · rw [if_neg hc] at hb
    rw [if_pos (by rw [ph_le ⟨by omega, by omega⟩ ⟨by omega, by omega⟩]; omega), hb, key]
/-- an equation that the model works with -/
def PQ (E L : Cv) (u : Int) : Prop := Pair E L u ∧ QB (dd E)
theorem Pair.u12 {E L : Cv} {u : Int} (h : Pair E L u) : u ^ 12 ≤ 9000000000000000000 := by
  have e := h.ddE
  have hp : 0 < u ^ 12 := Int.pow_pos h.pos
  have hb := h.db
  have hd : u ^ 12 ∣ dd E := ⟨_, e⟩
  have h0 := h.d0
  rcases (show 0 < dd E ∨ 0 < -dd E by omega) with h1 | h1
  · have := Int.le_of_dvd h1 hd; have := hb.2; omega
  · have := Int.le_of_dvd h1 (Int.dvd_neg.mpr hd); have := hb.1; omega
theorem Pair.ur {E L : Cv} {u : Int} (h : Pair E L u) {e : Nat} (he : e ≤ 12) : 0 < u ^ e ∧ inR (u ^ e) ∧ ¬ ph (u ^ e) = 0 := by
  have h1 := h.u12
  have hp : 0 < u ^ e := Int.pow_pos h.pos
  have hq : 0 < u ^ (12 - e) := Int.pow_pos h.pos
  have hm : u ^ e * u ^ (12 - e) = u ^ 12 := by rw [← Int.pow_add]; congr 1; omega
  have : u ^ e * 1 ≤ u ^ e * u ^ (12 - e) := Int.mul_le_mul_of_nonneg_left hq (Int.le_of_lt hp)
  have hR : inR (u ^ e) := ⟨by omega, by omega⟩
  exact ⟨hp, hR, by rw [l0, ph_eq hR z_R]; omega⟩
theorem Fr.ah {ev : EV} {m : Nat} {z z' : PS} {a : Nat} {E : Cv} (h : Fr ev m z z') (h1 : ev.2.2.2.1 a m ≠ ev.2.2.2.1 123 m) (h2 : ev.2.2.2.1 a m ≠ ev.2.2.2.1 129 m) (A : AH ev m z a E) : AH ev m z' a E := fun k hk => (h.2.2.2 _ k h1 h2).trans (A k hk)
theorem Fr.mp {ev : EV} {m : Nat} {z z' : PS} {k : Nat} {f : Nat → Nat} (h : Fr ev m z z') (hD : DM ev m) (C : MP ev m z k f) : MP ev m z' k f :=
  ⟨by show z'.1 126 m = _; rw [h.1]; exact C.1, fun i hi => (h.2.2.2 _ i (hD.ne 125 123) (hD.ne 125 129)).trans (C.2 i hi)⟩
theorem MP.sA {ev : EV} {m : Nat} {z : PS} {k a : Nat} {f : Nat → Nat} {E : Cv} (C : MP ev m z k f) (h : rf ev 125 m ≠ rf ev a m) : MP ev m (sA z (rf ev a m) E) k f :=
  ⟨C.1, fun i hi => (sA_ne z E h i).trans (C.2 i hi)⟩
theorem ll_loop {ev : EV} {m : Nat} (hD : DM ev m) {E L : Cv} {u : Int} (h : Pair E L u) {K : Nat} {f : Nat → Nat} (hP : PL (dd E).natAbs K f) : ∀ (d n i : Nat) (z : PS) (s w : Int), i + d = K → AH ev m z 131 E → MP ev m z K f → r64 z 130 m = ph s → u = s * w → 0 < s → 0 < w →
    (∀ j, j < i → ¬ (f j : Int) ∣ w) → (∀ j, i ≤ j → j < K → ¬ (f j : Int) ∣ s) →
    ∃ z', q_X8_laysLeast_19 ev m (n + d + 1) (nI i) z = some z' ∧ AH ev m z' 123 E ∧ AH ev m z' 124 L ∧ r64 z' 130 m = ph u ∧ FM ev m z z' := by
  have hK16 := hP.2.2.2.1
  intro d
  induction d with
  | zero =>
    intro n i z s w hi A C hs e s0 w0 hw _
    have : i = K := by omega
    subst this
    have hw1 : w = 1 := by
      rcases (show w = 1 ∨ 2 ≤ w by omega) with h1 | h1
      · exact h1
      · exfalso
        obtain ⟨Q, q1, q2⟩ := pr_ex (n := w.toNat) (by omega)
        have hQw : (Q : Int) ∣ w := by have := nd_int.mpr q2; rwa [show ((w.toNat : Nat) : Int) = w by omega] at this
        have hQD : Q ∣ (dd E).natAbs := by
          apply Int.ofNat_dvd_left.mp
          rw [h.ddE, e]
          refine Int.dvd_mul_of_dvd_left ?_
          exact Int.dvd_trans hQw ⟨s * (s * w) ^ 11, by rw [show (12 : Nat) = 11 + 1 from rfl, Int.pow_succ]; grind⟩
        obtain ⟨j, j1, j2⟩ := hP.2.2.1 Q q1 hQD
        exact hw j j1 (by rw [j2]; exact hQw)
    subst hw1
    rw [Int.mul_one] at e
    subst e
    rw [q_X8_laysLeast_19, C.1, if_pos (show nI i ≤ nI i from Int32.le_refl _), n_wholeA hD A, ob_e]
    have A1 : AM ev m (sA z (rf ev 123 m) E) E := AM_sA ev m z E
    have e130 : r64 (sA z (rf ev 123 m) E) 130 m = ph u := hs
    obtain ⟨u4, u4r, u40⟩ := h.ur (e := 4) (by omega)
    obtain ⟨u6, u6r, u60⟩ := h.ur (e := 6) (by omega)
    have f4 : c4 E = u ^ 4 * c4 L := by rw [← h.eqv.c4, c4_sc]
    have f6 : c6 E = u ^ 6 * c6 L := by rw [← h.eqv.c6, c6_sc]
    have b4 := h.b4
    have b6 := h.b6
    have R4 : inR (c4 E) := ⟨by have := b4.1; omega, by have := b4.2; omega⟩
    have R6 : inR (c6 E) := ⟨by have := b6.1; omega, by have := b6.2; omega⟩
    rw [n_c4 A1, ob_e, e130, show (4 : Int32) = nI 4 from rfl, show (6 : Int32) = nI 6 from rfl, g_power8 u (by omega), ob_e, ck_e u40, n_c6 A1, ob_e, g_power8 u (by omega), ob_e, ck_e u60, f4, f6, dvx u4 u4r (by rw [← f4]; exact R4), dvx u6 u6r (by rw [← f6]; exact R6), n_leads h.lb, ob_e]
    refine ⟨_, rfl, AH.ne (AM_sA ev m z E) (hD.ne 123 124), AH_sA ev m _ 124 L, hs, (FM_sA ev m z E (Or.inl rfl)).tr (FM_sA ev m _ L (Or.inr (Or.inl rfl)))⟩
  | succ d ih =>
    intro n i z s w hi A C hs e s0 w0 hw hns
    have hiK : i < K := by omega
    obtain ⟨p1, p2⟩ := hP.2.1 i hiK
    have p9 := hP.2.2.2.2 i hiK
    obtain ⟨k, w', k1, k2, k3⟩ := val_ex p1 (w.natAbs + 1) w w0 (by omega)
    have hu : u = (s * w') * (f i : Int) ^ k := by rw [e, k1]; generalize (f i : Int) ^ k = A; grind
    have hnd : ¬ (f i : Int) ∣ s * w' := fun hh => (p1.2 _ _ hh).elim (hns i (by omega) hiK) k2
    rw [q_X8_laysLeast_19, C.1, if_neg (by rw [i_le (by omega) (by omega)]; omega), n_wholeA hD A, ob_e, ck_e (inB_n (show i < 20 by omega) (by omega)), show rJ (sA z (rf ev 123 m) E) (rf ev 125 m) (nI i).toNatClampNeg = ph (f i) by rw [nI_clamp (by omega)]; exact (C.sA (hD.ne 125 123)).2 i hiK]
    obtain ⟨z', g1, g2, g3, -, -⟩ := h.lays (hD.ne 123 129) (AM_sA ev m z E) p1 (by omega) (h.rv ev p1 (by omega)) hu hnd
    have C' := g2.mp hD (C.sA (a := 123) (E := E) (hD.ne 125 123))
    have A' : AH ev m z' 131 E := g2.ah (hD.ne 131 123) (hD.ne 131 129) (A.ne (hD.ne 131 123))
    have hs' : r64 z' 130 m = ph s := (g2.2.1 130 m (by omega)).trans hs
    have hk9 : k < 1000 := by
      rcases Nat.lt_or_ge k 1000 with hh | hh
      · exact hh
      · exfalso
        have hu12 := h.u12
        have hd : (f i : Int) ^ k ∣ u := ⟨s * w', by rw [hu]; generalize (f i : Int) ^ k = A; grind⟩
        have h2 := Int.le_of_dvd h.pos hd
        have h64 : (f i : Int) ^ 64 ∣ (f i : Int) ^ k := dv_pow (Int.dvd_refl _) (by omega)
        have h3 := Int.le_of_dvd (Int.pow_pos (by have := p1.1; omega)) h64
        have h4 := pw_ge (n := 64) (pr_2 p1)
        have h5 : ((2 : Nat) : Int) ^ 64 = 18446744073709551616 := by decide
        have h6 := h.ur (e := 1) (by omega)
        rw [Int.pow_one] at h6
        have := h6.2.1.2
        omega
    rw [g1, ob_e, ck_e (inB_n (show i < 20 by omega) (by omega)), nI_clamp (by omega), C'.2 i hiK, g3, g_power8 _ (by omega), ob_e, bd_e, bd_e, bd_e, nI_s, hs', ph_mul]
    obtain ⟨z2, b1, b2, b3, b4, b5⟩ := ih n (i + 1) (w64 z' 130 m (ph (s * (f i : Int) ^ k))) (s * (f i : Int) ^ k) w' (by omega) A' C' (rw_eq z' 130 m _) (by rw [e, k1]; generalize (f i : Int) ^ k = A; grind) (Int.mul_pos s0 (Int.pow_pos (by have := p1.1; omega))) k3 (by
      intro j hj
      rcases (show j = i ∨ j < i by omega) with h1 | h1
      · subst h1; exact k2
      · intro hd
        exact hw j h1 (by rw [k1]; exact Int.dvd_mul_of_dvd_left hd)) (by
      intro j hj1 hj2 hd
      obtain ⟨r1, -⟩ := hP.2.1 j hj2
      rcases r1.2 _ _ hd with h1 | h1
      · exact hns j (by omega) hj2 h1
      · have h2 := nd_int.mp (r1.pow k h1)
        have h3 := Nat.le_of_dvd (by have := pr_2 p1; omega) h2
        have := hP.1 i j (by omega) hj2
        omega)
    refine ⟨z2, b1, b2, b3, b4, ?_⟩
    refine (((FM_sA ev m z E (Or.inl rfl)).tr g2.fm).tr ?_).tr b5
    exact ⟨fun _ _ _ => rfl, fun j x hx => by show (if _ then _ else _) = _; rw [if_neg (fun hh => hx ⟨Or.inr hh.1, hh.2⟩)], fun _ _ _ => rfl, fun _ _ _ => rfl⟩
theorem n_laysL {ev : EV} {m : Nat} (hD : DM ev m) {z : PS} {E L : Cv} {u : Int} (h : PQ E L u) (A : AH ev m z 123 E) : ∃ z', g_X8_laysLeast ev z m = some z' ∧ AH ev m z' 123 E ∧ AH ev m z' 124 L ∧ r64 z' 130 m = ph u ∧ FM ev m z z' := by
  obtain ⟨hp, hQ⟩ := h
  have A1 : AH ev m (sA z (rf ev 131 m) E) 123 E := A.ne (hD.ne 123 131)
  obtain ⟨z3, k, f, a1, a2, a3, a4⟩ := n_laysP (ev := ev) (m := m) (z := sA z (rf ev 131 m) E) hp.d0 hp.db hQ
  have A3 : AH ev m z3 131 E := a4.ah (hD.ne 131 125) (AH_sA ev m z 131 E)
  obtain ⟨n, hn⟩ := FU_ge (d := k) (by have := a3.2.2.2.1; omega)
  obtain ⟨z', b1, b2, b3, b4, b5⟩ := ll_loop hD hp a3 k n 0 (w64 z3 130 m (1 : Int64)) 1 u (by omega) A3 a2 (rw_eq z3 130 m _) (by omega) (by omega) hp.pos (fun j hj => by omega) (fun j _ hj hd => by have := Int.le_of_dvd (by omega) hd; have := (a3.2.1 j hj).1.1; omega)
  refine ⟨z', ?_, b2, b3, b4, ?_⟩
  · unfold g_X8_laysLeast
    rw [n_keepsW hD A, ob_e, n_dd A1, ob_e, a1, ob_e, bd_e, hn]
    exact b1
  · refine (((FM_sA ev m z E (by omega)).tr a4.fm).tr ?_).tr b5
    exact ⟨fun _ _ _ => rfl, fun j x hx => by show (if _ then _ else _) = _; rw [if_neg (fun hh => hx ⟨Or.inr hh.1, hh.2⟩)], fun _ _ _ => rfl, fun _ _ _ => rfl⟩
theorem n_goesL {ev : EV} {m : Nat} (hD : DM ev m) {z : PS} {E L : Cv} {u : Int} (h : PQ E L u) (A : AH ev m z 123 E) : ∃ z', g_X8_goesLeast ev z m = some z' ∧ AH ev m z' 123 L ∧ r64 z' 130 m = ph u ∧ FM ev m z z' := by
  obtain ⟨z1, a1, a2, a3, a4, a5⟩ := n_laysL hD h A
  refine ⟨sA z1 (rf ev 123 m) L, ?_, AH_sA ev m z1 123 L, a4, a5.tr (FM_sA ev m z1 L (Or.inl rfl))⟩
  unfold g_X8_goesLeast
  rw [a1, ob_e, n_goes6 hD a3]
