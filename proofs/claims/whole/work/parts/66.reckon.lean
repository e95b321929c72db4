/-! the class's reckon -/
def Spl (P : Nat) (L : Cv) (sp : Nat) : Prop := (P = 2 ∧ ((2 ∣ a2 L + a3 L ∧ sp = 1) ∨ (¬ 2 ∣ a2 L + a3 L ∧ sp = 0))) ∨ (P ≠ 2 ∧ (((P : Int) ∣ (-c6 L) ^ ((P - 1) / 2) - 1 ∧ sp = 1) ∨ (¬ (P : Int) ∣ (-c6 L) ^ ((P - 1) / 2) - 1 ∧ sp = 0)))
def sN (z : PS) (th : Nat) (N : Nat) (c : Int32) (sp : Int32) : PS := w32 (sT (w32 z 26 th sp) th 1 1 (nI N) c) 21 th (nI N)
theorem sN_v (z : PS) (th N : Nat) (c sp : Int32) (h : r32 z 25 th = nI N) : r32 (sN z th N c sp) 20 th = 1 ∧ r32 (sN z th N c sp) 21 th = nI N ∧ r32 (sN z th N c sp) 22 th = 1 ∧ r32 (sN z th N c sp) 23 th = nI N ∧ r32 (sN z th N c sp) 24 th = c ∧ r32 (sN z th N c sp) 25 th = nI N ∧ r32 (sN z th N c sp) 26 th = sp := by
  have h : z.1 25 th = nI N := h
  simp [sN, sT, w32, r32, h]
theorem c_node {ev : EV} {z : PS} {th l1 P N : Nat} {L : Cv} (hpr : Pr P) (hp2 : P < 2147483648) (hP : r32 z 28 th = nI P) (hN : r32 z 25 th = nI N) (hN9 : N < 900) (hE : EQ z l1 L) (hL : LB L) (h6 : inR (-c6 L)) :
    ∃ sp z', Spl P L sp ∧ g_X1_tellNode ev z th l1 = some z' ∧ AnsC ev th z z' N 1 0 0 sp := by
  have hp := hpr.1
  have key : ∀ sp : Nat, (sp = 0 ∨ sp = 1) → ∃ z', q_X1_tellNode_50 ev th l1 (nI sp) z = some z' ∧ AnsC ev th z z' N 1 0 0 sp := by
    intro sp hsp
    have h25 : r32 (w32 z 26 th (nI sp)) 25 th = nI N := by rw [← hN]; simp [w32, r32]
    have h26 : r32 (w32 z 26 th (nI sp)) 26 th = nI sp := by simp [w32, r32]
    have fin : ∀ c : Int32, c = nI (if sp = 1 then N else if N % 2 = 0 then 2 else 1) → AnsC ev th z (sN z th N c (nI sp)) N 1 0 0 sp := by
      intro c hc
      obtain ⟨v0, v1, v2, v3, v4, v5, v6⟩ := sN_v z th N c (nI sp) hN
      refine ⟨((FrC_w ev th z (by omega) _).tr (FrC_sT ev th _ _ _ _ _)).tr (FrC_w ev th _ (by omega) _), ?_⟩
      intro j hj
      unfold ansv
      rw [if_pos rfl, ← hc]
      rcases (show j = 0 ∨ j = 1 ∨ j = 2 ∨ j = 3 ∨ j = 4 ∨ j = 5 ∨ j = 6 by omega) with rfl | rfl | rfl | rfl | rfl | rfl | rfl
      · rw [if_pos rfl]; exact v0
      · rw [if_neg (by decide), if_pos rfl]; exact v1
      · rw [if_neg (by decide), if_neg (by decide), if_pos rfl]; exact v2
      · rw [if_neg (by decide), if_neg (by decide), if_neg (by decide), if_pos rfl]; exact v3
      · rw [if_neg (by decide), if_neg (by decide), if_neg (by decide), if_neg (by decide), if_pos rfl]; exact v4
      · rw [if_neg (by decide), if_neg (by decide), if_neg (by decide), if_neg (by decide), if_neg (by decide), if_pos rfl]; exact v5
      · rw [if_neg (by decide), if_neg (by decide), if_neg (by decide), if_neg (by decide), if_neg (by decide), if_neg (by decide)]; exact v6
    unfold q_X1_tellNode_50
    rw [ck_e (by rcases hsp with rfl | rfl <;> decide), bd_e, h25, i_and1 (by omega)]
    have r25 : ∀ c : Int32, r32 (sT (w32 z 26 th (nI sp)) th 1 1 (nI N) c) 25 th = nI N := fun c => by rw [← h25]; simp [sT, w32, r32]
    rcases hsp with rfl | rfl
    · by_cases hev : N % 2 = 0
      · rw [hev, if_pos (by rfl)]
        unfold q_X1_tellNode_67
        rw [h26, if_pos (by rfl), h25, c_tell, ob_e, bd_e, bd_e, r25]
        exact ⟨_, rfl, fin 2 (by rw [if_neg (by decide), if_pos hev]; rfl)⟩
      · rw [show N % 2 = 1 by omega, if_neg (by decide)]
        unfold q_X1_tellNode_67
        rw [h26, if_pos (by rfl), h25, c_tell, ob_e, bd_e, bd_e, r25]
        exact ⟨_, rfl, fin 1 (by rw [if_neg (by decide), if_neg hev]; rfl)⟩
    · have : ∀ t0 : Int32, q_X1_tellNode_67 ev th l1 t0 (w32 z 26 th (nI 1)) = some (sN z th N (nI N) (nI 1)) := by
        intro t0
        unfold q_X1_tellNode_67
        rw [h26, if_neg (by decide), h25, c_tell, ob_e, bd_e, bd_e, r25]
        rfl
      rw [this, this]
      refine ⟨_, by split <;> rfl, fin (nI N) (by rw [if_pos rfl])⟩
  unfold g_X1_tellNode
  by_cases h2 : P = 2
  · subst h2
    rw [hP, if_pos (by rfl), hE.a2, hE.a3, ph_add, l2, k_rest (by omega) (by omega) (Or.inl rfl), ob_e]
    by_cases hd : (2 : Int) ∣ a2 L + a3 L
    · obtain ⟨z', e, a⟩ := key 1 (Or.inr rfl)
      refine ⟨1, z', Or.inl ⟨rfl, Or.inl ⟨hd, rfl⟩⟩, ?_, a⟩
      rw [if_pos ((mod_n (by omega) (by omega)).mpr hd)]; exact e
    · obtain ⟨z', e, a⟩ := key 0 (Or.inl rfl)
      refine ⟨0, z', Or.inl ⟨rfl, Or.inr ⟨hd, rfl⟩⟩, ?_, a⟩
      rw [if_neg (fun h => hd ((mod_n (by omega) (by omega)).mp h))]; exact e
  · have hP2 : ¬ nI P = (2 : Int32) := fun h => h2 ((nI_eq (by omega) (by omega)).mp (show nI P = nI 2 from h))
    rw [hP, if_neg hP2, hE.c6, nI_L hp2, ph_neg, c_sqat (by omega) (hpr.odd (by omega)) hp2 h6, ob_e]
    by_cases hd : (P : Int) ∣ (-c6 L) ^ ((P - 1) / 2) - 1
    · obtain ⟨z', e, a⟩ := key 1 (Or.inr rfl)
      refine ⟨1, z', Or.inr ⟨h2, Or.inl ⟨hd, rfl⟩⟩, ?_, a⟩
      rw [if_pos hd]; exact e
    · obtain ⟨z', e, a⟩ := key 0 (Or.inl rfl)
      refine ⟨0, z', Or.inr ⟨h2, Or.inr ⟨hd, rfl⟩⟩, ?_, a⟩
      rw [if_neg hd]; exact e
/-- what is asked of p and L for the additive kinds -/
def PA (P : Nat) (L : Cv) : Prop := ((P : Int) ∣ c4 L → (P : Int) ∣ dd L → P ≤ 27064) ∧ ((P : Int) ∣ c4 L → (P : Int) ^ 6 ∣ dd L → P ≤ 30) ∧ ((P : Int) ∣ c4 L → (P : Int) ^ 7 ∣ dd L → P ≤ 18) ∧ (∀ N, ¬ (P : Int) ^ (N + 1) ∣ dd L → (P : Int) ^ N ∣ dd L → P = 2 ∨ ¬ (P : Int) ^ 3 ∣ c4 L → (P : Int) ∣ c4 L → (P : Int) ^ 7 ∣ dd L → NB P N)
/-- what the reckoning of L at p comes to -/
def RekG (P : Nat) (L : Cv) (v : Nat → Int32) : Prop := (¬ (P : Int) ∣ dd L ∧ ∀ j, j < 7 → v j = ans0 j) ∨
  ((P : Int) ∣ dd L ∧ ∃ N, (P : Int) ^ N ∣ dd L ∧ ¬ (P : Int) ^ (N + 1) ∣ dd L ∧
    ((¬ (P : Int) ∣ c4 L ∧ ∃ sp, Spl P L sp ∧ ∀ j, j < 7 → v j = ansv N 1 0 0 sp j) ∨
     ((P : Int) ∣ c4 L ∧ ∃ E1 k i c, Eqv L E1 ∧ N1 P E1 ∧ (P : Int) ∣ b2 E1 ∧ OutG P E1 k i c ∧ k ≠ 1 ∧ ∀ j, j < 7 → v j = ansv N k i c 0 j)))
theorem lb_c {L : Cv} (hL : LB L) : inR (c4 L) ∧ inR (c6 L) ∧ inR (-c6 L) := by
  obtain ⟨⟨h1, h2, h3⟩, h4, h6⟩ := hL
  have q1 : a1 L * a1 L = a1 L := by rcases (show a1 L = 0 ∨ a1 L = 1 by omega) with h | h <;> rw [h] <;> rfl
  have q3 : a3 L * a3 L = a3 L := by rcases (show a3 L = 0 ∨ a3 L = 1 by omega) with h | h <;> rw [h] <;> rfl
  have q13 : 0 ≤ a1 L * a3 L ∧ a1 L * a3 L ≤ 1 := by rcases (show a1 L = 0 ∨ a1 L = 1 by omega) with h | h <;> rw [h] <;> omega
  have e2 : -5 ≤ b2 L ∧ b2 L ≤ 5 := by unfold b2; rw [q1]; omega
  have e4 : -14000001 ≤ b4 L ∧ b4 L ≤ 14000001 := by unfold b4; omega
  have e6 : -28000000001 ≤ b6 L ∧ b6 L ≤ 28000000001 := by unfold b6; rw [q3]; omega
  unfold c4 c6 inR
  have m1 := mb e2 e2
  have m2 := mb m1 e2
  have m3 := mb (mb (X := 36) (Y := 5) (x := 36) (y := b2 L) (by omega) e2) e4
  refine ⟨⟨by omega, by omega⟩, ⟨by omega, by omega⟩, ⟨by omega, by omega⟩⟩
theorem c_reckon {ev : EV} {z : PS} {th l1 P : Nat} {L : Cv} (hpr : Pr P) (hp2 : P < 2147483648) (hne : l1 ≠ rf ev 27 th) (hE : EQ z l1 L) (hL : LB L) (hmin : Min P L) (hD0 : dd L ≠ 0) (hDb : -9000000000000000000 ≤ dd L ∧ dd L ≤ 9000000000000000000) (hA : PA P L) :
    ∃ z', g_X1_reckon ev z th l1 (nI P) = some z' ∧ FrC ev th z z' ∧ RekG P L (fun j => r32 z' (20 + j) th) := by
  have hp := hpr.1
  obtain ⟨rc4, rc6, rc6n⟩ := lb_c hL
  have hDR : inR (dd L) := ⟨by omega, by omega⟩
  obtain ⟨N, N1', N2, N3, N4⟩ := c_times (p := P) (x := dd L) hp (by omega) hD0 hDR
  have hN62 : P = 2 → N ≤ 62 := by
    intro h
    have hPK := PK_D (P := P) (n := 0) (by omega) hp2 hD0 hDb (fun _ => by omega) (by rw [Int.pow_zero]; exact Int.one_dvd _)
    rcases Nat.lt_or_ge 62 N with h' | h'
    · exfalso
      have h63 : (P : Int) ^ 63 ∣ dd L := dv_pow N2 (by omega)
      rw [h] at h63
      have e : ((2 : Nat) : Int) ^ 63 = 9223372036854775808 := by decide
      rw [e] at h63
      rcases (show 0 < dd L ∨ 0 < -dd L by omega) with h0 | h0
      · have := Int.le_of_dvd h0 h63; omega
      · have := Int.le_of_dvd h0 (Int.dvd_neg.mpr h63); omega
    · exact h'
  generalize ho : g_X1_reckon ev z th l1 (nI P) = o
  unfold g_X1_reckon at ho
  have r28 : r32 (w32 z 28 th (nI P)) 28 th = nI P := by simp [w32, r32]
  have e11 : r64 (w32 z 28 th (nI P)) 11 l1 = ph (dd L) := hE.dd
  rw [bd_e, r28, e11, nI_L hp2, N4, ob_e, bd_e, bd_e] at ho
  have F4 : FrC ev th z (w32 (w32 (w32 z 28 th (nI P)) 25 th (nI N)) 26 th 0) := ((FrC_w ev th z (by omega) _).tr (FrC_w ev th _ (by omega) _)).tr (FrC_w ev th _ (by omega) _)
  have k25 : r32 (w32 (w32 (w32 z 28 th (nI P)) 25 th (nI N)) 26 th 0) 25 th = nI N := by simp [w32, r32]
  have k26 : r32 (w32 (w32 (w32 z 28 th (nI P)) 25 th (nI N)) 26 th 0) 26 th = 0 := by simp [w32, r32]
  have k28 : r32 (w32 (w32 (w32 z 28 th (nI P)) 25 th (nI N)) 26 th 0) 28 th = nI P := by simp [w32, r32]
  have hE4 : EQ (w32 (w32 (w32 z 28 th (nI P)) 25 th (nI N)) 26 th 0) l1 L := hE
  generalize w32 (w32 (w32 z 28 th (nI P)) 25 th (nI N)) 26 th 0 = z4 at *
  rw [k25] at ho
  by_cases hN0 : N = 0
  · subst hN0
    rw [if_pos (by rfl), c_tell, ob_e] at ho
    rw [Nat.zero_add, Int.pow_one] at N3
    refine ⟨_, ho.symm, F4.tr (FrC_sT ev th z4 _ _ _ _), Or.inl ⟨N3, ?_⟩⟩
    intro j hj
    rcases (show j = 0 ∨ j = 1 ∨ j = 2 ∨ j = 3 ∨ j = 4 ∨ j = 5 ∨ j = 6 by omega) with rfl | rfl | rfl | rfl | rfl | rfl | rfl
    · simp [sT, w32, r32, ans0]
    · simp [sT, w32, r32, ans0]
    · simp [sT, w32, r32, ans0]
    · simp [sT, w32, r32, ans0]
    · simp [sT, w32, r32, ans0]
    · show r32 (sT z4 th 0 0 1 1) 25 th = 0
      rw [show r32 (sT z4 th 0 0 1 1) 25 th = r32 z4 25 th by simp [sT, w32, r32], k25]; rfl
    · show r32 (sT z4 th 0 0 1 1) 26 th = 0
      rw [show r32 (sT z4 th 0 0 1 1) 26 th = r32 z4 26 th by simp [sT, w32, r32], k26]
  have hNz : ¬ nI N = 0 := nI_ne0 (by omega) (by omega)
  have hpD : (P : Int) ∣ dd L := by have := dv_pow (m := 1) N2 (by omega); rwa [Int.pow_one] at this
  rw [if_neg hNz, k28, nI_L hp2, hE4.c4, k_rest hp (by omega) (Or.inr rc4), ob_e] at ho
  by_cases h4 : (P : Int) ∣ c4 L
  · have hP27 := hA.1 h4 hpD
    rw [if_pos ((mod_n hp (by omega)).mpr h4), c_take hE4, ob_e] at ho
    have C8 : CF ev (sE z4 (rf ev 27 th) L) th P N L := ⟨k28, k25, k26, EQ_sE z4 _ L⟩
    have F8 := F4.tr (FrC_sE ev th z4 L)
    obtain ⟨r, t, hr, ht, n1, hb2, em⟩ := c_move (ev := ev) (th := th) C8.1 hpr hP27 C8.2.2.2 hL h4 hpD
    rw [em, ob_e] at ho
    have C9 := C8.sE (sh L r 0 t)
    have F9 := F8.tr (FrC_sE ev th (sE z4 (rf ev 27 th) L) (sh L r 0 t))
    rcases c_early hpr hP27 hL hr ht C9 n1 with ⟨k, c, z', e1, e2, e3, e4⟩ | ⟨e1, e2, e3, e4⟩
    · rw [e3, ob_e, bd_e, bd_e, if_neg (by show ¬ (1 : Int32) = 0; decide)] at ho
      exact ⟨z', ho.symm, F9.tr e4.1, Or.inr ⟨hpD, N, N2, N3, Or.inr ⟨h4, _, k, 0, c, Eqv.sh L r 0 t, n1, hb2, e2, e1, e4.2⟩⟩⟩
    · obtain ⟨s, g, hs, hg, fl, ef⟩ := c_flat hpr hP27 hL hr ht C9 n1 hb2 e1 e2 e3
      have eq : sh (sh L r 0 t) 0 s (P * g) = sh L r s (t + P * g) := by rw [sh_sh]; congr 1 <;> grind
      rw [e4, ob_e, bd_e, bd_e, if_pos (by rfl), ef, ob_e, eq] at ho
      rw [eq] at fl
      have C13 := C9.sE (sh L r s (t + P * g))
      have F13 := F9.tr (FrC_sE ev th (sE (sE z4 (rf ev 27 th) L) (rf ev 27 th) (sh L r 0 t)) (sh L r s (t + P * g)))
      have hg' : 0 ≤ (P : Int) * g ∧ (P : Int) * g ≤ P * P - P := by
        have h0 := Int.mul_nonneg (show 0 ≤ (P : Int) by omega) hg.1
        have h1 := Int.mul_le_mul_of_nonneg_left (show g ≤ P - 1 by omega) (show 0 ≤ (P : Int) by omega)
        have h2 : (P : Int) * (P - 1) = P * P - P := by grind
        omega
      obtain ⟨k, i, c, z', t1, t2, t3, t4⟩ := c_tail hpr hL hmin hr hs (t := t + P * g) (by omega) C13 fl N3 hD0 hDb (hA.2.1 h4) (hA.2.2.1 h4) (fun h h' => hA.2.2.2 N N3 N2 h h4 h') (by omega)
      unfold tailC at t3
      rw [t3] at ho
      refine ⟨z', ho.symm, F13.tr t4.1, Or.inr ⟨hpD, N, N2, N3, Or.inr ⟨h4, _, k, i, c, Eqv.sh L r 0 t, n1, hb2, Or.inr (Or.inr (Or.inr ⟨e1, e2, e3, sh L r s (t + P * g), ?_, fl, t2⟩)), t1, t4.2⟩⟩⟩
      rw [← eq]; exact Eqv.sh _ _ _ _
  · rw [if_neg (fun h => h4 ((mod_n hp (by omega)).mp h))] at ho
    obtain ⟨sp, z', s1, s2, s3⟩ := c_node (ev := ev) (th := th) hpr hp2 k28 k25 (by omega) hE4 hL rc6n
    rw [s2, ob_e] at ho
    exact ⟨z', ho.symm, F4.tr s3.1, Or.inr ⟨hpD, N, N2, N3, Or.inl ⟨h4, sp, s1, s3.2⟩⟩⟩
