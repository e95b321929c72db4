def g_X2_hold (ev : EV) (z : PS) (th : Nat) (l1 : Nat) : Option PS := ob (g_X0_take ev z (rf ev 40 th) l1) (fun z1 => ob (g_X3_lower ev z1 (r64 z1 9 (rf ev 40 th)) (r64 z1 10 (rf ev 40 th)) (r64 z1 11 (rf ev 40 th)) (rf ev 41 th)) (fun qv3 => bd qv3.1 (fun v3 => bd qv3.2 (fun z2 => bd (w64 z2 42 th v3) (fun z4 => bd (w32 z4 44 th (0 : Int32)) (fun z5 => some z5))))))
set_option maxRecDepth 20000 in
set_option maxHeartbeats 4000000 in
theorem c_X2_hold (l : Launch) (ev : EV) (z : PS) (E : EWF ev) {th : Nat} (hth : isK ev 2 th) {l1 : Nat} (hl1 : isK ev 0 l1) (th_ : Nat) (l1_ : Nat) (z9 : PS) (h : g_X2_hold ev z th l1 = some z9) : Met l yX2_hold (pWs yX2_hold cX2_hold 2 none) (pR 3 137) (va_Pc [.ref th, .ref l1] (pPe ev z)) (pQv ev z9) 0 0 (eA ev) := by
  refine pm_of (by decide) (Nat.le_of_ble_eq_true rfl) ?_
  intro p e s m below meth c S hr hlk hv ls hl
  obtain ⟨hP, hK, hX⟩ := hv
  have hS : SS ev s s.heap [] := va_S.rf
  have hl : lv_has ls 2 [(0, .ref th), (1, .ref l1)] := hl
  unfold g_X2_hold at h
  refine lv_aload_n S.1 S.2.1 dX2_hold_0 rfl (lv_at hl 0 rfl) ?_
  refine gf_2_0 S hK hP hth mw_1_105 dX2_hold_1 ?_
  refine lv_aload_n S.1 S.2.1 dX2_hold_4 rfl (lv_at hl 1 rfl) ?_
  obtain ⟨z1, ez1, h⟩ := ob_s h
  refine pm_cVv (As := [.ref l1]) (rest := []) S hK hX hP hS (c_X0_take l ev z E (E_2_0 E hth) hl1 (rf ev 40 th) l1 z1 ez1) vm_X0_take mw_2_3 (rc_0 hK hP (E_2_0 E hth)) ⟨⟨rfl, rfl⟩, by decide, by decide⟩ rfl hl.1 rfl (Nat.le_of_ble_eq_true rfl) ⟨Nat.zero_le _, Nat.zero_le _⟩ dX2_hold_5 (fun H locs hP hS => ?_)
  refine lv_aload_n S.1 S.2.1 dX2_hold_8 rfl (lv_at hl 0 rfl) ?_
  refine lv_aload_n S.1 S.2.1 dX2_hold_9 rfl (lv_at hl 0 rfl) ?_
  refine gf_2_0 S hK hP hth mw_1_105 dX2_hold_10 ?_
  refine gf_0_9 S hK hP (E_2_0 E hth) mw_1_53 dX2_hold_13 ?_
  refine lv_aload_n S.1 S.2.1 dX2_hold_16 rfl (lv_at hl 0 rfl) ?_
  refine gf_2_0 S hK hP hth mw_1_105 dX2_hold_17 ?_
  refine gf_0_10 S hK hP (E_2_0 E hth) mw_1_57 dX2_hold_20 ?_
  refine lv_aload_n S.1 S.2.1 dX2_hold_23 rfl (lv_at hl 0 rfl) ?_
  refine gf_2_0 S hK hP hth mw_1_105 dX2_hold_24 ?_
  refine gf_0_11 S hK hP (E_2_0 E hth) mw_1_61 dX2_hold_27 ?_
  refine lv_aload_n S.1 S.2.1 dX2_hold_30 rfl (lv_at hl 0 rfl) ?_
  refine gf_2_1 S hK hP hth mw_1_107 dX2_hold_31 ?_
  obtain ⟨qv3, ev3, h⟩ := ob_s h
  obtain ⟨v3, fv3, h⟩ := bd_s h
  obtain ⟨z2, fz2, h⟩ := bd_s h
  have ev3 : g_X3_lower ev z1 (r64 z1 9 (rf ev 40 th)) (r64 z1 10 (rf ev 40 th)) (r64 z1 11 (rf ev 40 th)) (rf ev 41 th) = some (v3, z2) := by rw [fv3, fz2]; exact ev3
  refine pm_cSl (As := [.long (r64 z1 9 (rf ev 40 th)), .long (r64 z1 10 (rf ev 40 th)), .long (r64 z1 11 (rf ev 40 th)), .ref (rf ev 41 th)]) (rest := [.ref th]) S hK hX hP hS (c_X3_lower l ev z1 E (E_2_1 E hth) (r64 z1 9 (rf ev 40 th)) (r64 z1 10 (rf ev 40 th)) (r64 z1 11 (rf ev 40 th)) (rf ev 41 th) v3 z2 ev3) sm_X3_lower mw_2_8 ⟨⟨rfl, rfl⟩, by decide, by decide⟩ rfl hl.1 rfl (Nat.le_of_ble_eq_true rfl) ⟨Nat.zero_le _, Nat.zero_le _⟩ dX2_hold_34 (fun H locs hP hS => ?_)
  obtain ⟨z4, ez4, h⟩ := bd_s h
  refine pf_2_2 S E hK hP hS hth mw_1_109 dX2_hold_37 (fun H locs hP hS => ?_)
  rw [← ez4] at hP
  refine lv_aload_n S.1 S.2.1 dX2_hold_40 rfl (lv_at hl 0 rfl) ?_
  refine lv_iconst (v := 0) S.1 S.2.1 dX2_hold_41 (by decide) ?_
  obtain ⟨z5, ez5, h⟩ := bd_s h
  refine pf_2_4 S E hK hP hS hth (Or.inl rfl) mw_1_112 dX2_hold_42 (fun H locs hP hS => ?_)
  rw [← ez5] at hP
  exact pm_vretW S hr hlk hP hS (Option.some.inj h) dX2_hold_45
theorem vm_X2_hold : pm_Vm yX2_hold cX2_hold 2 none 1 := ⟨mw_2_2, mw_2_0, mw_2_1, mw_1_2, by decide, by decide⟩
def g_X7_keepDraft (ev : EV) (z : PS) (th : Nat) : Option (Int32 × PS) := if (16 : Int32) ≤ (r32 z 101 th) then (some ((-1 : Int32), z)) else (ob (g_X0_isWithinBounds ev z (rf ev 102 th)) (fun v2 => if v2 = 0 then (some ((-1 : Int32), z)) else (ck (inB (r32 z 101 th) 16) (ob (g_X2_hold ev z (rh ev (rf ev 100 th) (r32 z 101 th).toNatClampNeg) (rf ev 102 th)) (fun z5 => bd (w32 z5 105 th (-1 : Int32)) (fun z6 => bd (((r32 z6 101 th) + (1 : Int32))) (fun v7 => bd (w32 z6 101 th v7) (fun z8 => some (((r32 z8 101 th) - (1 : Int32)), z8)))))))))
set_option maxRecDepth 20000 in
set_option maxHeartbeats 4000000 in
theorem c_X7_keepDraft (l : Launch) (ev : EV) (z : PS) (E : EWF ev) {th : Nat} (hth : isK ev 5 th) (th_ : Nat) (r : Int32) (z9 : PS) (h : g_X7_keepDraft ev z th = some (r, z9)) : Met l yX7_keepDraft (pWs yX7_keepDraft cX7_keepDraft 1 (some .int)) (pR 4 170) (va_Pc [.ref th] (pPe ev z)) (pQi ev r z9) 0 0 (eA ev) := by
  refine pm_of (by decide) (Nat.le_of_ble_eq_true rfl) ?_
  intro p e s m below meth c S hr hlk hv ls hl
  obtain ⟨hP, hK, hX⟩ := hv
  have hS : SS ev s s.heap [] := va_S.rf
  have hl : lv_has ls 1 [(0, .ref th)] := hl
  unfold g_X7_keepDraft at h
  refine lv_aload_n S.1 S.2.1 dX7_keepDraft_0 rfl (lv_at hl 0 rfl) ?_
  refine gf_5_1 S hK hP hth mw_1_186 dX7_keepDraft_1 ?_
  refine lv_bipush (v := 16) S.1 S.2.1 dX7_keepDraft_4 (by decide) ?_
  refine lv_icmp_ge (tgt := 19) S.1 S.2.1 dX7_keepDraft_6 (by decide) (fun c1 => ?_) (fun c1 => ?_)
  · rw [if_pos c1] at h
    refine lv_iconst (v := -1) S.1 S.2.1 dX7_keepDraft_19 (by decide) ?_
    have h9 := Option.some.inj h
    exact pm_iretW S hr hlk hP hS (congrArg Prod.fst h9) (congrArg Prod.snd h9) dX7_keepDraft_20
  · rw [if_neg c1] at h
    refine lv_aload_n S.1 S.2.1 dX7_keepDraft_9 rfl (lv_at hl 0 rfl) ?_
    refine gf_5_2 S hK hP hth mw_1_187 dX7_keepDraft_10 ?_
    obtain ⟨v2, ev2, h⟩ := ob_s h
    refine pm_cVr (As := []) (rest := []) S hK hX hP hS (c_X0_isWithinBounds l ev z E (E_5_2 E hth) (rf ev 102 th) v2 ev2) vm_X0_isWithinBounds mw_1_232 (rc_0 hK hP (E_5_2 E hth)) ⟨⟨rfl, rfl⟩, by decide, by decide⟩ rfl hl.1 rfl (Nat.le_of_ble_eq_true rfl) ⟨Nat.zero_le _, Nat.zero_le _⟩ dX7_keepDraft_13 ?_
    refine lv_if_ne (tgt := 21) S.1 S.2.1 dX7_keepDraft_16 (by decide) (fun c3 => ?_) (fun c3 => ?_)
    · rw [if_neg c3] at h
      refine lv_aload_n S.1 S.2.1 dX7_keepDraft_21 rfl (lv_at hl 0 rfl) ?_
      refine gf_5_0 S hK hP hth mw_1_185 dX7_keepDraft_22 ?_
      refine lv_aload_n S.1 S.2.1 dX7_keepDraft_25 rfl (lv_at hl 0 rfl) ?_
      refine gf_5_1 S hK hP hth mw_1_186 dX7_keepDraft_26 ?_
      obtain ⟨hc4, h⟩ := ck_s h
      refine al_H S hK hP (E_5_0 E hth) (by rw [N_5_0 E hth]; exact hc4) dX7_keepDraft_29 ?_
      refine lv_aload_n S.1 S.2.1 dX7_keepDraft_30 rfl (lv_at hl 0 rfl) ?_
      refine gf_5_2 S hK hP hth mw_1_187 dX7_keepDraft_31 ?_
      obtain ⟨z5, ez5, h⟩ := ob_s h
      refine pm_cVv (As := [.ref (rf ev 102 th)]) (rest := []) S hK hX hP hS (c_X2_hold l ev z E (E_h E (E_5_0 E hth) (inB_lt hc4)) (E_5_2 E hth) (rh ev (rf ev 100 th) (r32 z 101 th).toNatClampNeg) (rf ev 102 th) z5 ez5) vm_X2_hold mw_1_239 (rc_2 hK hP (E_h E (E_5_0 E hth) (inB_lt hc4))) ⟨⟨rfl, rfl⟩, by decide, by decide⟩ rfl hl.1 rfl (Nat.le_of_ble_eq_true rfl) ⟨Nat.zero_le _, Nat.zero_le _⟩ dX7_keepDraft_34 (fun H locs hP hS => ?_)
      refine lv_aload_n S.1 S.2.1 dX7_keepDraft_37 rfl (lv_at hl 0 rfl) ?_
      refine lv_iconst (v := -1) S.1 S.2.1 dX7_keepDraft_38 (by decide) ?_
      obtain ⟨z6, ez6, h⟩ := bd_s h
      refine pf_5_5 S E hK hP hS hth mw_1_190 dX7_keepDraft_39 (fun H locs hP hS => ?_)
      rw [← ez6] at hP
      refine lv_aload_n S.1 S.2.1 dX7_keepDraft_42 rfl (lv_at hl 0 rfl) ?_
      refine lv_dup S.1 S.2.1 dX7_keepDraft_43 rfl ?_
      refine gf_5_1 S hK hP hth mw_1_186 dX7_keepDraft_44 ?_
      refine lv_iconst (v := 1) S.1 S.2.1 dX7_keepDraft_47 (by decide) ?_
      refine lv_iadd S.1 S.2.1 dX7_keepDraft_48 ?_
      obtain ⟨v7, ev7, h⟩ := bd_s h
      refine pm_nmI ev7 ?_
      obtain ⟨z8, ez8, h⟩ := bd_s h
      refine pf_5_1 S E hK hP hS hth mw_1_186 dX7_keepDraft_49 (fun H locs hP hS => ?_)
      rw [← ez8] at hP
      refine lv_aload_n S.1 S.2.1 dX7_keepDraft_52 rfl (lv_at hl 0 rfl) ?_
      refine gf_5_1 S hK hP hth mw_1_186 dX7_keepDraft_53 ?_
      refine lv_iconst (v := 1) S.1 S.2.1 dX7_keepDraft_56 (by decide) ?_
      refine lv_isub S.1 S.2.1 dX7_keepDraft_57 ?_
      have h9 := Option.some.inj h
      exact pm_iretW S hr hlk hP hS (congrArg Prod.fst h9) (congrArg Prod.snd h9) dX7_keepDraft_58
    · rw [if_pos c3] at h
      refine lv_iconst (v := -1) S.1 S.2.1 dX7_keepDraft_19 (by decide) ?_
      have h9 := Option.some.inj h
      exact pm_iretW S hr hlk hP hS (congrArg Prod.fst h9) (congrArg Prod.snd h9) dX7_keepDraft_20
theorem vm_X7_keepDraft : pm_Vm yX7_keepDraft cX7_keepDraft 1 (some .int) 0 := ⟨mw_1_231, mw_1_230, ms_104, mw_1_1, by decide, by decide⟩
def g_X7_curve (ev : EV) (z : PS) (th : Nat) (l1 : Int32) (l2 : Int32) (l3 : Int32) (l4 : Int32) (l5 : Int32) : Option (Int32 × PS) := ob (g_X7_within (l1.toInt64) (9 : Int64)) (fun v1 => if v1 = 0 then (some ((-1 : Int32), z)) else (ob (g_X7_within (l2.toInt64) (9 : Int64)) (fun v3 => if v3 = 0 then (some ((-1 : Int32), z)) else (ob (g_X7_within (l3.toInt64) (9 : Int64)) (fun v5 => if v5 = 0 then (some ((-1 : Int32), z)) else (ob (g_X7_within (l4.toInt64) (99 : Int64)) (fun v7 => if v7 = 0 then (some ((-1 : Int32), z)) else (ob (g_X7_within (l5.toInt64) (99 : Int64)) (fun v9 => if v9 = 0 then (some ((-1 : Int32), z)) else (ob (g_X0_put ev z (rf ev 102 th) (l1.toInt64) (l2.toInt64) (l3.toInt64) (l4.toInt64) (l5.toInt64)) (fun z11 => if (r64 z11 11 (rf ev 102 th)) = (0 : Int64) then (some ((-1 : Int32), z11)) else (ob (g_X7_keepDraft ev z11 th) (fun qv14 => bd qv14.1 (fun v14 => bd qv14.2 (fun z13 => some (v14, z13))))))))))))))))
set_option maxRecDepth 20000 in
set_option maxHeartbeats 4000000 in
theorem c_X7_curve (l : Launch) (ev : EV) (z : PS) (E : EWF ev) {th : Nat} (hth : isK ev 5 th) (th_ : Nat) (l1 : Int32) (l2 : Int32) (l3 : Int32) (l4 : Int32) (l5 : Int32) (r : Int32) (z9 : PS) (h : g_X7_curve ev z th l1 l2 l3 l4 l5 = some (r, z9)) : Met l yX7_curve (pWs yX7_curve cX7_curve 6 (some .int)) (pR 5 202) (va_Pc [.ref th, .int l1, .int l2, .int l3, .int l4, .int l5] (pPe ev z)) (pQi ev r z9) 0 0 (eA ev) := by
  refine pm_of (by decide) (Nat.le_of_ble_eq_true rfl) ?_
  intro p e s m below meth c S hr hlk hv ls hl
  obtain ⟨hP, hK, hX⟩ := hv
  have hS : SS ev s s.heap [] := va_S.rf
  have hl : lv_has ls 6 [(0, .ref th), (1, .int l1), (2, .int l2), (3, .int l3), (4, .int l4), (5, .int l5)] := hl
  unfold g_X7_curve at h
  refine lv_iload_n S.1 S.2.1 dX7_curve_0 rfl (lv_at hl 1 rfl) ?_
  refine lv_i2l S.1 S.2.1 dX7_curve_1 rfl ?_
  refine pm_ldc2 S mw_1_211 dX7_curve_2 ?_
  obtain ⟨v1, ev1, h⟩ := ob_s h
  refine pm_cS (As := [.long (l1.toInt64), .long (9 : Int64)]) (rest := []) S (c_X7_within l (l1.toInt64) (9 : Int64) v1 ev1) sm_X7_within mw_1_212 ⟨⟨rfl, rfl⟩, by decide, by decide⟩ rfl hl.1 rfl (Nat.le_of_ble_eq_true rfl) ⟨Nat.zero_le _, Nat.zero_le _⟩ dX7_curve_5 ?_
  refine lv_if_eq (tgt := 57) S.1 S.2.1 dX7_curve_8 (by decide) (fun c2 => ?_) (fun c2 => ?_)
  · rw [if_pos c2] at h
    refine lv_iconst (v := -1) S.1 S.2.1 dX7_curve_57 (by decide) ?_
    have h9 := Option.some.inj h
    exact pm_iretW S hr hlk hP hS (congrArg Prod.fst h9) (congrArg Prod.snd h9) dX7_curve_58
  · rw [if_neg c2] at h
    refine lv_iload_n S.1 S.2.1 dX7_curve_11 rfl (lv_at hl 2 rfl) ?_
    refine lv_i2l S.1 S.2.1 dX7_curve_12 rfl ?_
    refine pm_ldc2 S mw_1_211 dX7_curve_13 ?_
    obtain ⟨v3, ev3, h⟩ := ob_s h
    refine pm_cS (As := [.long (l2.toInt64), .long (9 : Int64)]) (rest := []) S (c_X7_within l (l2.toInt64) (9 : Int64) v3 ev3) sm_X7_within mw_1_212 ⟨⟨rfl, rfl⟩, by decide, by decide⟩ rfl hl.1 rfl (Nat.le_of_ble_eq_true rfl) ⟨Nat.zero_le _, Nat.zero_le _⟩ dX7_curve_16 ?_
    refine lv_if_eq (tgt := 57) S.1 S.2.1 dX7_curve_19 (by decide) (fun c4 => ?_) (fun c4 => ?_)
    · rw [if_pos c4] at h
      refine lv_iconst (v := -1) S.1 S.2.1 dX7_curve_57 (by decide) ?_
      have h9 := Option.some.inj h
      exact pm_iretW S hr hlk hP hS (congrArg Prod.fst h9) (congrArg Prod.snd h9) dX7_curve_58
    · rw [if_neg c4] at h
      refine lv_iload_n S.1 S.2.1 dX7_curve_22 rfl (lv_at hl 3 rfl) ?_
      refine lv_i2l S.1 S.2.1 dX7_curve_23 rfl ?_
      refine pm_ldc2 S mw_1_211 dX7_curve_24 ?_
      obtain ⟨v5, ev5, h⟩ := ob_s h
      refine pm_cS (As := [.long (l3.toInt64), .long (9 : Int64)]) (rest := []) S (c_X7_within l (l3.toInt64) (9 : Int64) v5 ev5) sm_X7_within mw_1_212 ⟨⟨rfl, rfl⟩, by decide, by decide⟩ rfl hl.1 rfl (Nat.le_of_ble_eq_true rfl) ⟨Nat.zero_le _, Nat.zero_le _⟩ dX7_curve_27 ?_
      refine lv_if_eq (tgt := 57) S.1 S.2.1 dX7_curve_30 (by decide) (fun c6 => ?_) (fun c6 => ?_)
      · rw [if_pos c6] at h
        refine lv_iconst (v := -1) S.1 S.2.1 dX7_curve_57 (by decide) ?_
        have h9 := Option.some.inj h
        exact pm_iretW S hr hlk hP hS (congrArg Prod.fst h9) (congrArg Prod.snd h9) dX7_curve_58
      · rw [if_neg c6] at h
        refine lv_iload S.1 S.2.1 dX7_curve_33 (lv_at hl 4 rfl) ?_
        refine lv_i2l S.1 S.2.1 dX7_curve_35 rfl ?_
        refine pm_ldc2 S mw_1_215 dX7_curve_36 ?_
        obtain ⟨v7, ev7, h⟩ := ob_s h
        refine pm_cS (As := [.long (l4.toInt64), .long (99 : Int64)]) (rest := []) S (c_X7_within l (l4.toInt64) (99 : Int64) v7 ev7) sm_X7_within mw_1_212 ⟨⟨rfl, rfl⟩, by decide, by decide⟩ rfl hl.1 rfl (Nat.le_of_ble_eq_true rfl) ⟨Nat.zero_le _, Nat.zero_le _⟩ dX7_curve_39 ?_
        refine lv_if_eq (tgt := 57) S.1 S.2.1 dX7_curve_42 (by decide) (fun c8 => ?_) (fun c8 => ?_)
        · rw [if_pos c8] at h
          refine lv_iconst (v := -1) S.1 S.2.1 dX7_curve_57 (by decide) ?_
          have h9 := Option.some.inj h
          exact pm_iretW S hr hlk hP hS (congrArg Prod.fst h9) (congrArg Prod.snd h9) dX7_curve_58
        · rw [if_neg c8] at h
          refine lv_iload S.1 S.2.1 dX7_curve_45 (lv_at hl 5 rfl) ?_
          refine lv_i2l S.1 S.2.1 dX7_curve_47 rfl ?_
          refine pm_ldc2 S mw_1_215 dX7_curve_48 ?_
          obtain ⟨v9, ev9, h⟩ := ob_s h
          refine pm_cS (As := [.long (l5.toInt64), .long (99 : Int64)]) (rest := []) S (c_X7_within l (l5.toInt64) (99 : Int64) v9 ev9) sm_X7_within mw_1_212 ⟨⟨rfl, rfl⟩, by decide, by decide⟩ rfl hl.1 rfl (Nat.le_of_ble_eq_true rfl) ⟨Nat.zero_le _, Nat.zero_le _⟩ dX7_curve_51 ?_
          refine lv_if_ne (tgt := 59) S.1 S.2.1 dX7_curve_54 (by decide) (fun c10 => ?_) (fun c10 => ?_)
          · rw [if_neg c10] at h
            refine lv_aload_n S.1 S.2.1 dX7_curve_59 rfl (lv_at hl 0 rfl) ?_
            refine gf_5_2 S hK hP hth mw_1_187 dX7_curve_60 ?_
            refine lv_iload_n S.1 S.2.1 dX7_curve_63 rfl (lv_at hl 1 rfl) ?_
            refine lv_i2l S.1 S.2.1 dX7_curve_64 rfl ?_
            refine lv_iload_n S.1 S.2.1 dX7_curve_65 rfl (lv_at hl 2 rfl) ?_
            refine lv_i2l S.1 S.2.1 dX7_curve_66 rfl ?_
            refine lv_iload_n S.1 S.2.1 dX7_curve_67 rfl (lv_at hl 3 rfl) ?_
            refine lv_i2l S.1 S.2.1 dX7_curve_68 rfl ?_
            refine lv_iload S.1 S.2.1 dX7_curve_69 (lv_at hl 4 rfl) ?_
            refine lv_i2l S.1 S.2.1 dX7_curve_71 rfl ?_
            refine lv_iload S.1 S.2.1 dX7_curve_72 (lv_at hl 5 rfl) ?_
            refine lv_i2l S.1 S.2.1 dX7_curve_74 rfl ?_
            obtain ⟨z11, ez11, h⟩ := ob_s h
            refine pm_cVv (As := [.long (l1.toInt64), .long (l2.toInt64), .long (l3.toInt64), .long (l4.toInt64), .long (l5.toInt64)]) (rest := []) S hK hX hP hS (c_X0_put l ev z E (E_5_2 E hth) (rf ev 102 th) (l1.toInt64) (l2.toInt64) (l3.toInt64) (l4.toInt64) (l5.toInt64) z11 ez11) vm_X0_put mw_1_216 (rc_0 hK hP (E_5_2 E hth)) ⟨⟨rfl, rfl⟩, by decide, by decide⟩ rfl hl.1 rfl (Nat.le_of_ble_eq_true rfl) ⟨Nat.zero_le _, Nat.zero_le _⟩ dX7_curve_75 (fun H locs hP hS => ?_)
            refine lv_aload_n S.1 S.2.1 dX7_curve_78 rfl (lv_at hl 0 rfl) ?_
            refine gf_5_2 S hK hP hth mw_1_187 dX7_curve_79 ?_
            refine gf_0_11 S hK hP (E_5_2 E hth) mw_1_62 dX7_curve_82 ?_
            refine lv_lconst (v := 0) S.1 S.2.1 dX7_curve_85 (by decide) ?_
            refine pm_lne (tgt := 94) S dX7_curve_86 dX7_curve_87 (by decide) (fun c12 => ?_) (fun c12 => ?_)
            · rw [if_neg c12] at h
              refine lv_aload_n S.1 S.2.1 dX7_curve_94 rfl (lv_at hl 0 rfl) ?_
              obtain ⟨qv14, ev14, h⟩ := ob_s h
              obtain ⟨v14, fv14, h⟩ := bd_s h
              obtain ⟨z13, fz13, h⟩ := bd_s h
              have ev14 : g_X7_keepDraft ev z11 th = some (v14, z13) := by rw [fv14, fz13]; exact ev14
              refine pm_cVi (As := []) (rest := []) S hK hX hP hS (c_X7_keepDraft l ev z11 E hth th v14 z13 ev14) vm_X7_keepDraft mw_1_228 (rc_5 hK hP hth) ⟨⟨rfl, rfl⟩, by decide, by decide⟩ rfl hl.1 rfl (Nat.le_of_ble_eq_true rfl) ⟨Nat.zero_le _, Nat.zero_le _⟩ dX7_curve_95 (fun H locs hP hS => ?_)
              have h9 := Option.some.inj h
              exact pm_iretW S hr hlk hP hS (congrArg Prod.fst h9) (congrArg Prod.snd h9) dX7_curve_98
            · rw [if_pos c12] at h
              refine lv_iconst (v := -1) S.1 S.2.1 dX7_curve_90 (by decide) ?_
              refine lv_goto (tgt := 98) S.1 S.2.1 dX7_curve_91 (by decide) ?_
              have h9 := Option.some.inj h
              exact pm_iretW S hr hlk hP hS (congrArg Prod.fst h9) (congrArg Prod.snd h9) dX7_curve_98
          · rw [if_pos c10] at h
            refine lv_iconst (v := -1) S.1 S.2.1 dX7_curve_57 (by decide) ?_
            have h9 := Option.some.inj h
            exact pm_iretW S hr hlk hP hS (congrArg Prod.fst h9) (congrArg Prod.snd h9) dX7_curve_58
theorem vm_X7_curve : pm_Vm yX7_curve cX7_curve 6 (some .int) 5 := ⟨mw_1_210, mw_1_208, mw_1_209, mw_1_1, by decide, by decide⟩
def g_X7_there (ev : EV) (z : PS) (th : Nat) (l1 : Int32) : Option Int32 := if l1 < 0 then (some (0 : Int32)) else (if (r32 z 101 th) ≤ l1 then (some (0 : Int32)) else (some (1 : Int32)))
set_option maxRecDepth 20000 in
set_option maxHeartbeats 4000000 in
theorem c_X7_there (l : Launch) (ev : EV) (z : PS) (E : EWF ev) {th : Nat} (hth : isK ev 5 th) (th_ : Nat) (l1 : Int32) (r : Int32) (h : g_X7_there ev z th l1 = some r) : Met l yX7_there (pWs yX7_there cX7_there 2 (some .boolean)) (pR 0 0) (va_Pc [.ref th, .int l1] (pPe ev z)) (k2_QcV (.int r)) 0 0 (fun _ => False) := by
  refine pm_of (by decide) (Nat.le_of_ble_eq_true rfl) ?_
  intro p e s m below meth c S hr hlk hv ls hl
  obtain ⟨hP, hK, hX⟩ := hv
  have hl : lv_has ls 2 [(0, .ref th), (1, .int l1)] := hl
  unfold g_X7_there at h
  refine lv_iload_n S.1 S.2.1 dX7_there_0 rfl (lv_at hl 1 rfl) ?_
  refine lv_if_lt (tgt := 16) S.1 S.2.1 dX7_there_1 (by decide) (fun c1 => ?_) (fun c1 => ?_)
  · rw [if_pos c1] at h
    refine lv_iconst (v := 0) S.1 S.2.1 dX7_there_16 (by decide) ?_
    exact pm_zretR S hr hlk (Or.inl rfl) (Option.some.inj h) dX7_there_17
  · rw [if_neg c1] at h
    refine lv_iload_n S.1 S.2.1 dX7_there_4 rfl (lv_at hl 1 rfl) ?_
    refine lv_aload_n S.1 S.2.1 dX7_there_5 rfl (lv_at hl 0 rfl) ?_
    refine gf_5_1 S hK hP hth mw_1_186 dX7_there_6 ?_
    refine lv_icmp_ge (tgt := 16) S.1 S.2.1 dX7_there_9 (by decide) (fun c2 => ?_) (fun c2 => ?_)
    · rw [if_pos c2] at h
      refine lv_iconst (v := 0) S.1 S.2.1 dX7_there_16 (by decide) ?_
      exact pm_zretR S hr hlk (Or.inl rfl) (Option.some.inj h) dX7_there_17
    · rw [if_neg c2] at h
      refine lv_iconst (v := 1) S.1 S.2.1 dX7_there_12 (by decide) ?_
      refine lv_goto (tgt := 17) S.1 S.2.1 dX7_there_13 (by decide) ?_
      exact pm_zretR S hr hlk (Or.inr rfl) (Option.some.inj h) dX7_there_17
theorem vm_X7_there : pm_Vm yX7_there cX7_there 2 (some .boolean) 1 := ⟨mw_2_62, mw_2_61, ms_116, mw_1_1, by decide, by decide⟩
def g_X7_change (ev : EV) (z : PS) (th : Nat) (l1 : Int32) (l2 : Int32) (l3 : Int32) (l4 : Int32) : Option (Int32 × PS) := ob (g_X7_there ev z th l1) (fun v1 => if v1 = 0 then (some ((-1 : Int32), z)) else (ob (g_X7_within (l2.toInt64) (99 : Int64)) (fun v3 => if v3 = 0 then (some ((-1 : Int32), z)) else (ob (g_X7_within (l3.toInt64) (99 : Int64)) (fun v5 => if v5 = 0 then (some ((-1 : Int32), z)) else (ob (g_X7_within (l4.toInt64) (99 : Int64)) (fun v7 => if v7 = 0 then (some ((-1 : Int32), z)) else (ck (inB l1 16) (ob (g_X0_take ev z (rf ev 102 th) (rf ev 40 (rh ev (rf ev 100 th) l1.toNatClampNeg))) (fun z10 => ob (g_X0_shift ev z10 (rf ev 102 th) (l2.toInt64) (l3.toInt64) (l4.toInt64)) (fun z11 => ob (g_X7_keepDraft ev z11 th) (fun qv13 => bd qv13.1 (fun v13 => bd qv13.2 (fun z12 => some (v13, z12)))))))))))))))
set_option maxRecDepth 20000 in
set_option maxHeartbeats 4000000 in
theorem c_X7_change (l : Launch) (ev : EV) (z : PS) (E : EWF ev) {th : Nat} (hth : isK ev 5 th) (th_ : Nat) (l1 : Int32) (l2 : Int32) (l3 : Int32) (l4 : Int32) (r : Int32) (z9 : PS) (h : g_X7_change ev z th l1 l2 l3 l4 = some (r, z9)) : Met l yX7_change (pWs yX7_change cX7_change 5 (some .int)) (pR 5 202) (va_Pc [.ref th, .int l1, .int l2, .int l3, .int l4] (pPe ev z)) (pQi ev r z9) 0 0 (eA ev) := by
  refine pm_of (by decide) (Nat.le_of_ble_eq_true rfl) ?_
  intro p e s m below meth c S hr hlk hv ls hl
  obtain ⟨hP, hK, hX⟩ := hv
  have hS : SS ev s s.heap [] := va_S.rf
  have hl : lv_has ls 5 [(0, .ref th), (1, .int l1), (2, .int l2), (3, .int l3), (4, .int l4)] := hl
  unfold g_X7_change at h
  refine lv_aload_n S.1 S.2.1 dX7_change_0 rfl (lv_at hl 0 rfl) ?_
  refine lv_iload_n S.1 S.2.1 dX7_change_1 rfl (lv_at hl 1 rfl) ?_
  obtain ⟨v1, ev1, h⟩ := ob_s h
  refine pm_cVr (As := [.int l1]) (rest := []) S hK hX hP hS (c_X7_there l ev z E hth th l1 v1 ev1) vm_X7_there mw_2_59 (rc_5 hK hP hth) ⟨⟨rfl, rfl⟩, by decide, by decide⟩ rfl hl.1 rfl (Nat.le_of_ble_eq_true rfl) ⟨Nat.zero_le _, Nat.zero_le _⟩ dX7_change_2 ?_
  refine lv_if_eq (tgt := 42) S.1 S.2.1 dX7_change_5 (by decide) (fun c2 => ?_) (fun c2 => ?_)
  · rw [if_pos c2] at h
    refine lv_iconst (v := -1) S.1 S.2.1 dX7_change_42 (by decide) ?_
    have h9 := Option.some.inj h
    exact pm_iretW S hr hlk hP hS (congrArg Prod.fst h9) (congrArg Prod.snd h9) dX7_change_43
  · rw [if_neg c2] at h
    refine lv_iload_n S.1 S.2.1 dX7_change_8 rfl (lv_at hl 2 rfl) ?_
    refine lv_i2l S.1 S.2.1 dX7_change_9 rfl ?_
    refine pm_ldc2 S mw_1_215 dX7_change_10 ?_
    obtain ⟨v3, ev3, h⟩ := ob_s h
    refine pm_cS (As := [.long (l2.toInt64), .long (99 : Int64)]) (rest := []) S (c_X7_within l (l2.toInt64) (99 : Int64) v3 ev3) sm_X7_within mw_1_212 ⟨⟨rfl, rfl⟩, by decide, by decide⟩ rfl hl.1 rfl (Nat.le_of_ble_eq_true rfl) ⟨Nat.zero_le _, Nat.zero_le _⟩ dX7_change_13 ?_
    refine lv_if_eq (tgt := 42) S.1 S.2.1 dX7_change_16 (by decide) (fun c4 => ?_) (fun c4 => ?_)
    · rw [if_pos c4] at h
      refine lv_iconst (v := -1) S.1 S.2.1 dX7_change_42 (by decide) ?_
      have h9 := Option.some.inj h
      exact pm_iretW S hr hlk hP hS (congrArg Prod.fst h9) (congrArg Prod.snd h9) dX7_change_43
    · rw [if_neg c4] at h
      refine lv_iload_n S.1 S.2.1 dX7_change_19 rfl (lv_at hl 3 rfl) ?_
      refine lv_i2l S.1 S.2.1 dX7_change_20 rfl ?_
      refine pm_ldc2 S mw_1_215 dX7_change_21 ?_
      obtain ⟨v5, ev5, h⟩ := ob_s h
      refine pm_cS (As := [.long (l3.toInt64), .long (99 : Int64)]) (rest := []) S (c_X7_within l (l3.toInt64) (99 : Int64) v5 ev5) sm_X7_within mw_1_212 ⟨⟨rfl, rfl⟩, by decide, by decide⟩ rfl hl.1 rfl (Nat.le_of_ble_eq_true rfl) ⟨Nat.zero_le _, Nat.zero_le _⟩ dX7_change_24 ?_
      refine lv_if_eq (tgt := 42) S.1 S.2.1 dX7_change_27 (by decide) (fun c6 => ?_) (fun c6 => ?_)
      · rw [if_pos c6] at h
        refine lv_iconst (v := -1) S.1 S.2.1 dX7_change_42 (by decide) ?_
        have h9 := Option.some.inj h
        exact pm_iretW S hr hlk hP hS (congrArg Prod.fst h9) (congrArg Prod.snd h9) dX7_change_43
      · rw [if_neg c6] at h
        refine lv_iload S.1 S.2.1 dX7_change_30 (lv_at hl 4 rfl) ?_
        refine lv_i2l S.1 S.2.1 dX7_change_32 rfl ?_
        refine pm_ldc2 S mw_1_215 dX7_change_33 ?_
        obtain ⟨v7, ev7, h⟩ := ob_s h
        refine pm_cS (As := [.long (l4.toInt64), .long (99 : Int64)]) (rest := []) S (c_X7_within l (l4.toInt64) (99 : Int64) v7 ev7) sm_X7_within mw_1_212 ⟨⟨rfl, rfl⟩, by decide, by decide⟩ rfl hl.1 rfl (Nat.le_of_ble_eq_true rfl) ⟨Nat.zero_le _, Nat.zero_le _⟩ dX7_change_36 ?_
        refine lv_if_ne (tgt := 44) S.1 S.2.1 dX7_change_39 (by decide) (fun c8 => ?_) (fun c8 => ?_)
        · rw [if_neg c8] at h
          refine lv_aload_n S.1 S.2.1 dX7_change_44 rfl (lv_at hl 0 rfl) ?_
          refine gf_5_2 S hK hP hth mw_1_187 dX7_change_45 ?_
          refine lv_aload_n S.1 S.2.1 dX7_change_48 rfl (lv_at hl 0 rfl) ?_
          refine gf_5_0 S hK hP hth mw_1_185 dX7_change_49 ?_
          refine lv_iload_n S.1 S.2.1 dX7_change_52 rfl (lv_at hl 1 rfl) ?_
          obtain ⟨hc9, h⟩ := ck_s h
          refine al_H S hK hP (E_5_0 E hth) (by rw [N_5_0 E hth]; exact hc9) dX7_change_53 ?_
          refine gf_2_0 S hK hP (E_h E (E_5_0 E hth) (inB_lt hc9)) mw_1_106 dX7_change_54 ?_
          obtain ⟨z10, ez10, h⟩ := ob_s h
          refine pm_cVv (As := [.ref (rf ev 40 (rh ev (rf ev 100 th) l1.toNatClampNeg))]) (rest := []) S hK hX hP hS (c_X0_take l ev z E (E_5_2 E hth) (E_2_0 E (E_h E (E_5_0 E hth) (inB_lt hc9))) (rf ev 102 th) (rf ev 40 (rh ev (rf ev 100 th) l1.toNatClampNeg)) z10 ez10) vm_X0_take mw_2_63 (rc_0 hK hP (E_5_2 E hth)) ⟨⟨rfl, rfl⟩, by decide, by decide⟩ rfl hl.1 rfl (Nat.le_of_ble_eq_true rfl) ⟨Nat.zero_le _, Nat.zero_le _⟩ dX7_change_57 (fun H locs hP hS => ?_)
          refine lv_aload_n S.1 S.2.1 dX7_change_60 rfl (lv_at hl 0 rfl) ?_
          refine gf_5_2 S hK hP hth mw_1_187 dX7_change_61 ?_
          refine lv_iload_n S.1 S.2.1 dX7_change_64 rfl (lv_at hl 2 rfl) ?_
          refine lv_i2l S.1 S.2.1 dX7_change_65 rfl ?_
          refine lv_iload_n S.1 S.2.1 dX7_change_66 rfl (lv_at hl 3 rfl) ?_
          refine lv_i2l S.1 S.2.1 dX7_change_67 rfl ?_
          refine lv_iload S.1 S.2.1 dX7_change_68 (lv_at hl 4 rfl) ?_
          refine lv_i2l S.1 S.2.1 dX7_change_70 rfl ?_
          obtain ⟨z11, ez11, h⟩ := ob_s h
          refine pm_cVv (As := [.long (l2.toInt64), .long (l3.toInt64), .long (l4.toInt64)]) (rest := []) S hK hX hP hS (c_X0_shift l ev z10 E (E_5_2 E hth) (rf ev 102 th) (l2.toInt64) (l3.toInt64) (l4.toInt64) z11 ez11) vm_X0_shift mw_2_64 (rc_0 hK hP (E_5_2 E hth)) ⟨⟨rfl, rfl⟩, by decide, by decide⟩ rfl hl.1 rfl (Nat.le_of_ble_eq_true rfl) ⟨Nat.zero_le _, Nat.zero_le _⟩ dX7_change_71 (fun H locs hP hS => ?_)
          refine lv_aload_n S.1 S.2.1 dX7_change_74 rfl (lv_at hl 0 rfl) ?_
          obtain ⟨qv13, ev13, h⟩ := ob_s h
          obtain ⟨v13, fv13, h⟩ := bd_s h
          obtain ⟨z12, fz12, h⟩ := bd_s h
          have ev13 : g_X7_keepDraft ev z11 th = some (v13, z12) := by rw [fv13, fz12]; exact ev13
          refine pm_cVi (As := []) (rest := []) S hK hX hP hS (c_X7_keepDraft l ev z11 E hth th v13 z12 ev13) vm_X7_keepDraft mw_1_228 (rc_5 hK hP hth) ⟨⟨rfl, rfl⟩, by decide, by decide⟩ rfl hl.1 rfl (Nat.le_of_ble_eq_true rfl) ⟨Nat.zero_le _, Nat.zero_le _⟩ dX7_change_75 (fun H locs hP hS => ?_)
          have h9 := Option.some.inj h
          exact pm_iretW S hr hlk hP hS (congrArg Prod.fst h9) (congrArg Prod.snd h9) dX7_change_78
        · rw [if_pos c8] at h
          refine lv_iconst (v := -1) S.1 S.2.1 dX7_change_42 (by decide) ?_
          have h9 := Option.some.inj h
          exact pm_iretW S hr hlk hP hS (congrArg Prod.fst h9) (congrArg Prod.snd h9) dX7_change_43
theorem vm_X7_change : pm_Vm yX7_change cX7_change 5 (some .int) 4 := ⟨mw_2_58, mw_2_56, mw_2_57, mw_1_1, by decide, by decide⟩
def g_X7_scale (ev : EV) (z : PS) (th : Nat) (l1 : Int32) (l2 : Int32) (l3 : Int32) : Option (Int32 × PS) := ob (g_X7_there ev z th l1) (fun v1 => if v1 = 0 then (some ((-1 : Int32), z)) else (if l2 < (2 : Int32) then (some ((-1 : Int32), z)) else (if l2 ≤ (9 : Int32) then (ck (inB l1 16) (if l3 = 0 then (ob (g_X0_canShrink ev z (rf ev 40 (rh ev (rf ev 100 th) l1.toNatClampNeg)) (l2.toInt64)) (fun v7 => if v7 = 0 then (some ((-1 : Int32), z)) else (ob (g_X0_shrink ev z (rf ev 102 th) (rf ev 40 (rh ev (rf ev 100 th) l1.toNatClampNeg)) (l2.toInt64)) (fun z9 => ob (g_X7_keepDraft ev z9 th) (fun qv11 => bd qv11.1 (fun v11 => bd qv11.2 (fun z10 => some (v11, z10)))))))) else (ob (g_X4_power (l2.toInt64) (12 : Int32)) (fun v12 => ob (g_X4_quotient (1000000000000000000 : Int64) v12) (fun v13 => if (if 0 < (r64 z 11 (rf ev 40 (rh ev (rf ev 100 th) l1.toNatClampNeg))) then (r64 z 11 (rf ev 40 (rh ev (rf ev 100 th) l1.toNatClampNeg))) else -(r64 z 11 (rf ev 40 (rh ev (rf ev 100 th) l1.toNatClampNeg)))) ≤ v13 then (ob (g_X0_grow ev z (rf ev 102 th) (rf ev 40 (rh ev (rf ev 100 th) l1.toNatClampNeg)) (l2.toInt64)) (fun z15 => ob (g_X7_keepDraft ev z15 th) (fun qv17 => bd qv17.1 (fun v17 => bd qv17.2 (fun z16 => some (v17, z16)))))) else (some ((-1 : Int32), z))))))) else (some ((-1 : Int32), z)))))
set_option maxRecDepth 20000 in
set_option maxHeartbeats 4000000 in
theorem c_X7_scale (l : Launch) (ev : EV) (z : PS) (E : EWF ev) {th : Nat} (hth : isK ev 5 th) (th_ : Nat) (l1 : Int32) (l2 : Int32) (l3 : Int32) (r : Int32) (z9 : PS) (h : g_X7_scale ev z th l1 l2 l3 = some (r, z9)) : Met l yX7_scale (pWs yX7_scale cX7_scale 5 (some .int)) (pR 5 202) (va_Pc [.ref th, .int l1, .int l2, .int l3] (pPe ev z)) (pQi ev r z9) 0 0 (eA ev) := by
  refine pm_of (by decide) (Nat.le_of_ble_eq_true rfl) ?_
  intro p e s m below meth c S hr hlk hv ls hl
  obtain ⟨hP, hK, hX⟩ := hv
  have hS : SS ev s s.heap [] := va_S.rf
  have hl : lv_has ls 5 [(0, .ref th), (1, .int l1), (2, .int l2), (3, .int l3)] := hl
  unfold g_X7_scale at h
  refine lv_aload_n S.1 S.2.1 dX7_scale_0 rfl (lv_at hl 0 rfl) ?_
  refine lv_iload_n S.1 S.2.1 dX7_scale_1 rfl (lv_at hl 1 rfl) ?_
  obtain ⟨v1, ev1, h⟩ := ob_s h
  refine pm_cVr (As := [.int l1]) (rest := []) S hK hX hP hS (c_X7_there l ev z E hth th l1 v1 ev1) vm_X7_there mw_2_59 (rc_5 hK hP hth) ⟨⟨rfl, rfl⟩, by decide, by decide⟩ rfl hl.1 rfl (Nat.le_of_ble_eq_true rfl) ⟨Nat.zero_le _, Nat.zero_le _⟩ dX7_scale_2 ?_
  refine lv_if_eq (tgt := 19) S.1 S.2.1 dX7_scale_5 (by decide) (fun c2 => ?_) (fun c2 => ?_)
  · rw [if_pos c2] at h
    refine lv_iconst (v := -1) S.1 S.2.1 dX7_scale_19 (by decide) ?_
    have h9 := Option.some.inj h
    exact pm_iretW S hr hlk hP hS (congrArg Prod.fst h9) (congrArg Prod.snd h9) dX7_scale_20
  · rw [if_neg c2] at h
    refine lv_iload_n S.1 S.2.1 dX7_scale_8 rfl (lv_at hl 2 rfl) ?_
    refine lv_iconst (v := 2) S.1 S.2.1 dX7_scale_9 (by decide) ?_
    refine lv_icmp_lt (tgt := 19) S.1 S.2.1 dX7_scale_10 (by decide) (fun c3 => ?_) (fun c3 => ?_)
    · rw [if_pos c3] at h
      refine lv_iconst (v := -1) S.1 S.2.1 dX7_scale_19 (by decide) ?_
      have h9 := Option.some.inj h
      exact pm_iretW S hr hlk hP hS (congrArg Prod.fst h9) (congrArg Prod.snd h9) dX7_scale_20
    · rw [if_neg c3] at h
      refine lv_iload_n S.1 S.2.1 dX7_scale_13 rfl (lv_at hl 2 rfl) ?_
      refine lv_bipush (v := 9) S.1 S.2.1 dX7_scale_14 (by decide) ?_
      refine lv_icmp_le (tgt := 21) S.1 S.2.1 dX7_scale_16 (by decide) (fun c4 => ?_) (fun c4 => ?_)
      · rw [if_pos c4] at h
        refine lv_aload_n S.1 S.2.1 dX7_scale_21 rfl (lv_at hl 0 rfl) ?_
        refine gf_5_0 S hK hP hth mw_1_185 dX7_scale_22 ?_
        refine lv_iload_n S.1 S.2.1 dX7_scale_25 rfl (lv_at hl 1 rfl) ?_
        obtain ⟨hc5, h⟩ := ck_s h
        refine al_H S hK hP (E_5_0 E hth) (by rw [N_5_0 E hth]; exact hc5) dX7_scale_26 ?_
        refine gf_2_0 S hK hP (E_h E (E_5_0 E hth) (inB_lt hc5)) mw_1_106 dX7_scale_27 ?_
        refine lv_astore (lv' := [(4, .ref (rf ev 40 (rh ev (rf ev 100 th) l1.toNatClampNeg))), (0, .ref th), (1, .int l1), (2, .int l2), (3, .int l3)]) S.1 S.2.1 dX7_scale_30 hl (by decide) rfl (fun ls hl => ?_)
        refine lv_iload_n S.1 S.2.1 dX7_scale_32 rfl (lv_at hl 4 rfl) ?_
        refine lv_if_eq (tgt := 77) S.1 S.2.1 dX7_scale_33 (by decide) (fun c6 => ?_) (fun c6 => ?_)
        · rw [if_pos c6] at h
          refine lv_aload S.1 S.2.1 dX7_scale_77 (lv_at hl 0 rfl) ?_
          refine lv_iload_n S.1 S.2.1 dX7_scale_79 rfl (lv_at hl 3 rfl) ?_
          refine lv_i2l S.1 S.2.1 dX7_scale_80 rfl ?_
          obtain ⟨v7, ev7, h⟩ := ob_s h
          refine pm_cVr (As := [.long (l2.toInt64)]) (rest := []) S hK hX hP hS (c_X0_canShrink l ev z E (E_2_0 E (E_h E (E_5_0 E hth) (inB_lt hc5))) (rf ev 40 (rh ev (rf ev 100 th) l1.toNatClampNeg)) (l2.toInt64) v7 ev7) vm_X0_canShrink mw_2_83 (rc_0 hK hP (E_2_0 E (E_h E (E_5_0 E hth) (inB_lt hc5)))) ⟨⟨rfl, rfl⟩, by decide, by decide⟩ rfl hl.1 rfl (Nat.le_of_ble_eq_true rfl) ⟨Nat.zero_le _, Nat.zero_le _⟩ dX7_scale_81 ?_
          refine lv_if_ne (tgt := 89) S.1 S.2.1 dX7_scale_84 (by decide) (fun c8 => ?_) (fun c8 => ?_)
          · rw [if_neg c8] at h
            refine lv_aload_n S.1 S.2.1 dX7_scale_89 rfl (lv_at hl 1 rfl) ?_
            refine gf_5_2 S hK hP hth mw_1_187 dX7_scale_90 ?_
            refine lv_aload S.1 S.2.1 dX7_scale_93 (lv_at hl 0 rfl) ?_
            refine lv_iload_n S.1 S.2.1 dX7_scale_95 rfl (lv_at hl 3 rfl) ?_
            refine lv_i2l S.1 S.2.1 dX7_scale_96 rfl ?_
            obtain ⟨z9, ez9, h⟩ := ob_s h
            refine pm_cVv (As := [.ref (rf ev 40 (rh ev (rf ev 100 th) l1.toNatClampNeg)), .long (l2.toInt64)]) (rest := []) S hK hX hP hS (c_X0_shrink l ev z E (E_5_2 E hth) (E_2_0 E (E_h E (E_5_0 E hth) (inB_lt hc5))) (rf ev 102 th) (rf ev 40 (rh ev (rf ev 100 th) l1.toNatClampNeg)) (l2.toInt64) z9 ez9) vm_X0_shrink mw_2_89 (rc_0 hK hP (E_5_2 E hth)) ⟨⟨rfl, rfl⟩, by decide, by decide⟩ rfl hl.1 rfl (Nat.le_of_ble_eq_true rfl) ⟨Nat.zero_le _, Nat.zero_le _⟩ dX7_scale_97 (fun H locs hP hS => ?_)
            refine lv_aload_n S.1 S.2.1 dX7_scale_100 rfl (lv_at hl 1 rfl) ?_
            obtain ⟨qv11, ev11, h⟩ := ob_s h
            obtain ⟨v11, fv11, h⟩ := bd_s h
            obtain ⟨z10, fz10, h⟩ := bd_s h
            have ev11 : g_X7_keepDraft ev z9 th = some (v11, z10) := by rw [fv11, fz10]; exact ev11
            refine pm_cVi (As := []) (rest := []) S hK hX hP hS (c_X7_keepDraft l ev z9 E hth th v11 z10 ev11) vm_X7_keepDraft mw_1_228 (rc_5 hK hP hth) ⟨⟨rfl, rfl⟩, by decide, by decide⟩ rfl hl.1 rfl (Nat.le_of_ble_eq_true rfl) ⟨Nat.zero_le _, Nat.zero_le _⟩ dX7_scale_101 (fun H locs hP hS => ?_)
            have h9 := Option.some.inj h
            exact pm_iretW S hr hlk hP hS (congrArg Prod.fst h9) (congrArg Prod.snd h9) dX7_scale_104
          · rw [if_pos c8] at h
            refine lv_iconst (v := -1) S.1 S.2.1 dX7_scale_87 (by decide) ?_
            have h9 := Option.some.inj h
            exact pm_iretW S hr hlk hP hS (congrArg Prod.fst h9) (congrArg Prod.snd h9) dX7_scale_88
        · rw [if_neg c6] at h
          refine lv_aload S.1 S.2.1 dX7_scale_36 (lv_at hl 0 rfl) ?_
          refine gf_0_11 S hK hP (E_2_0 E (E_h E (E_5_0 E hth) (inB_lt hc5))) mw_1_62 dX7_scale_38 ?_
          refine va_mabs_long S.1 S.2.1 (S.2.2.1.trans hl.1.symm) S.2.2.2.1 (S.2.2.2.2 _ mw_2_73) (S.2.2.2.2 _ mw_2_74) (S.2.2.2.2 _ mw_1_10) (S.2.2.2.2 _ mw_2_75) (by decide) (Nat.le_of_ble_eq_true rfl) (Nat.zero_le _) (Nat.zero_le _) dX7_scale_41 ?_
          refine pm_ldc2 S mw_2_76 dX7_scale_44 ?_
          refine lv_iload_n S.1 S.2.1 dX7_scale_47 rfl (lv_at hl 3 rfl) ?_
          refine lv_i2l S.1 S.2.1 dX7_scale_48 rfl ?_
          refine lv_bipush (v := 12) S.1 S.2.1 dX7_scale_49 (by decide) ?_
          obtain ⟨v12, ev12, h⟩ := ob_s h
          refine pm_cS (As := [.long (l2.toInt64), .int (12 : Int32)]) (rest := [.long (1000000000000000000 : Int64), .long (if 0 < (r64 z 11 (rf ev 40 (rh ev (rf ev 100 th) l1.toNatClampNeg))) then (r64 z 11 (rf ev 40 (rh ev (rf ev 100 th) l1.toNatClampNeg))) else -(r64 z 11 (rf ev 40 (rh ev (rf ev 100 th) l1.toNatClampNeg))))]) S (c_X4_power l (l2.toInt64) (12 : Int32) v12 ev12) sm_X4_power mw_2_77 ⟨⟨rfl, rfl⟩, by decide, by decide⟩ rfl hl.1 rfl (Nat.le_of_ble_eq_true rfl) ⟨Nat.zero_le _, Nat.zero_le _⟩ dX7_scale_51 ?_
          obtain ⟨v13, ev13, h⟩ := ob_s h
          refine pm_cS (As := [.long (1000000000000000000 : Int64), .long v12]) (rest := [.long (if 0 < (r64 z 11 (rf ev 40 (rh ev (rf ev 100 th) l1.toNatClampNeg))) then (r64 z 11 (rf ev 40 (rh ev (rf ev 100 th) l1.toNatClampNeg))) else -(r64 z 11 (rf ev 40 (rh ev (rf ev 100 th) l1.toNatClampNeg))))]) S (c_X4_quotient l (1000000000000000000 : Int64) v12 v13 ev13) sm_X4_quotient mw_2_78 ⟨⟨rfl, rfl⟩, by decide, by decide⟩ rfl hl.1 rfl (Nat.le_of_ble_eq_true rfl) ⟨Nat.zero_le _, Nat.zero_le _⟩ dX7_scale_54 ?_
          refine pm_lle (tgt := 63) S dX7_scale_57 dX7_scale_58 (by decide) (fun c14 => ?_) (fun c14 => ?_)
          · rw [if_pos c14] at h
            refine lv_aload_n S.1 S.2.1 dX7_scale_63 rfl (lv_at hl 1 rfl) ?_
            refine gf_5_2 S hK hP hth mw_1_187 dX7_scale_64 ?_
            refine lv_aload S.1 S.2.1 dX7_scale_67 (lv_at hl 0 rfl) ?_
            refine lv_iload_n S.1 S.2.1 dX7_scale_69 rfl (lv_at hl 3 rfl) ?_
            refine lv_i2l S.1 S.2.1 dX7_scale_70 rfl ?_
            obtain ⟨z15, ez15, h⟩ := ob_s h
            refine pm_cVv (As := [.ref (rf ev 40 (rh ev (rf ev 100 th) l1.toNatClampNeg)), .long (l2.toInt64)]) (rest := []) S hK hX hP hS (c_X0_grow l ev z E (E_5_2 E hth) (E_2_0 E (E_h E (E_5_0 E hth) (inB_lt hc5))) (rf ev 102 th) (rf ev 40 (rh ev (rf ev 100 th) l1.toNatClampNeg)) (l2.toInt64) z15 ez15) vm_X0_grow mw_2_79 (rc_0 hK hP (E_5_2 E hth)) ⟨⟨rfl, rfl⟩, by decide, by decide⟩ rfl hl.1 rfl (Nat.le_of_ble_eq_true rfl) ⟨Nat.zero_le _, Nat.zero_le _⟩ dX7_scale_71 (fun H locs hP hS => ?_)
            refine lv_goto (tgt := 100) S.1 S.2.1 dX7_scale_74 (by decide) ?_
            refine lv_aload_n S.1 S.2.1 dX7_scale_100 rfl (lv_at hl 1 rfl) ?_
            obtain ⟨qv17, ev17, h⟩ := ob_s h
            obtain ⟨v17, fv17, h⟩ := bd_s h
            obtain ⟨z16, fz16, h⟩ := bd_s h
            have ev17 : g_X7_keepDraft ev z15 th = some (v17, z16) := by rw [fv17, fz16]; exact ev17
            refine pm_cVi (As := []) (rest := []) S hK hX hP hS (c_X7_keepDraft l ev z15 E hth th v17 z16 ev17) vm_X7_keepDraft mw_1_228 (rc_5 hK hP hth) ⟨⟨rfl, rfl⟩, by decide, by decide⟩ rfl hl.1 rfl (Nat.le_of_ble_eq_true rfl) ⟨Nat.zero_le _, Nat.zero_le _⟩ dX7_scale_101 (fun H locs hP hS => ?_)
            have h9 := Option.some.inj h
            exact pm_iretW S hr hlk hP hS (congrArg Prod.fst h9) (congrArg Prod.snd h9) dX7_scale_104
          · rw [if_neg c14] at h
            refine lv_iconst (v := -1) S.1 S.2.1 dX7_scale_61 (by decide) ?_
            have h9 := Option.some.inj h
            exact pm_iretW S hr hlk hP hS (congrArg Prod.fst h9) (congrArg Prod.snd h9) dX7_scale_62
      · rw [if_neg c4] at h
        refine lv_iconst (v := -1) S.1 S.2.1 dX7_scale_19 (by decide) ?_
        have h9 := Option.some.inj h
        exact pm_iretW S hr hlk hP hS (congrArg Prod.fst h9) (congrArg Prod.snd h9) dX7_scale_20
theorem vm_X7_scale : pm_Vm yX7_scale cX7_scale 5 (some .int) 3 := ⟨mw_2_72, mw_2_70, mw_2_71, mw_1_1, by decide, by decide⟩
def g_X7_least (ev : EV) (z : PS) (th : Nat) (l1 : Int32) : Option (Int32 × PS) := ob (g_X7_there ev z th l1) (fun v1 => if v1 = 0 then (some ((-1 : Int32), z)) else (ck (inB l1 16) (ob (g_X0_take ev z (rf ev 102 th) (rf ev 41 (rh ev (rf ev 100 th) l1.toNatClampNeg))) (fun z4 => ob (g_X7_keepDraft ev z4 th) (fun qv6 => bd qv6.1 (fun v6 => bd qv6.2 (fun z5 => some (v6, z5))))))))
set_option maxRecDepth 20000 in
set_option maxHeartbeats 4000000 in
theorem c_X7_least (l : Launch) (ev : EV) (z : PS) (E : EWF ev) {th : Nat} (hth : isK ev 5 th) (th_ : Nat) (l1 : Int32) (r : Int32) (z9 : PS) (h : g_X7_least ev z th l1 = some (r, z9)) : Met l yX7_least (pWs yX7_least cX7_least 2 (some .int)) (pR 5 202) (va_Pc [.ref th, .int l1] (pPe ev z)) (pQi ev r z9) 0 0 (eA ev) := by
  refine pm_of (by decide) (Nat.le_of_ble_eq_true rfl) ?_
  intro p e s m below meth c S hr hlk hv ls hl
  obtain ⟨hP, hK, hX⟩ := hv
  have hS : SS ev s s.heap [] := va_S.rf
  have hl : lv_has ls 2 [(0, .ref th), (1, .int l1)] := hl
  unfold g_X7_least at h
  refine lv_aload_n S.1 S.2.1 dX7_least_0 rfl (lv_at hl 0 rfl) ?_
  refine lv_iload_n S.1 S.2.1 dX7_least_1 rfl (lv_at hl 1 rfl) ?_
  obtain ⟨v1, ev1, h⟩ := ob_s h
  refine pm_cVr (As := [.int l1]) (rest := []) S hK hX hP hS (c_X7_there l ev z E hth th l1 v1 ev1) vm_X7_there mw_2_59 (rc_5 hK hP hth) ⟨⟨rfl, rfl⟩, by decide, by decide⟩ rfl hl.1 rfl (Nat.le_of_ble_eq_true rfl) ⟨Nat.zero_le _, Nat.zero_le _⟩ dX7_least_2 ?_
  refine lv_if_ne (tgt := 10) S.1 S.2.1 dX7_least_5 (by decide) (fun c2 => ?_) (fun c2 => ?_)
  · rw [if_neg c2] at h
    refine lv_aload_n S.1 S.2.1 dX7_least_10 rfl (lv_at hl 0 rfl) ?_
    refine gf_5_2 S hK hP hth mw_1_187 dX7_least_11 ?_
    refine lv_aload_n S.1 S.2.1 dX7_least_14 rfl (lv_at hl 0 rfl) ?_
    refine gf_5_0 S hK hP hth mw_1_185 dX7_least_15 ?_
    refine lv_iload_n S.1 S.2.1 dX7_least_18 rfl (lv_at hl 1 rfl) ?_
    obtain ⟨hc3, h⟩ := ck_s h
    refine al_H S hK hP (E_5_0 E hth) (by rw [N_5_0 E hth]; exact hc3) dX7_least_19 ?_
    refine gf_2_1 S hK hP (E_h E (E_5_0 E hth) (inB_lt hc3)) mw_1_108 dX7_least_20 ?_
    obtain ⟨z4, ez4, h⟩ := ob_s h
    refine pm_cVv (As := [.ref (rf ev 41 (rh ev (rf ev 100 th) l1.toNatClampNeg))]) (rest := []) S hK hX hP hS (c_X0_take l ev z E (E_5_2 E hth) (E_2_1 E (E_h E (E_5_0 E hth) (inB_lt hc3))) (rf ev 102 th) (rf ev 41 (rh ev (rf ev 100 th) l1.toNatClampNeg)) z4 ez4) vm_X0_take mw_2_63 (rc_0 hK hP (E_5_2 E hth)) ⟨⟨rfl, rfl⟩, by decide, by decide⟩ rfl hl.1 rfl (Nat.le_of_ble_eq_true rfl) ⟨Nat.zero_le _, Nat.zero_le _⟩ dX7_least_23 (fun H locs hP hS => ?_)
    refine lv_aload_n S.1 S.2.1 dX7_least_26 rfl (lv_at hl 0 rfl) ?_
    obtain ⟨qv6, ev6, h⟩ := ob_s h
    obtain ⟨v6, fv6, h⟩ := bd_s h
    obtain ⟨z5, fz5, h⟩ := bd_s h
    have ev6 : g_X7_keepDraft ev z4 th = some (v6, z5) := by rw [fv6, fz5]; exact ev6
    refine pm_cVi (As := []) (rest := []) S hK hX hP hS (c_X7_keepDraft l ev z4 E hth th v6 z5 ev6) vm_X7_keepDraft mw_1_228 (rc_5 hK hP hth) ⟨⟨rfl, rfl⟩, by decide, by decide⟩ rfl hl.1 rfl (Nat.le_of_ble_eq_true rfl) ⟨Nat.zero_le _, Nat.zero_le _⟩ dX7_least_27 (fun H locs hP hS => ?_)
    have h9 := Option.some.inj h
    exact pm_iretW S hr hlk hP hS (congrArg Prod.fst h9) (congrArg Prod.snd h9) dX7_least_30
  · rw [if_pos c2] at h
    refine lv_iconst (v := -1) S.1 S.2.1 dX7_least_8 (by decide) ?_
    have h9 := Option.some.inj h
    exact pm_iretW S hr hlk hP hS (congrArg Prod.fst h9) (congrArg Prod.snd h9) dX7_least_9
theorem vm_X7_least : pm_Vm yX7_least cX7_least 2 (some .int) 1 := ⟨mw_2_97, mw_2_95, mw_2_96, mw_1_1, by decide, by decide⟩
def q_X7_isTwister_16 (ev : EV) (z : PS) : Nat → Int32 → Int32 → Int32 → Option Int32
  | 0, _, _, _ => none
  | n + 1, l0, l2, l3 => if l2 ≤ l3 then (some (0 : Int32)) else (ck (inB l3 14) (bd ((tw1 l3.toNatClampNeg)) (fun v4 => if l0 = v4 then (some (1 : Int32)) else (bd (l3 + (1 : Int32)) (fun v6 => q_X7_isTwister_16 ev z n l0 l2 v6)))))
set_option maxRecDepth 20000 in
set_option maxHeartbeats 4000000 in
theorem w_X7_isTwister_16 {ev : EV} {z : PS} {p : Program} {l : Launch} {e : Env} {s : State} {m : MethodId} {args : Array Value} {below : List Frame} {meth : Method} {c : Code} {r : Int32} (S : CallFix p m c cX7_isTwister 5 s args gT RX7) (hr : meth.sig.returnType = (some .boolean)) (hlk : meth.locks = false) (E : EWF ev) (hK : KK ev s) (hX : pXt ev s) (hP : Wd ev z s.heap) : ∀ (n : Nat), ∀ (l0 : Int32) (l2 : Int32) (l3 : Int32) (ls : Array Slot), q_X7_isTwister_16 ev z n l0 l2 l3 = some r → lv_has ls 5 [(0, .int l0), (1, .ref (rf ev 900 0)), (2, .int l2), (3, .int l3)] → W p l e (pR 0 0) s m args below meth c s.heap [] 0 0 (MQ below (k2_QcV (.int r)) args s 0 0 (fun _ => False)) (F0 m 16 ls []) := by
  intro n
  induction n with
  | zero => intro l0 l2 l3 ls h; cases h
  | succ n ih =>
    intro l0 l2 l3 ls h hl
    rw [q_X7_isTwister_16] at h
    refine lv_iload_n S.1 S.2.1 dX7_isTwister_16 rfl (lv_at hl 3 rfl) ?_
    refine lv_iload_n S.1 S.2.1 dX7_isTwister_17 rfl (lv_at hl 2 rfl) ?_
    refine lv_icmp_ge (tgt := 40) S.1 S.2.1 dX7_isTwister_18 (by decide) (fun c2 => ?_) (fun c2 => ?_)
    · rw [if_pos c2] at h
      refine lv_iconst (v := 0) S.1 S.2.1 dX7_isTwister_40 (by decide) ?_
      exact pm_zretR S hr hlk (Or.inl rfl) (Option.some.inj h) dX7_isTwister_41
    · rw [if_neg c2] at h
      refine lv_aload_n S.1 S.2.1 dX7_isTwister_21 rfl (lv_at hl 1 rfl) ?_
      refine lv_iload_n S.1 S.2.1 dX7_isTwister_22 rfl (lv_at hl 3 rfl) ?_
      obtain ⟨hc3, h⟩ := ck_s h
      refine va_ti S.1 S.2.1 hX.2.1.2 va_S.rf hc3 (v := .int (tw1 l3.toNatClampNeg)) rfl dX7_isTwister_23 ?_
      obtain ⟨v4, ev4, h⟩ := bd_s h
      refine pm_nmI ev4 ?_
      refine lv_istore (lv' := [(4, .int v4), (0, .int l0), (1, .ref (rf ev 900 0)), (2, .int l2), (3, .int l3)]) S.1 S.2.1 dX7_isTwister_24 hl (by decide) rfl (fun ls hl => ?_)
      refine lv_iload_n S.1 S.2.1 dX7_isTwister_26 rfl (lv_at hl 1 rfl) ?_
      refine lv_iload S.1 S.2.1 dX7_isTwister_27 (lv_at hl 0 rfl) ?_
      refine lv_icmp_ne (tgt := 34) S.1 S.2.1 dX7_isTwister_29 (by decide) (fun c5 => ?_) (fun c5 => ?_)
      · rw [if_neg c5] at h
        obtain ⟨v6, ev6, h⟩ := bd_s h
        refine lv_iinc (v := v6) (lv' := [(3, .int v6), (4, .int v4), (0, .int l0), (1, .ref (rf ev 900 0)), (2, .int l2)]) S.1 S.2.1 dX7_isTwister_34 hl (k := 4) rfl (by rw [ev6]; rfl) (by decide) rfl (fun ls hl => ?_)
        refine lv_goto (tgt := 16) S.1 S.2.1 dX7_isTwister_37 (by decide) ?_
        exact ih l0 l2 v6 ls h (lv_sub hl [2, 3, 4, 0] rfl)
      · rw [if_pos c5] at h
        refine lv_iconst (v := 1) S.1 S.2.1 dX7_isTwister_32 (by decide) ?_
        exact pm_zretR S hr hlk (Or.inr rfl) (Option.some.inj h) dX7_isTwister_33
def g_X7_isTwister (ev : EV) (z : PS) (l0 : Int32) : Option Int32 := if l0 = (1 : Int32) then (some (0 : Int32)) else (q_X7_isTwister_16 ev z FU l0 (14 : Int32) (0 : Int32))
set_option maxRecDepth 20000 in
set_option maxHeartbeats 4000000 in
theorem c_X7_isTwister (l : Launch) (ev : EV) (z : PS) (E : EWF ev) (l0 : Int32) (r : Int32) (h : g_X7_isTwister ev z l0 = some r) : Met l yX7_isTwister (pWs yX7_isTwister cX7_isTwister 5 (some .boolean)) (pR 0 0) (va_Pc [.int l0] (pPe ev z)) (k2_QcV (.int r)) 0 0 (fun _ => False) := by
  refine pm_of (by decide) (Nat.le_of_ble_eq_true rfl) ?_
  intro p e s m below meth c S hr hlk hv ls hl
  obtain ⟨hP, hK, hX⟩ := hv
  have hl : lv_has ls 5 [(0, .int l0)] := hl
  unfold g_X7_isTwister at h
  refine lv_iload_n S.1 S.2.1 dX7_isTwister_0 rfl (lv_at hl 0 rfl) ?_
  refine lv_iconst (v := 1) S.1 S.2.1 dX7_isTwister_1 (by decide) ?_
  refine lv_icmp_ne (tgt := 7) S.1 S.2.1 dX7_isTwister_2 (by decide) (fun c1 => ?_) (fun c1 => ?_)
  · rw [if_neg c1] at h
    refine va_gets S.1 S.2.1 hX.2.1.1 va_S.rf S.2.2.2.1 (S.2.2.2.2 _ mw_2_105) (fun x h9 => h9) dX7_isTwister_7 ?_
    refine lv_astore_n (lv' := [(1, .ref (rf ev 900 0)), (0, .int l0)]) S.1 S.2.1 dX7_isTwister_10 rfl hl (by decide) rfl (fun ls hl => ?_)
    refine lv_aload_n S.1 S.2.1 dX7_isTwister_11 rfl (lv_at hl 0 rfl) ?_
    refine va_tlen (v := 14) S.1 S.2.1 hX.2.1.2 va_S.rf (by decide) dX7_isTwister_12 ?_
    refine lv_istore_n (lv' := [(2, .int (14 : Int32)), (1, .ref (rf ev 900 0)), (0, .int l0)]) S.1 S.2.1 dX7_isTwister_13 rfl hl (by decide) rfl (fun ls hl => ?_)
    refine lv_iconst (v := 0) S.1 S.2.1 dX7_isTwister_14 (by decide) ?_
    refine lv_istore_n (lv' := [(3, .int (0 : Int32)), (2, .int (14 : Int32)), (1, .ref (rf ev 900 0)), (0, .int l0)]) S.1 S.2.1 dX7_isTwister_15 rfl hl (by decide) rfl (fun ls hl => ?_)
    exact w_X7_isTwister_16 S hr hlk E hK hX hP FU l0 (14 : Int32) (0 : Int32) ls h (lv_sub hl [3, 2, 1, 0] rfl)
  · rw [if_pos c1] at h
    refine lv_iconst (v := 0) S.1 S.2.1 dX7_isTwister_5 (by decide) ?_
    exact pm_zretR S hr hlk (Or.inl rfl) (Option.some.inj h) dX7_isTwister_6
theorem sm_X7_isTwister : pm_Sm yX7_isTwister cX7_isTwister 5 (some .boolean) 1 := ⟨mw_2_104, mw_2_103, mw_1_1, by decide, by decide⟩
def g_X7_hasTwists (ev : EV) (z : PS) (th : Nat) (l1 : Int32) : Option Int32 := ck (inB l1 16) (ob (g_X7_within (r64 z 11 (rf ev 41 (rh ev (rf ev 100 th) l1.toNatClampNeg))) (2000000000 : Int64)) (fun v2 => ck (v2 = 0 ∨ v2 = 1) (some v2)))
set_option maxRecDepth 20000 in
set_option maxHeartbeats 4000000 in
theorem c_X7_hasTwists (l : Launch) (ev : EV) (z : PS) (E : EWF ev) {th : Nat} (hth : isK ev 5 th) (th_ : Nat) (l1 : Int32) (r : Int32) (h : g_X7_hasTwists ev z th l1 = some r) : Met l yX7_hasTwists (pWs yX7_hasTwists cX7_hasTwists 2 (some .boolean)) (pR 1 35) (va_Pc [.ref th, .int l1] (pPe ev z)) (k2_QcV (.int r)) 0 0 (fun _ => False) := by
  refine pm_of (by decide) (Nat.le_of_ble_eq_true rfl) ?_
  intro p e s m below meth c S hr hlk hv ls hl
  obtain ⟨hP, hK, hX⟩ := hv
  have hl : lv_has ls 2 [(0, .ref th), (1, .int l1)] := hl
  unfold g_X7_hasTwists at h
  refine lv_aload_n S.1 S.2.1 dX7_hasTwists_0 rfl (lv_at hl 0 rfl) ?_
  refine gf_5_0 S hK hP hth mw_1_185 dX7_hasTwists_1 ?_
  refine lv_iload_n S.1 S.2.1 dX7_hasTwists_4 rfl (lv_at hl 1 rfl) ?_
  obtain ⟨hc1, h⟩ := ck_s h
  refine al_H S hK hP (E_5_0 E hth) (by rw [N_5_0 E hth]; exact hc1) dX7_hasTwists_5 ?_
  refine gf_2_1 S hK hP (E_h E (E_5_0 E hth) (inB_lt hc1)) mw_1_108 dX7_hasTwists_6 ?_
  refine gf_0_11 S hK hP (E_2_1 E (E_h E (E_5_0 E hth) (inB_lt hc1))) mw_1_62 dX7_hasTwists_9 ?_
  refine pm_ldc2 S mw_2_111 dX7_hasTwists_12 ?_
  obtain ⟨v2, ev2, h⟩ := ob_s h
  refine pm_cS (As := [.long (r64 z 11 (rf ev 41 (rh ev (rf ev 100 th) l1.toNatClampNeg))), .long (2000000000 : Int64)]) (rest := []) S (c_X7_within l (r64 z 11 (rf ev 41 (rh ev (rf ev 100 th) l1.toNatClampNeg))) (2000000000 : Int64) v2 ev2) sm_X7_within mw_1_212 ⟨⟨rfl, rfl⟩, by decide, by decide⟩ rfl hl.1 rfl (Nat.le_of_ble_eq_true rfl) ⟨Nat.zero_le _, Nat.zero_le _⟩ dX7_hasTwists_15 ?_
  obtain ⟨hc3, h⟩ := ck_s h
  exact pm_zretR S hr hlk hc3 (Option.some.inj h) dX7_hasTwists_18
theorem vm_X7_hasTwists : pm_Vm yX7_hasTwists cX7_hasTwists 2 (some .boolean) 1 := ⟨mw_2_110, mw_2_109, ms_162, mw_1_1, by decide, by decide⟩
def g_X7_draftTwist (ev : EV) (z : PS) (th : Nat) (l1 : Int32) (l2 : Int32) : Option PS := ck (inB l1 16) (bd (((l2.toInt64) * (l2.toInt64))) (fun v2 => bd (((v2 * v2) * v2)) (fun v3 => ob (g_X3_lower ev z (((16 : Int64) * v2) * (r64 z 9 (rf ev 41 (rh ev (rf ev 100 th) l1.toNatClampNeg)))) ((((64 : Int64) * v2) * (l2.toInt64)) * (r64 z 10 (rf ev 41 (rh ev (rf ev 100 th) l1.toNatClampNeg)))) (((4096 : Int64) * v3) * (r64 z 11 (rf ev 41 (rh ev (rf ev 100 th) l1.toNatClampNeg)))) (rf ev 102 th)) (fun qv5 => bd qv5.1 (fun v5 => bd qv5.2 (fun z4 => some z4))))))
set_option maxRecDepth 20000 in
set_option maxHeartbeats 4000000 in
theorem c_X7_draftTwist (l : Launch) (ev : EV) (z : PS) (E : EWF ev) {th : Nat} (hth : isK ev 5 th) (th_ : Nat) (l1 : Int32) (l2 : Int32) (z9 : PS) (h : g_X7_draftTwist ev z th l1 l2 = some z9) : Met l yX7_draftTwist (pWs yX7_draftTwist cX7_draftTwist 8 none) (pR 3 137) (va_Pc [.ref th, .int l1, .int l2] (pPe ev z)) (pQv ev z9) 0 0 (eA ev) := by
  refine pm_of (by decide) (Nat.le_of_ble_eq_true rfl) ?_
  intro p e s m below meth c S hr hlk hv ls hl
  obtain ⟨hP, hK, hX⟩ := hv
  have hS : SS ev s s.heap [] := va_S.rf
  have hl : lv_has ls 8 [(0, .ref th), (1, .int l1), (2, .int l2)] := hl
  unfold g_X7_draftTwist at h
  refine lv_aload_n S.1 S.2.1 dX7_draftTwist_0 rfl (lv_at hl 0 rfl) ?_
  refine gf_5_0 S hK hP hth mw_1_185 dX7_draftTwist_1 ?_
  refine lv_iload_n S.1 S.2.1 dX7_draftTwist_4 rfl (lv_at hl 1 rfl) ?_
  obtain ⟨hc1, h⟩ := ck_s h
  refine al_H S hK hP (E_5_0 E hth) (by rw [N_5_0 E hth]; exact hc1) dX7_draftTwist_5 ?_
  refine gf_2_1 S hK hP (E_h E (E_5_0 E hth) (inB_lt hc1)) mw_1_108 dX7_draftTwist_6 ?_
  refine lv_astore_n (lv' := [(3, .ref (rf ev 41 (rh ev (rf ev 100 th) l1.toNatClampNeg))), (0, .ref th), (1, .int l1), (2, .int l2)]) S.1 S.2.1 dX7_draftTwist_9 rfl hl (by decide) rfl (fun ls hl => ?_)
  refine lv_iload_n S.1 S.2.1 dX7_draftTwist_10 rfl (lv_at hl 3 rfl) ?_
  refine lv_i2l S.1 S.2.1 dX7_draftTwist_11 rfl ?_
  refine lv_iload_n S.1 S.2.1 dX7_draftTwist_12 rfl (lv_at hl 3 rfl) ?_
  refine lv_i2l S.1 S.2.1 dX7_draftTwist_13 rfl ?_
  refine lv_lmul S.1 S.2.1 dX7_draftTwist_14 ?_
  obtain ⟨v2, ev2, h⟩ := bd_s h
  refine pm_nmL ev2 ?_
  refine lv_lstore (lv' := [(4, .long v2), (3, .ref (rf ev 41 (rh ev (rf ev 100 th) l1.toNatClampNeg))), (0, .ref th), (1, .int l1), (2, .int l2)]) S.1 S.2.1 dX7_draftTwist_15 hl (by decide) rfl (fun ls hl => ?_)
  refine lv_lload S.1 S.2.1 dX7_draftTwist_17 (lv_at hl 0 rfl) ?_
  refine lv_lload S.1 S.2.1 dX7_draftTwist_19 (lv_at hl 0 rfl) ?_
  refine lv_lmul S.1 S.2.1 dX7_draftTwist_21 ?_
  refine lv_lload S.1 S.2.1 dX7_draftTwist_22 (lv_at hl 0 rfl) ?_
  refine lv_lmul S.1 S.2.1 dX7_draftTwist_24 ?_
  obtain ⟨v3, ev3, h⟩ := bd_s h
  refine pm_nmL ev3 ?_
  refine lv_lstore (lv' := [(6, .long v3), (4, .long v2), (3, .ref (rf ev 41 (rh ev (rf ev 100 th) l1.toNatClampNeg))), (0, .ref th), (1, .int l1), (2, .int l2)]) S.1 S.2.1 dX7_draftTwist_25 hl (by decide) rfl (fun ls hl => ?_)
  refine pm_ldc2 S mw_2_116 dX7_draftTwist_27 ?_
  refine lv_lload S.1 S.2.1 dX7_draftTwist_30 (lv_at hl 1 rfl) ?_
  refine lv_lmul S.1 S.2.1 dX7_draftTwist_32 ?_
  refine lv_aload_n S.1 S.2.1 dX7_draftTwist_33 rfl (lv_at hl 2 rfl) ?_
  refine gf_0_9 S hK hP (E_2_1 E (E_h E (E_5_0 E hth) (inB_lt hc1))) mw_1_56 dX7_draftTwist_34 ?_
  refine lv_lmul S.1 S.2.1 dX7_draftTwist_37 ?_
  refine pm_ldc2 S mw_2_117 dX7_draftTwist_38 ?_
  refine lv_lload S.1 S.2.1 dX7_draftTwist_41 (lv_at hl 1 rfl) ?_
  refine lv_lmul S.1 S.2.1 dX7_draftTwist_43 ?_
  refine lv_iload_n S.1 S.2.1 dX7_draftTwist_44 rfl (lv_at hl 5 rfl) ?_
  refine lv_i2l S.1 S.2.1 dX7_draftTwist_45 rfl ?_
  refine lv_lmul S.1 S.2.1 dX7_draftTwist_46 ?_
  refine lv_aload_n S.1 S.2.1 dX7_draftTwist_47 rfl (lv_at hl 2 rfl) ?_
  refine gf_0_10 S hK hP (E_2_1 E (E_h E (E_5_0 E hth) (inB_lt hc1))) mw_1_60 dX7_draftTwist_48 ?_
  refine lv_lmul S.1 S.2.1 dX7_draftTwist_51 ?_
  refine pm_ldc2 S mw_2_118 dX7_draftTwist_52 ?_
  refine lv_lload S.1 S.2.1 dX7_draftTwist_55 (lv_at hl 0 rfl) ?_
  refine lv_lmul S.1 S.2.1 dX7_draftTwist_57 ?_
  refine lv_aload_n S.1 S.2.1 dX7_draftTwist_58 rfl (lv_at hl 2 rfl) ?_
  refine gf_0_11 S hK hP (E_2_1 E (E_h E (E_5_0 E hth) (inB_lt hc1))) mw_1_62 dX7_draftTwist_59 ?_
  refine lv_lmul S.1 S.2.1 dX7_draftTwist_62 ?_
  refine lv_aload_n S.1 S.2.1 dX7_draftTwist_63 rfl (lv_at hl 3 rfl) ?_
  refine gf_5_2 S hK hP hth mw_1_187 dX7_draftTwist_64 ?_
  obtain ⟨qv5, ev5, h⟩ := ob_s h
  obtain ⟨v5, fv5, h⟩ := bd_s h
  obtain ⟨z4, fz4, h⟩ := bd_s h
  have ev5 : g_X3_lower ev z (((16 : Int64) * v2) * (r64 z 9 (rf ev 41 (rh ev (rf ev 100 th) l1.toNatClampNeg)))) ((((64 : Int64) * v2) * (l2.toInt64)) * (r64 z 10 (rf ev 41 (rh ev (rf ev 100 th) l1.toNatClampNeg)))) (((4096 : Int64) * v3) * (r64 z 11 (rf ev 41 (rh ev (rf ev 100 th) l1.toNatClampNeg)))) (rf ev 102 th) = some (v5, z4) := by rw [fv5, fz4]; exact ev5
  refine pm_cSl (As := [.long (((16 : Int64) * v2) * (r64 z 9 (rf ev 41 (rh ev (rf ev 100 th) l1.toNatClampNeg)))), .long ((((64 : Int64) * v2) * (l2.toInt64)) * (r64 z 10 (rf ev 41 (rh ev (rf ev 100 th) l1.toNatClampNeg)))), .long (((4096 : Int64) * v3) * (r64 z 11 (rf ev 41 (rh ev (rf ev 100 th) l1.toNatClampNeg)))), .ref (rf ev 102 th)]) (rest := []) S hK hX hP hS (c_X3_lower l ev z E (E_5_2 E hth) (((16 : Int64) * v2) * (r64 z 9 (rf ev 41 (rh ev (rf ev 100 th) l1.toNatClampNeg)))) ((((64 : Int64) * v2) * (l2.toInt64)) * (r64 z 10 (rf ev 41 (rh ev (rf ev 100 th) l1.toNatClampNeg)))) (((4096 : Int64) * v3) * (r64 z 11 (rf ev 41 (rh ev (rf ev 100 th) l1.toNatClampNeg)))) (rf ev 102 th) v5 z4 ev5) sm_X3_lower mw_2_119 ⟨⟨rfl, rfl⟩, by decide, by decide⟩ rfl hl.1 rfl (Nat.le_of_ble_eq_true rfl) ⟨Nat.zero_le _, Nat.zero_le _⟩ dX7_draftTwist_67 (fun H locs hP hS => ?_)
  refine lv_pop2_2 S.1 S.2.1 dX7_draftTwist_70 rfl ?_
  exact pm_vretW S hr hlk hP hS (Option.some.inj h) dX7_draftTwist_71
theorem vm_X7_draftTwist : pm_Vm yX7_draftTwist cX7_draftTwist 8 none 2 := ⟨mw_2_115, mw_2_114, ms_171, mw_1_1, by decide, by decide⟩
def g_X7_twist (ev : EV) (z : PS) (th : Nat) (l1 : Int32) (l2 : Int32) : Option (Int32 × PS) := ob (g_X7_there ev z th l1) (fun v1 => if v1 = 0 then (some ((-1 : Int32), z)) else (ob (g_X7_isTwister ev z l2) (fun v3 => if v3 = 0 then (some ((-1 : Int32), z)) else (ob (g_X7_hasTwists ev z th l1) (fun v5 => if v5 = 0 then (some ((-1 : Int32), z)) else (ob (g_X7_draftTwist ev z th l1 l2) (fun z7 => ob (g_X7_keepDraft ev z7 th) (fun qv9 => bd qv9.1 (fun v9 => bd qv9.2 (fun z8 => some (v9, z8)))))))))))
set_option maxRecDepth 20000 in
set_option maxHeartbeats 4000000 in
theorem c_X7_twist (l : Launch) (ev : EV) (z : PS) (E : EWF ev) {th : Nat} (hth : isK ev 5 th) (th_ : Nat) (l1 : Int32) (l2 : Int32) (r : Int32) (z9 : PS) (h : g_X7_twist ev z th l1 l2 = some (r, z9)) : Met l yX7_twist (pWs yX7_twist cX7_twist 3 (some .int)) (pR 5 202) (va_Pc [.ref th, .int l1, .int l2] (pPe ev z)) (pQi ev r z9) 0 0 (eA ev) := by
  refine pm_of (by decide) (Nat.le_of_ble_eq_true rfl) ?_
  intro p e s m below meth c S hr hlk hv ls hl
  obtain ⟨hP, hK, hX⟩ := hv
  have hS : SS ev s s.heap [] := va_S.rf
  have hl : lv_has ls 3 [(0, .ref th), (1, .int l1), (2, .int l2)] := hl
  unfold g_X7_twist at h
  refine lv_aload_n S.1 S.2.1 dX7_twist_0 rfl (lv_at hl 0 rfl) ?_
  refine lv_iload_n S.1 S.2.1 dX7_twist_1 rfl (lv_at hl 1 rfl) ?_
  obtain ⟨v1, ev1, h⟩ := ob_s h
  refine pm_cVr (As := [.int l1]) (rest := []) S hK hX hP hS (c_X7_there l ev z E hth th l1 v1 ev1) vm_X7_there mw_2_59 (rc_5 hK hP hth) ⟨⟨rfl, rfl⟩, by decide, by decide⟩ rfl hl.1 rfl (Nat.le_of_ble_eq_true rfl) ⟨Nat.zero_le _, Nat.zero_le _⟩ dX7_twist_2 ?_
  refine lv_if_eq (tgt := 23) S.1 S.2.1 dX7_twist_5 (by decide) (fun c2 => ?_) (fun c2 => ?_)
  · rw [if_pos c2] at h
    refine lv_iconst (v := -1) S.1 S.2.1 dX7_twist_23 (by decide) ?_
    have h9 := Option.some.inj h
    exact pm_iretW S hr hlk hP hS (congrArg Prod.fst h9) (congrArg Prod.snd h9) dX7_twist_24
  · rw [if_neg c2] at h
    refine lv_iload_n S.1 S.2.1 dX7_twist_8 rfl (lv_at hl 2 rfl) ?_
    obtain ⟨v3, ev3, h⟩ := ob_s h
    refine pm_cSr (As := [.int l2]) (rest := []) S hK hX hP hS (c_X7_isTwister l ev z E l2 v3 ev3) sm_X7_isTwister mw_2_102 ⟨⟨rfl, rfl⟩, by decide, by decide⟩ rfl hl.1 rfl (Nat.le_of_ble_eq_true rfl) ⟨Nat.zero_le _, Nat.zero_le _⟩ dX7_twist_9 ?_
    refine lv_if_eq (tgt := 23) S.1 S.2.1 dX7_twist_12 (by decide) (fun c4 => ?_) (fun c4 => ?_)
    · rw [if_pos c4] at h
      refine lv_iconst (v := -1) S.1 S.2.1 dX7_twist_23 (by decide) ?_
      have h9 := Option.some.inj h
      exact pm_iretW S hr hlk hP hS (congrArg Prod.fst h9) (congrArg Prod.snd h9) dX7_twist_24
    · rw [if_neg c4] at h
      refine lv_aload_n S.1 S.2.1 dX7_twist_15 rfl (lv_at hl 0 rfl) ?_
      refine lv_iload_n S.1 S.2.1 dX7_twist_16 rfl (lv_at hl 1 rfl) ?_
      obtain ⟨v5, ev5, h⟩ := ob_s h
      refine pm_cVr (As := [.int l1]) (rest := []) S hK hX hP hS (c_X7_hasTwists l ev z E hth th l1 v5 ev5) vm_X7_hasTwists mw_2_107 (rc_5 hK hP hth) ⟨⟨rfl, rfl⟩, by decide, by decide⟩ rfl hl.1 rfl (Nat.le_of_ble_eq_true rfl) ⟨Nat.zero_le _, Nat.zero_le _⟩ dX7_twist_17 ?_
      refine lv_if_ne (tgt := 25) S.1 S.2.1 dX7_twist_20 (by decide) (fun c6 => ?_) (fun c6 => ?_)
      · rw [if_neg c6] at h
        refine lv_aload_n S.1 S.2.1 dX7_twist_25 rfl (lv_at hl 0 rfl) ?_
        refine lv_iload_n S.1 S.2.1 dX7_twist_26 rfl (lv_at hl 1 rfl) ?_
        refine lv_iload_n S.1 S.2.1 dX7_twist_27 rfl (lv_at hl 2 rfl) ?_
        obtain ⟨z7, ez7, h⟩ := ob_s h
        refine pm_cVv (As := [.int l1, .int l2]) (rest := []) S hK hX hP hS (c_X7_draftTwist l ev z E hth th l1 l2 z7 ez7) vm_X7_draftTwist mw_2_112 (rc_5 hK hP hth) ⟨⟨rfl, rfl⟩, by decide, by decide⟩ rfl hl.1 rfl (Nat.le_of_ble_eq_true rfl) ⟨Nat.zero_le _, Nat.zero_le _⟩ dX7_twist_28 (fun H locs hP hS => ?_)
        refine lv_aload_n S.1 S.2.1 dX7_twist_31 rfl (lv_at hl 0 rfl) ?_
        obtain ⟨qv9, ev9, h⟩ := ob_s h
        obtain ⟨v9, fv9, h⟩ := bd_s h
        obtain ⟨z8, fz8, h⟩ := bd_s h
        have ev9 : g_X7_keepDraft ev z7 th = some (v9, z8) := by rw [fv9, fz8]; exact ev9
        refine pm_cVi (As := []) (rest := []) S hK hX hP hS (c_X7_keepDraft l ev z7 E hth th v9 z8 ev9) vm_X7_keepDraft mw_1_228 (rc_5 hK hP hth) ⟨⟨rfl, rfl⟩, by decide, by decide⟩ rfl hl.1 rfl (Nat.le_of_ble_eq_true rfl) ⟨Nat.zero_le _, Nat.zero_le _⟩ dX7_twist_32 (fun H locs hP hS => ?_)
        have h9 := Option.some.inj h
        exact pm_iretW S hr hlk hP hS (congrArg Prod.fst h9) (congrArg Prod.snd h9) dX7_twist_35
      · rw [if_pos c6] at h
        refine lv_iconst (v := -1) S.1 S.2.1 dX7_twist_23 (by decide) ?_
        have h9 := Option.some.inj h
        exact pm_iretW S hr hlk hP hS (congrArg Prod.fst h9) (congrArg Prod.snd h9) dX7_twist_24
theorem vm_X7_twist : pm_Vm yX7_twist cX7_twist 3 (some .int) 2 := ⟨mw_2_101, mw_2_99, mw_2_100, mw_1_1, by decide, by decide⟩
def g_X7_drop (ev : EV) (z : PS) (th : Nat) : Option (Int32 × PS) := if (r32 z 101 th) = 0 then (some ((-1 : Int32), z)) else (bd (((r32 z 101 th) - (1 : Int32))) (fun v2 => bd (w32 z 101 th v2) (fun z3 => bd (w32 z3 105 th (-1 : Int32)) (fun z4 => some ((r32 z4 101 th), z4)))))
set_option maxRecDepth 20000 in
set_option maxHeartbeats 4000000 in
theorem c_X7_drop (l : Launch) (ev : EV) (z : PS) (E : EWF ev) {th : Nat} (hth : isK ev 5 th) (th_ : Nat) (r : Int32) (z9 : PS) (h : g_X7_drop ev z th = some (r, z9)) : Met l yX7_drop (pWs yX7_drop cX7_drop 1 (some .int)) (pR 0 0) (va_Pc [.ref th] (pPe ev z)) (pQi ev r z9) 0 0 (eA ev) := by
  refine pm_of (by decide) (Nat.le_of_ble_eq_true rfl) ?_
  intro p e s m below meth c S hr hlk hv ls hl
  obtain ⟨hP, hK, hX⟩ := hv
  have hS : SS ev s s.heap [] := va_S.rf
  have hl : lv_has ls 1 [(0, .ref th)] := hl
  unfold g_X7_drop at h
  refine lv_aload_n S.1 S.2.1 dX7_drop_0 rfl (lv_at hl 0 rfl) ?_
  refine gf_5_1 S hK hP hth mw_1_186 dX7_drop_1 ?_
  refine lv_if_ne (tgt := 9) S.1 S.2.1 dX7_drop_4 (by decide) (fun c1 => ?_) (fun c1 => ?_)
  · rw [if_neg c1] at h
    refine lv_aload_n S.1 S.2.1 dX7_drop_9 rfl (lv_at hl 0 rfl) ?_
    refine lv_dup S.1 S.2.1 dX7_drop_10 rfl ?_
    refine gf_5_1 S hK hP hth mw_1_186 dX7_drop_11 ?_
    refine lv_iconst (v := 1) S.1 S.2.1 dX7_drop_14 (by decide) ?_
    refine lv_isub S.1 S.2.1 dX7_drop_15 ?_
    obtain ⟨v2, ev2, h⟩ := bd_s h
    refine pm_nmI ev2 ?_
    obtain ⟨z3, ez3, h⟩ := bd_s h
    refine pf_5_1 S E hK hP hS hth mw_1_186 dX7_drop_16 (fun H locs hP hS => ?_)
    rw [← ez3] at hP
    refine lv_aload_n S.1 S.2.1 dX7_drop_19 rfl (lv_at hl 0 rfl) ?_
    refine lv_iconst (v := -1) S.1 S.2.1 dX7_drop_20 (by decide) ?_
    obtain ⟨z4, ez4, h⟩ := bd_s h
    refine pf_5_5 S E hK hP hS hth mw_1_190 dX7_drop_21 (fun H locs hP hS => ?_)
    rw [← ez4] at hP
    refine lv_aload_n S.1 S.2.1 dX7_drop_24 rfl (lv_at hl 0 rfl) ?_
    refine gf_5_1 S hK hP hth mw_1_186 dX7_drop_25 ?_
    have h9 := Option.some.inj h
    exact pm_iretW S hr hlk hP hS (congrArg Prod.fst h9) (congrArg Prod.snd h9) dX7_drop_28
  · rw [if_pos c1] at h
    refine lv_iconst (v := -1) S.1 S.2.1 dX7_drop_7 (by decide) ?_
    have h9 := Option.some.inj h
    exact pm_iretW S hr hlk hP hS (congrArg Prod.fst h9) (congrArg Prod.snd h9) dX7_drop_8
theorem vm_X7_drop : pm_Vm yX7_drop cX7_drop 1 (some .int) 0 := ⟨mw_2_123, mw_2_121, mw_2_122, mw_1_1, by decide, by decide⟩
def g_X1_tell (ev : EV) (z : PS) (th : Nat) (l1 : Int32) (l2 : Int32) (l3 : Int32) (l4 : Int32) : Option PS := bd (w32 z 20 th l1) (fun z1 => bd (w32 z1 21 th (0 : Int32)) (fun z2 => bd (w32 z2 22 th l2) (fun z3 => bd (w32 z3 23 th l3) (fun z4 => bd (w32 z4 24 th l4) (fun z5 => some z5)))))
set_option maxRecDepth 20000 in
set_option maxHeartbeats 4000000 in
theorem c_X1_tell (l : Launch) (ev : EV) (z : PS) (E : EWF ev) {th : Nat} (hth : isK ev 1 th) (th_ : Nat) (l1 : Int32) (l2 : Int32) (l3 : Int32) (l4 : Int32) (z9 : PS) (h : g_X1_tell ev z th l1 l2 l3 l4 = some z9) : Met l yX1_tell (pWs yX1_tell cX1_tell 5 none) (pR 0 0) (va_Pc [.ref th, .int l1, .int l2, .int l3, .int l4] (pPe ev z)) (pQv ev z9) 0 0 (eA ev) := by
  refine pm_of (by decide) (Nat.le_of_ble_eq_true rfl) ?_
  intro p e s m below meth c S hr hlk hv ls hl
  obtain ⟨hP, hK, hX⟩ := hv
  have hS : SS ev s s.heap [] := va_S.rf
  have hl : lv_has ls 5 [(0, .ref th), (1, .int l1), (2, .int l2), (3, .int l3), (4, .int l4)] := hl
  unfold g_X1_tell at h
  refine lv_aload_n S.1 S.2.1 dX1_tell_0 rfl (lv_at hl 0 rfl) ?_
  refine lv_iload_n S.1 S.2.1 dX1_tell_1 rfl (lv_at hl 1 rfl) ?_
  obtain ⟨z1, ez1, h⟩ := bd_s h
  refine pf_1_0 S E hK hP hS hth mw_1_134 dX1_tell_2 (fun H locs hP hS => ?_)
  rw [← ez1] at hP
  refine lv_aload_n S.1 S.2.1 dX1_tell_5 rfl (lv_at hl 0 rfl) ?_
  refine lv_iconst (v := 0) S.1 S.2.1 dX1_tell_6 (by decide) ?_
  obtain ⟨z2, ez2, h⟩ := bd_s h
  refine pf_1_1 S E hK hP hS hth mw_1_136 dX1_tell_7 (fun H locs hP hS => ?_)
  rw [← ez2] at hP
  refine lv_aload_n S.1 S.2.1 dX1_tell_10 rfl (lv_at hl 0 rfl) ?_
  refine lv_iload_n S.1 S.2.1 dX1_tell_11 rfl (lv_at hl 2 rfl) ?_
  obtain ⟨z3, ez3, h⟩ := bd_s h
  refine pf_1_2 S E hK hP hS hth mw_1_137 dX1_tell_12 (fun H locs hP hS => ?_)
  rw [← ez3] at hP
  refine lv_aload_n S.1 S.2.1 dX1_tell_15 rfl (lv_at hl 0 rfl) ?_
  refine lv_iload_n S.1 S.2.1 dX1_tell_16 rfl (lv_at hl 3 rfl) ?_
  obtain ⟨z4, ez4, h⟩ := bd_s h
  refine pf_1_3 S E hK hP hS hth mw_1_139 dX1_tell_17 (fun H locs hP hS => ?_)
  rw [← ez4] at hP
  refine lv_aload_n S.1 S.2.1 dX1_tell_20 rfl (lv_at hl 0 rfl) ?_
  refine lv_iload S.1 S.2.1 dX1_tell_21 (lv_at hl 4 rfl) ?_
  obtain ⟨z5, ez5, h⟩ := bd_s h
  refine pf_1_4 S E hK hP hS hth mw_1_140 dX1_tell_23 (fun H locs hP hS => ?_)
  rw [← ez5] at hP
  exact pm_vretW S hr hlk hP hS (Option.some.inj h) dX1_tell_26
theorem vm_X1_tell : pm_Vm yX1_tell cX1_tell 5 none 4 := ⟨mw_2_142, mw_2_141, ms_194, mw_1_5, by decide, by decide⟩
def q_X1_tellNode_67 (ev : EV) (th : Nat) (l1 : Nat) (t0 : Int32) (z : PS) : Option PS := if (r32 z 26 th) = 0 then (ob (g_X1_tell ev z th (1 : Int32) (1 : Int32) (r32 z 25 th) t0) (fun z9 => bd ((r32 z9 25 th)) (fun v10 => bd (w32 z9 21 th v10) (fun z11 => some z11)))) else (ob (g_X1_tell ev z th (1 : Int32) (1 : Int32) (r32 z 25 th) (r32 z 25 th)) (fun z12 => bd ((r32 z12 25 th)) (fun v13 => bd (w32 z12 21 th v13) (fun z14 => some z14))))
set_option maxRecDepth 20000 in
set_option maxHeartbeats 4000000 in
theorem w_X1_tellNode_67 {ev : EV} {th : Nat} {l1 : Nat} {p : Program} {l : Launch} {e : Env} {s : State} {m : MethodId} {args : Array Value} {below : List Frame} {meth : Method} {c : Code} {z9 : PS} (S : CallFix p m c cX1_tellNode 3 s args gT RX1) (hr : meth.sig.returnType = none) (hlk : meth.locks = false) (E : EWF ev) (hK : KK ev s) (hX : pXt ev s) (hth : isK ev 1 th) (hl1 : isK ev 0 l1) : ∀ (t0 : Int32) (z : PS) (ls : Array Slot) (H : Heap) (locs : List Loc), q_X1_tellNode_67 ev th l1 t0 z = some z9 → lv_has ls 3 [(0, .ref th)] → Wd ev z H → SS ev s H locs → W p l e (pR 2 78) s m args below meth c H locs 0 0 (MQ below (pQv ev z9) args s 0 0 (eA ev)) (F0 m 67 ls [.int t0]) := by
  intro t0 z ls H locs h hl hP hS
  unfold q_X1_tellNode_67 at h
  refine lv_istore_n (lv' := [(2, .int t0), (0, .ref th)]) S.1 S.2.1 dX1_tellNode_67 rfl hl (by decide) rfl (fun ls hl => ?_)
  refine lv_aload_n S.1 S.2.1 dX1_tellNode_68 rfl (lv_at hl 1 rfl) ?_
  refine lv_iconst (v := 1) S.1 S.2.1 dX1_tellNode_69 (by decide) ?_
  refine lv_iconst (v := 1) S.1 S.2.1 dX1_tellNode_70 (by decide) ?_
  refine lv_aload_n S.1 S.2.1 dX1_tellNode_71 rfl (lv_at hl 1 rfl) ?_
  refine gf_1_5 S hK hP hth mw_1_142 dX1_tellNode_72 ?_
  refine lv_aload_n S.1 S.2.1 dX1_tellNode_75 rfl (lv_at hl 1 rfl) ?_
  refine gf_1_6 S hK hP hth mw_1_143 dX1_tellNode_76 ?_
  refine lv_if_eq (tgt := 89) S.1 S.2.1 dX1_tellNode_79 (by decide) (fun c8 => ?_) (fun c8 => ?_)
  · rw [if_pos c8] at h
    refine lv_iload_n S.1 S.2.1 dX1_tellNode_89 rfl (lv_at hl 0 rfl) ?_
    obtain ⟨z9, ez9, h⟩ := ob_s h
    refine pm_cVv (As := [.int (1 : Int32), .int (1 : Int32), .int (r32 z 25 th), .int t0]) (rest := []) S hK hX hP hS (c_X1_tell l ev z E hth th (1 : Int32) (1 : Int32) (r32 z 25 th) t0 z9 ez9) vm_X1_tell mw_2_139 (rc_1 hK hP hth) ⟨⟨rfl, rfl⟩, by decide, by decide⟩ rfl hl.1 rfl (Nat.le_of_ble_eq_true rfl) ⟨Nat.zero_le _, Nat.zero_le _⟩ dX1_tellNode_90 (fun H locs hP hS => ?_)
    refine lv_aload_n S.1 S.2.1 dX1_tellNode_93 rfl (lv_at hl 1 rfl) ?_
    refine lv_aload_n S.1 S.2.1 dX1_tellNode_94 rfl (lv_at hl 1 rfl) ?_
    refine gf_1_5 S hK hP hth mw_1_142 dX1_tellNode_95 ?_
    obtain ⟨v10, ev10, h⟩ := bd_s h
    refine pm_nmI ev10 ?_
    obtain ⟨z11, ez11, h⟩ := bd_s h
    refine pf_1_1 S E hK hP hS hth mw_1_136 dX1_tellNode_98 (fun H locs hP hS => ?_)
    rw [← ez11] at hP
    exact pm_vretW S hr hlk hP hS (Option.some.inj h) dX1_tellNode_101
  · rw [if_neg c8] at h
    refine lv_aload_n S.1 S.2.1 dX1_tellNode_82 rfl (lv_at hl 1 rfl) ?_
    refine gf_1_5 S hK hP hth mw_1_142 dX1_tellNode_83 ?_
    refine lv_goto (tgt := 90) S.1 S.2.1 dX1_tellNode_86 (by decide) ?_
    obtain ⟨z12, ez12, h⟩ := ob_s h
    refine pm_cVv (As := [.int (1 : Int32), .int (1 : Int32), .int (r32 z 25 th), .int (r32 z 25 th)]) (rest := []) S hK hX hP hS (c_X1_tell l ev z E hth th (1 : Int32) (1 : Int32) (r32 z 25 th) (r32 z 25 th) z12 ez12) vm_X1_tell mw_2_139 (rc_1 hK hP hth) ⟨⟨rfl, rfl⟩, by decide, by decide⟩ rfl hl.1 rfl (Nat.le_of_ble_eq_true rfl) ⟨Nat.zero_le _, Nat.zero_le _⟩ dX1_tellNode_90 (fun H locs hP hS => ?_)
    refine lv_aload_n S.1 S.2.1 dX1_tellNode_93 rfl (lv_at hl 1 rfl) ?_
    refine lv_aload_n S.1 S.2.1 dX1_tellNode_94 rfl (lv_at hl 1 rfl) ?_
    refine gf_1_5 S hK hP hth mw_1_142 dX1_tellNode_95 ?_
    obtain ⟨v13, ev13, h⟩ := bd_s h
    refine pm_nmI ev13 ?_
    obtain ⟨z14, ez14, h⟩ := bd_s h
    refine pf_1_1 S E hK hP hS hth mw_1_136 dX1_tellNode_98 (fun H locs hP hS => ?_)
    rw [← ez14] at hP
    exact pm_vretW S hr hlk hP hS (Option.some.inj h) dX1_tellNode_101
def q_X1_tellNode_50 (ev : EV) (th : Nat) (l1 : Nat) (t0 : Int32) (z : PS) : Option PS := ck (t0 = 0 ∨ t0 = 1) (bd (w32 z 26 th t0) (fun z6 => if ((r32 z6 25 th) &&& (1 : Int32)) = 0 then (q_X1_tellNode_67 ev th l1 (2 : Int32) z6) else (q_X1_tellNode_67 ev th l1 (1 : Int32) z6)))
set_option maxRecDepth 20000 in
set_option maxHeartbeats 4000000 in
theorem w_X1_tellNode_50 {ev : EV} {th : Nat} {l1 : Nat} {p : Program} {l : Launch} {e : Env} {s : State} {m : MethodId} {args : Array Value} {below : List Frame} {meth : Method} {c : Code} {z9 : PS} (S : CallFix p m c cX1_tellNode 3 s args gT RX1) (hr : meth.sig.returnType = none) (hlk : meth.locks = false) (E : EWF ev) (hK : KK ev s) (hX : pXt ev s) (hth : isK ev 1 th) (hl1 : isK ev 0 l1) : ∀ (t0 : Int32) (z : PS) (ls : Array Slot) (H : Heap) (locs : List Loc), q_X1_tellNode_50 ev th l1 t0 z = some z9 → lv_has ls 3 [(0, .ref th)] → Wd ev z H → SS ev s H locs → W p l e (pR 2 78) s m args below meth c H locs 0 0 (MQ below (pQv ev z9) args s 0 0 (eA ev)) (F0 m 50 ls [.int t0, .ref th]) := by
  intro t0 z ls H locs h hl hP hS
  unfold q_X1_tellNode_50 at h
  obtain ⟨hc5, h⟩ := ck_s h
  obtain ⟨z6, ez6, h⟩ := bd_s h
  refine pf_1_6 S E hK hP hS hth hc5 mw_1_143 dX1_tellNode_50 (fun H locs hP hS => ?_)
  rw [← ez6] at hP
  refine lv_aload_n S.1 S.2.1 dX1_tellNode_53 rfl (lv_at hl 0 rfl) ?_
  refine gf_1_5 S hK hP hth mw_1_142 dX1_tellNode_54 ?_
  refine lv_iconst (v := 1) S.1 S.2.1 dX1_tellNode_57 (by decide) ?_
  refine lv_iand S.1 S.2.1 dX1_tellNode_58 ?_
  refine lv_if_ne (tgt := 66) S.1 S.2.1 dX1_tellNode_59 (by decide) (fun c7 => ?_) (fun c7 => ?_)
  · rw [if_neg c7] at h
    refine lv_iconst (v := 1) S.1 S.2.1 dX1_tellNode_66 (by decide) ?_
    exact w_X1_tellNode_67 S hr hlk E hK hX hth hl1 (1 : Int32) z6 ls _ _ h (lv_sub hl [0] rfl) hP hS
  · rw [if_pos c7] at h
    refine lv_iconst (v := 2) S.1 S.2.1 dX1_tellNode_62 (by decide) ?_
    refine lv_goto (tgt := 67) S.1 S.2.1 dX1_tellNode_63 (by decide) ?_
    exact w_X1_tellNode_67 S hr hlk E hK hX hth hl1 (2 : Int32) z6 ls _ _ h (lv_sub hl [0] rfl) hP hS
def g_X1_tellNode (ev : EV) (z : PS) (th : Nat) (l1 : Nat) : Option PS := if (r32 z 28 th) = (2 : Int32) then (ob (g_X4_rest ((r64 z 1 l1) + (r64 z 2 l1)) (2 : Int64)) (fun v3 => if v3 = (0 : Int64) then (q_X1_tellNode_50 ev th l1 (1 : Int32) z) else (q_X1_tellNode_50 ev th l1 (0 : Int32) z))) else (ob (g_X4_isSquareAt (-(r64 z 10 l1)) ((r32 z 28 th).toInt64)) (fun v2 => q_X1_tellNode_50 ev th l1 v2 z))
set_option maxRecDepth 20000 in
set_option maxHeartbeats 4000000 in
theorem c_X1_tellNode (l : Launch) (ev : EV) (z : PS) (E : EWF ev) {th : Nat} (hth : isK ev 1 th) {l1 : Nat} (hl1 : isK ev 0 l1) (th_ : Nat) (l1_ : Nat) (z9 : PS) (h : g_X1_tellNode ev z th l1 = some z9) : Met l yX1_tellNode (pWs yX1_tellNode cX1_tellNode 3 none) (pR 2 78) (va_Pc [.ref th, .ref l1] (pPe ev z)) (pQv ev z9) 0 0 (eA ev) := by
  refine pm_of (by decide) (Nat.le_of_ble_eq_true rfl) ?_
  intro p e s m below meth c S hr hlk hv ls hl
  obtain ⟨hP, hK, hX⟩ := hv
  have hS : SS ev s s.heap [] := va_S.rf
  have hl : lv_has ls 3 [(0, .ref th), (1, .ref l1)] := hl
  unfold g_X1_tellNode at h
  refine lv_aload_n S.1 S.2.1 dX1_tellNode_0 rfl (lv_at hl 0 rfl) ?_
  refine lv_aload_n S.1 S.2.1 dX1_tellNode_1 rfl (lv_at hl 0 rfl) ?_
  refine gf_1_8 S hK hP hth mw_1_146 dX1_tellNode_2 ?_
  refine lv_iconst (v := 2) S.1 S.2.1 dX1_tellNode_5 (by decide) ?_
  refine lv_icmp_ne (tgt := 37) S.1 S.2.1 dX1_tellNode_6 (by decide) (fun c1 => ?_) (fun c1 => ?_)
  · rw [if_neg c1] at h
    refine lv_aload_n S.1 S.2.1 dX1_tellNode_37 rfl (lv_at hl 1 rfl) ?_
    refine gf_0_10 S hK hP hl1 mw_1_59 dX1_tellNode_38 ?_
    refine lv_lneg S.1 S.2.1 dX1_tellNode_41 ?_
    refine lv_aload_n S.1 S.2.1 dX1_tellNode_42 rfl (lv_at hl 0 rfl) ?_
    refine gf_1_8 S hK hP hth mw_1_146 dX1_tellNode_43 ?_
    refine lv_i2l S.1 S.2.1 dX1_tellNode_46 rfl ?_
    obtain ⟨v2, ev2, h⟩ := ob_s h
    refine pm_cS (As := [.long (-(r64 z 10 l1)), .long ((r32 z 28 th).toInt64)]) (rest := [.ref th]) S (c_X4_isSquareAt l (-(r64 z 10 l1)) ((r32 z 28 th).toInt64) v2 ev2) sm_X4_isSquareAt mw_2_149 ⟨⟨rfl, rfl⟩, by decide, by decide⟩ rfl hl.1 rfl (Nat.le_of_ble_eq_true rfl) ⟨Nat.zero_le _, Nat.zero_le _⟩ dX1_tellNode_47 ?_
    exact w_X1_tellNode_50 S hr hlk E hK hX hth hl1 v2 z ls _ _ h (lv_sub hl [0] rfl) hP hS
  · rw [if_pos c1] at h
    refine lv_aload_n S.1 S.2.1 dX1_tellNode_9 rfl (lv_at hl 1 rfl) ?_
    refine gf_0_1 S hK hP hl1 mw_1_39 dX1_tellNode_10 ?_
    refine lv_aload_n S.1 S.2.1 dX1_tellNode_13 rfl (lv_at hl 1 rfl) ?_
    refine gf_0_2 S hK hP hl1 mw_1_41 dX1_tellNode_14 ?_
    refine lv_ladd S.1 S.2.1 dX1_tellNode_17 ?_
    refine pm_ldc2 S mw_2_148 dX1_tellNode_18 ?_
    obtain ⟨v3, ev3, h⟩ := ob_s h
    refine pm_cS (As := [.long ((r64 z 1 l1) + (r64 z 2 l1)), .long (2 : Int64)]) (rest := [.ref th]) S (c_X4_rest l ((r64 z 1 l1) + (r64 z 2 l1)) (2 : Int64) v3 ev3) sm_X4_rest mw_2_143 ⟨⟨rfl, rfl⟩, by decide, by decide⟩ rfl hl.1 rfl (Nat.le_of_ble_eq_true rfl) ⟨Nat.zero_le _, Nat.zero_le _⟩ dX1_tellNode_21 ?_
    refine lv_lconst (v := 0) S.1 S.2.1 dX1_tellNode_24 (by decide) ?_
    refine pm_lne (tgt := 33) S dX1_tellNode_25 dX1_tellNode_26 (by decide) (fun c4 => ?_) (fun c4 => ?_)
    · rw [if_neg c4] at h
      refine lv_iconst (v := 0) S.1 S.2.1 dX1_tellNode_33 (by decide) ?_
      refine lv_goto (tgt := 50) S.1 S.2.1 dX1_tellNode_34 (by decide) ?_
      exact w_X1_tellNode_50 S hr hlk E hK hX hth hl1 (0 : Int32) z ls _ _ h (lv_sub hl [0] rfl) hP hS
    · rw [if_pos c4] at h
      refine lv_iconst (v := 1) S.1 S.2.1 dX1_tellNode_29 (by decide) ?_
      refine lv_goto (tgt := 50) S.1 S.2.1 dX1_tellNode_30 (by decide) ?_
      exact w_X1_tellNode_50 S hr hlk E hK hX hth hl1 (1 : Int32) z ls _ _ h (lv_sub hl [0] rfl) hP hS
theorem vm_X1_tellNode : pm_Vm yX1_tellNode cX1_tellNode 3 none 1 := ⟨mw_2_147, mw_2_146, ms_213, mw_1_5, by decide, by decide⟩
def g_X1_half (ev : EV) (z : PS) (th : Nat) (l1 : Int64) : Option Int64 := ob (g_X4_rest l1 ((r32 z 28 th).toInt64)) (fun v1 => ob (g_X4_rest (v1 * ((((r32 z 28 th).toInt64) + (1 : Int64)) >>> (((1 : Int32)).toInt64 &&& 63))) ((r32 z 28 th).toInt64)) (fun v2 => some v2))
set_option maxRecDepth 20000 in
set_option maxHeartbeats 4000000 in
theorem c_X1_half (l : Launch) (ev : EV) (z : PS) (E : EWF ev) {th : Nat} (hth : isK ev 1 th) (th_ : Nat) (l1 : Int64) (r : Int64) (h : g_X1_half ev z th l1 = some r) : Met l yX1_half (pWs yX1_half cX1_half 3 (some .long)) (pR 1 37) (va_Pc [.ref th, .long l1] (pPe ev z)) (k2_QcV (.long r)) 0 0 (fun _ => False) := by
  refine pm_of (by decide) (Nat.le_of_ble_eq_true rfl) ?_
  intro p e s m below meth c S hr hlk hv ls hl
  obtain ⟨hP, hK, hX⟩ := hv
  have hl : lv_has ls 3 [(0, .ref th), (1, .long l1)] := hl
  unfold g_X1_half at h
  refine lv_lload_n S.1 S.2.1 dX1_half_0 rfl (lv_at hl 1 rfl) ?_
  refine lv_aload_n S.1 S.2.1 dX1_half_1 rfl (lv_at hl 0 rfl) ?_
  refine gf_1_8 S hK hP hth mw_1_146 dX1_half_2 ?_
  refine lv_i2l S.1 S.2.1 dX1_half_5 rfl ?_
  obtain ⟨v1, ev1, h⟩ := ob_s h
  refine pm_cS (As := [.long l1, .long ((r32 z 28 th).toInt64)]) (rest := []) S (c_X4_rest l l1 ((r32 z 28 th).toInt64) v1 ev1) sm_X4_rest mw_2_143 ⟨⟨rfl, rfl⟩, by decide, by decide⟩ rfl hl.1 rfl (Nat.le_of_ble_eq_true rfl) ⟨Nat.zero_le _, Nat.zero_le _⟩ dX1_half_6 ?_
  refine lv_aload_n S.1 S.2.1 dX1_half_9 rfl (lv_at hl 0 rfl) ?_
  refine gf_1_8 S hK hP hth mw_1_146 dX1_half_10 ?_
  refine lv_i2l S.1 S.2.1 dX1_half_13 rfl ?_
  refine lv_lconst (v := 1) S.1 S.2.1 dX1_half_14 (by decide) ?_
  refine lv_ladd S.1 S.2.1 dX1_half_15 ?_
  refine lv_iconst (v := 1) S.1 S.2.1 dX1_half_16 (by decide) ?_
  refine lv_lshr S.1 S.2.1 dX1_half_17 rfl ?_
  refine lv_lmul S.1 S.2.1 dX1_half_18 ?_
  refine lv_aload_n S.1 S.2.1 dX1_half_19 rfl (lv_at hl 0 rfl) ?_
  refine gf_1_8 S hK hP hth mw_1_146 dX1_half_20 ?_
  refine lv_i2l S.1 S.2.1 dX1_half_23 rfl ?_
  obtain ⟨v2, ev2, h⟩ := ob_s h
  refine pm_cS (As := [.long (v1 * ((((r32 z 28 th).toInt64) + (1 : Int64)) >>> (((1 : Int32)).toInt64 &&& 63))), .long ((r32 z 28 th).toInt64)]) (rest := []) S (c_X4_rest l (v1 * ((((r32 z 28 th).toInt64) + (1 : Int64)) >>> (((1 : Int32)).toInt64 &&& 63))) ((r32 z 28 th).toInt64) v2 ev2) sm_X4_rest mw_2_143 ⟨⟨rfl, rfl⟩, by decide, by decide⟩ rfl hl.1 rfl (Nat.le_of_ble_eq_true rfl) ⟨Nat.zero_le _, Nat.zero_le _⟩ dX1_half_24 ?_
  exact pm_lretR S hr hlk (Option.some.inj h) dX1_half_27
theorem vm_X1_half : pm_Vm yX1_half cX1_half 3 (some .long) 1 := ⟨mw_2_174, mw_2_173, ms_222, mw_1_5, by decide, by decide⟩
def q_X1_moveSingularPoint_108 (ev : EV) (th : Nat) (t0 : Int64) (z : PS) : Option PS := ob (g_X0_slopeAt ev z (rf ev 27 th) t0) (fun v11 => ob (g_X1_half ev z th (-v11)) (fun v12 => ob (g_X0_shift ev z (rf ev 27 th) t0 (0 : Int64) v12) (fun z13 => some z13)))
set_option maxRecDepth 20000 in
set_option maxHeartbeats 4000000 in
theorem w_X1_moveSingularPoint_108 {ev : EV} {th : Nat} {p : Program} {l : Launch} {e : Env} {s : State} {m : MethodId} {args : Array Value} {below : List Frame} {meth : Method} {c : Code} {z9 : PS} (S : CallFix p m c cX1_moveSingularPoint 5 s args gT RX1) (hr : meth.sig.returnType = none) (hlk : meth.locks = false) (E : EWF ev) (hK : KK ev s) (hX : pXt ev s) (hth : isK ev 1 th) : ∀ (t0 : Int64) (z : PS) (ls : Array Slot) (H : Heap) (locs : List Loc), q_X1_moveSingularPoint_108 ev th t0 z = some z9 → lv_has ls 5 [(0, .ref th)] → Wd ev z H → SS ev s H locs → W p l e (pR 2 80) s m args below meth c H locs 0 0 (MQ below (pQv ev z9) args s 0 0 (eA ev)) (F0 m 108 ls [.long t0]) := by
  intro t0 z ls H locs h hl hP hS
  unfold q_X1_moveSingularPoint_108 at h
  refine lv_lstore_n (lv' := [(1, .long t0), (0, .ref th)]) S.1 S.2.1 dX1_moveSingularPoint_108 rfl hl (by decide) rfl (fun ls hl => ?_)
  refine lv_aload_n S.1 S.2.1 dX1_moveSingularPoint_109 rfl (lv_at hl 1 rfl) ?_
  refine lv_aload_n S.1 S.2.1 dX1_moveSingularPoint_110 rfl (lv_at hl 1 rfl) ?_
  refine gf_1_7 S hK hP hth mw_1_145 dX1_moveSingularPoint_111 ?_
  refine lv_lload_n S.1 S.2.1 dX1_moveSingularPoint_114 rfl (lv_at hl 0 rfl) ?_
  obtain ⟨v11, ev11, h⟩ := ob_s h
  refine pm_cVr (As := [.long t0]) (rest := [.ref th]) S hK hX hP hS (c_X0_slopeAt l ev z E (E_1_7 E hth) (rf ev 27 th) t0 v11 ev11) vm_X0_slopeAt mw_2_167 (rc_0 hK hP (E_1_7 E hth)) ⟨⟨rfl, rfl⟩, by decide, by decide⟩ rfl hl.1 rfl (Nat.le_of_ble_eq_true rfl) ⟨Nat.zero_le _, Nat.zero_le _⟩ dX1_moveSingularPoint_115 ?_
  refine lv_lneg S.1 S.2.1 dX1_moveSingularPoint_118 ?_
  obtain ⟨v12, ev12, h⟩ := ob_s h
  refine pm_cVr (As := [.long (-v11)]) (rest := []) S hK hX hP hS (c_X1_half l ev z E hth th (-v11) v12 ev12) vm_X1_half mw_2_171 (rc_1 hK hP hth) ⟨⟨rfl, rfl⟩, by decide, by decide⟩ rfl hl.1 rfl (Nat.le_of_ble_eq_true rfl) ⟨Nat.zero_le _, Nat.zero_le _⟩ dX1_moveSingularPoint_119 ?_
  refine lv_lstore_n (lv' := [(3, .long v12), (1, .long t0), (0, .ref th)]) S.1 S.2.1 dX1_moveSingularPoint_122 rfl hl (by decide) rfl (fun ls hl => ?_)
  refine lv_aload_n S.1 S.2.1 dX1_moveSingularPoint_123 rfl (lv_at hl 2 rfl) ?_
  refine gf_1_7 S hK hP hth mw_1_145 dX1_moveSingularPoint_124 ?_
  refine lv_lload_n S.1 S.2.1 dX1_moveSingularPoint_127 rfl (lv_at hl 1 rfl) ?_
  refine lv_lconst (v := 0) S.1 S.2.1 dX1_moveSingularPoint_128 (by decide) ?_
  refine lv_lload_n S.1 S.2.1 dX1_moveSingularPoint_129 rfl (lv_at hl 0 rfl) ?_
  obtain ⟨z13, ez13, h⟩ := ob_s h
  refine pm_cVv (As := [.long t0, .long (0 : Int64), .long v12]) (rest := []) S hK hX hP hS (c_X0_shift l ev z E (E_1_7 E hth) (rf ev 27 th) t0 (0 : Int64) v12 z13 ez13) vm_X0_shift mw_2_175 (rc_0 hK hP (E_1_7 E hth)) ⟨⟨rfl, rfl⟩, by decide, by decide⟩ rfl hl.1 rfl (Nat.le_of_ble_eq_true rfl) ⟨Nat.zero_le _, Nat.zero_le _⟩ dX1_moveSingularPoint_130 (fun H locs hP hS => ?_)
  exact pm_vretW S hr hlk hP hS (Option.some.inj h) dX1_moveSingularPoint_133
def g_X1_moveSingularPoint (ev : EV) (z : PS) (th : Nat) : Option PS := if (r32 z 28 th) = (2 : Int32) then (ob (g_X4_rest (r64 z 3 (rf ev 27 th)) (2 : Int64)) (fun v7 => ob (g_X0_rightAt ev z (rf ev 27 th) v7) (fun v8 => ob (g_X4_rest v8 (2 : Int64)) (fun v9 => ob (g_X0_shift ev z (rf ev 27 th) v7 (0 : Int64) v9) (fun z10 => some z10))))) else (if (r32 z 28 th) = (3 : Int32) then (ob (g_X4_rest (-(r64 z 7 (rf ev 27 th))) (3 : Int64)) (fun v6 => q_X1_moveSingularPoint_108 ev th v6 z)) else (ob (g_X4_rest (r64 z 5 (rf ev 27 th)) ((r32 z 28 th).toInt64)) (fun v3 => ob (g_X4_powerRest (12 : Int64) (((r32 z 28 th) - (2 : Int32)).toInt64) ((r32 z 28 th).toInt64)) (fun v4 => ob (g_X4_rest ((-v3) * v4) ((r32 z 28 th).toInt64)) (fun v5 => q_X1_moveSingularPoint_108 ev th v5 z)))))
set_option maxRecDepth 20000 in
set_option maxHeartbeats 4000000 in
theorem c_X1_moveSingularPoint (l : Launch) (ev : EV) (z : PS) (E : EWF ev) {th : Nat} (hth : isK ev 1 th) (th_ : Nat) (z9 : PS) (h : g_X1_moveSingularPoint ev z th = some z9) : Met l yX1_moveSingularPoint (pWs yX1_moveSingularPoint cX1_moveSingularPoint 5 none) (pR 2 80) (va_Pc [.ref th] (pPe ev z)) (pQv ev z9) 0 0 (eA ev) := by
  refine pm_of (by decide) (Nat.le_of_ble_eq_true rfl) ?_
  intro p e s m below meth c S hr hlk hv ls hl
  obtain ⟨hP, hK, hX⟩ := hv
  have hS : SS ev s s.heap [] := va_S.rf
  have hl : lv_has ls 5 [(0, .ref th)] := hl
  unfold g_X1_moveSingularPoint at h
  refine lv_aload_n S.1 S.2.1 dX1_moveSingularPoint_0 rfl (lv_at hl 0 rfl) ?_
  refine gf_1_8 S hK hP hth mw_1_146 dX1_moveSingularPoint_1 ?_
  refine lv_iconst (v := 2) S.1 S.2.1 dX1_moveSingularPoint_4 (by decide) ?_
  refine lv_icmp_ne (tgt := 40) S.1 S.2.1 dX1_moveSingularPoint_5 (by decide) (fun c1 => ?_) (fun c1 => ?_)
  · rw [if_neg c1] at h
    refine lv_aload_n S.1 S.2.1 dX1_moveSingularPoint_40 rfl (lv_at hl 0 rfl) ?_
    refine gf_1_8 S hK hP hth mw_1_146 dX1_moveSingularPoint_41 ?_
    refine lv_iconst (v := 3) S.1 S.2.1 dX1_moveSingularPoint_44 (by decide) ?_
    refine lv_icmp_ne (tgt := 65) S.1 S.2.1 dX1_moveSingularPoint_45 (by decide) (fun c2 => ?_) (fun c2 => ?_)
    · rw [if_neg c2] at h
      refine lv_aload_n S.1 S.2.1 dX1_moveSingularPoint_65 rfl (lv_at hl 0 rfl) ?_
      refine gf_1_7 S hK hP hth mw_1_145 dX1_moveSingularPoint_66 ?_
      refine gf_0_5 S hK hP (E_1_7 E hth) mw_1_47 dX1_moveSingularPoint_69 ?_
      refine lv_aload_n S.1 S.2.1 dX1_moveSingularPoint_72 rfl (lv_at hl 0 rfl) ?_
      refine gf_1_8 S hK hP hth mw_1_146 dX1_moveSingularPoint_73 ?_
      refine lv_i2l S.1 S.2.1 dX1_moveSingularPoint_76 rfl ?_
      obtain ⟨v3, ev3, h⟩ := ob_s h
      refine pm_cS (As := [.long (r64 z 5 (rf ev 27 th)), .long ((r32 z 28 th).toInt64)]) (rest := []) S (c_X4_rest l (r64 z 5 (rf ev 27 th)) ((r32 z 28 th).toInt64) v3 ev3) sm_X4_rest mw_2_143 ⟨⟨rfl, rfl⟩, by decide, by decide⟩ rfl hl.1 rfl (Nat.le_of_ble_eq_true rfl) ⟨Nat.zero_le _, Nat.zero_le _⟩ dX1_moveSingularPoint_77 ?_
      refine lv_lneg S.1 S.2.1 dX1_moveSingularPoint_80 ?_
      refine pm_ldc2 S mw_2_165 dX1_moveSingularPoint_81 ?_
      refine lv_aload_n S.1 S.2.1 dX1_moveSingularPoint_84 rfl (lv_at hl 0 rfl) ?_
      refine gf_1_8 S hK hP hth mw_1_146 dX1_moveSingularPoint_85 ?_
      refine lv_iconst (v := 2) S.1 S.2.1 dX1_moveSingularPoint_88 (by decide) ?_
      refine lv_isub S.1 S.2.1 dX1_moveSingularPoint_89 ?_
      refine lv_i2l S.1 S.2.1 dX1_moveSingularPoint_90 rfl ?_
      refine lv_aload_n S.1 S.2.1 dX1_moveSingularPoint_91 rfl (lv_at hl 0 rfl) ?_
      refine gf_1_8 S hK hP hth mw_1_146 dX1_moveSingularPoint_92 ?_
      refine lv_i2l S.1 S.2.1 dX1_moveSingularPoint_95 rfl ?_
      obtain ⟨v4, ev4, h⟩ := ob_s h
      refine pm_cS (As := [.long (12 : Int64), .long (((r32 z 28 th) - (2 : Int32)).toInt64), .long ((r32 z 28 th).toInt64)]) (rest := [.long (-v3)]) S (c_X4_powerRest l (12 : Int64) (((r32 z 28 th) - (2 : Int32)).toInt64) ((r32 z 28 th).toInt64) v4 ev4) sm_X4_powerRest mw_2_166 ⟨⟨rfl, rfl⟩, by decide, by decide⟩ rfl hl.1 rfl (Nat.le_of_ble_eq_true rfl) ⟨Nat.zero_le _, Nat.zero_le _⟩ dX1_moveSingularPoint_96 ?_
      refine lv_lmul S.1 S.2.1 dX1_moveSingularPoint_99 ?_
      refine lv_aload_n S.1 S.2.1 dX1_moveSingularPoint_100 rfl (lv_at hl 0 rfl) ?_
      refine gf_1_8 S hK hP hth mw_1_146 dX1_moveSingularPoint_101 ?_
      refine lv_i2l S.1 S.2.1 dX1_moveSingularPoint_104 rfl ?_
      obtain ⟨v5, ev5, h⟩ := ob_s h
      refine pm_cS (As := [.long ((-v3) * v4), .long ((r32 z 28 th).toInt64)]) (rest := []) S (c_X4_rest l ((-v3) * v4) ((r32 z 28 th).toInt64) v5 ev5) sm_X4_rest mw_2_143 ⟨⟨rfl, rfl⟩, by decide, by decide⟩ rfl hl.1 rfl (Nat.le_of_ble_eq_true rfl) ⟨Nat.zero_le _, Nat.zero_le _⟩ dX1_moveSingularPoint_105 ?_
      exact w_X1_moveSingularPoint_108 S hr hlk E hK hX hth v5 z ls _ _ h (lv_sub hl [0] rfl) hP hS
    · rw [if_pos c2] at h
      refine lv_aload_n S.1 S.2.1 dX1_moveSingularPoint_48 rfl (lv_at hl 0 rfl) ?_
      refine gf_1_7 S hK hP hth mw_1_145 dX1_moveSingularPoint_49 ?_
      refine gf_0_7 S hK hP (E_1_7 E hth) mw_1_50 dX1_moveSingularPoint_52 ?_
      refine lv_lneg S.1 S.2.1 dX1_moveSingularPoint_55 ?_
      refine pm_ldc2 S mw_2_164 dX1_moveSingularPoint_56 ?_
      obtain ⟨v6, ev6, h⟩ := ob_s h
      refine pm_cS (As := [.long (-(r64 z 7 (rf ev 27 th))), .long (3 : Int64)]) (rest := []) S (c_X4_rest l (-(r64 z 7 (rf ev 27 th))) (3 : Int64) v6 ev6) sm_X4_rest mw_2_143 ⟨⟨rfl, rfl⟩, by decide, by decide⟩ rfl hl.1 rfl (Nat.le_of_ble_eq_true rfl) ⟨Nat.zero_le _, Nat.zero_le _⟩ dX1_moveSingularPoint_59 ?_
      refine lv_goto (tgt := 108) S.1 S.2.1 dX1_moveSingularPoint_62 (by decide) ?_
      exact w_X1_moveSingularPoint_108 S hr hlk E hK hX hth v6 z ls _ _ h (lv_sub hl [0] rfl) hP hS
  · rw [if_pos c1] at h
    refine lv_aload_n S.1 S.2.1 dX1_moveSingularPoint_8 rfl (lv_at hl 0 rfl) ?_
    refine gf_1_7 S hK hP hth mw_1_145 dX1_moveSingularPoint_9 ?_
    refine gf_0_3 S hK hP (E_1_7 E hth) mw_1_43 dX1_moveSingularPoint_12 ?_
    refine pm_ldc2 S mw_2_148 dX1_moveSingularPoint_15 ?_
    obtain ⟨v7, ev7, h⟩ := ob_s h
    refine pm_cS (As := [.long (r64 z 3 (rf ev 27 th)), .long (2 : Int64)]) (rest := []) S (c_X4_rest l (r64 z 3 (rf ev 27 th)) (2 : Int64) v7 ev7) sm_X4_rest mw_2_143 ⟨⟨rfl, rfl⟩, by decide, by decide⟩ rfl hl.1 rfl (Nat.le_of_ble_eq_true rfl) ⟨Nat.zero_le _, Nat.zero_le _⟩ dX1_moveSingularPoint_18 ?_
    refine lv_lstore_n (lv' := [(1, .long v7), (0, .ref th)]) S.1 S.2.1 dX1_moveSingularPoint_21 rfl hl (by decide) rfl (fun ls hl => ?_)
    refine lv_aload_n S.1 S.2.1 dX1_moveSingularPoint_22 rfl (lv_at hl 1 rfl) ?_
    refine gf_1_7 S hK hP hth mw_1_145 dX1_moveSingularPoint_23 ?_
    refine lv_lload_n S.1 S.2.1 dX1_moveSingularPoint_26 rfl (lv_at hl 0 rfl) ?_
    obtain ⟨v8, ev8, h⟩ := ob_s h
    refine pm_cVr (As := [.long v7]) (rest := []) S hK hX hP hS (c_X0_rightAt l ev z E (E_1_7 E hth) (rf ev 27 th) v7 v8 ev8) vm_X0_rightAt mw_2_160 (rc_0 hK hP (E_1_7 E hth)) ⟨⟨rfl, rfl⟩, by decide, by decide⟩ rfl hl.1 rfl (Nat.le_of_ble_eq_true rfl) ⟨Nat.zero_le _, Nat.zero_le _⟩ dX1_moveSingularPoint_27 ?_
    refine pm_ldc2 S mw_2_148 dX1_moveSingularPoint_30 ?_
    obtain ⟨v9, ev9, h⟩ := ob_s h
    refine pm_cS (As := [.long v8, .long (2 : Int64)]) (rest := []) S (c_X4_rest l v8 (2 : Int64) v9 ev9) sm_X4_rest mw_2_143 ⟨⟨rfl, rfl⟩, by decide, by decide⟩ rfl hl.1 rfl (Nat.le_of_ble_eq_true rfl) ⟨Nat.zero_le _, Nat.zero_le _⟩ dX1_moveSingularPoint_33 ?_
    refine lv_lstore_n (lv' := [(3, .long v9), (1, .long v7), (0, .ref th)]) S.1 S.2.1 dX1_moveSingularPoint_36 rfl hl (by decide) rfl (fun ls hl => ?_)
    refine lv_goto (tgt := 123) S.1 S.2.1 dX1_moveSingularPoint_37 (by decide) ?_
    refine lv_aload_n S.1 S.2.1 dX1_moveSingularPoint_123 rfl (lv_at hl 2 rfl) ?_
    refine gf_1_7 S hK hP hth mw_1_145 dX1_moveSingularPoint_124 ?_
    refine lv_lload_n S.1 S.2.1 dX1_moveSingularPoint_127 rfl (lv_at hl 1 rfl) ?_
    refine lv_lconst (v := 0) S.1 S.2.1 dX1_moveSingularPoint_128 (by decide) ?_
    refine lv_lload_n S.1 S.2.1 dX1_moveSingularPoint_129 rfl (lv_at hl 0 rfl) ?_
    obtain ⟨z10, ez10, h⟩ := ob_s h
    refine pm_cVv (As := [.long v7, .long (0 : Int64), .long v9]) (rest := []) S hK hX hP hS (c_X0_shift l ev z E (E_1_7 E hth) (rf ev 27 th) v7 (0 : Int64) v9 z10 ez10) vm_X0_shift mw_2_175 (rc_0 hK hP (E_1_7 E hth)) ⟨⟨rfl, rfl⟩, by decide, by decide⟩ rfl hl.1 rfl (Nat.le_of_ble_eq_true rfl) ⟨Nat.zero_le _, Nat.zero_le _⟩ dX1_moveSingularPoint_130 (fun H locs hP hS => ?_)
    exact pm_vretW S hr hlk hP hS (Option.some.inj h) dX1_moveSingularPoint_133
theorem vm_X1_moveSingularPoint : pm_Vm yX1_moveSingularPoint cX1_moveSingularPoint 5 none 0 := ⟨mw_2_159, mw_2_158, ms_236, mw_1_5, by decide, by decide⟩
def g_X1_goesIn (ev : EV) (z : PS) (th : Nat) (l1 : Int64) (l3 : Int32) : Option Int32 := ob (g_X4_power ((r32 z 28 th).toInt64) l3) (fun v1 => ob (g_X4_rest l1 v1) (fun v2 => if v2 = (0 : Int64) then (some (1 : Int32)) else (some (0 : Int32))))
set_option maxRecDepth 20000 in
set_option maxHeartbeats 4000000 in
theorem c_X1_goesIn (l : Launch) (ev : EV) (z : PS) (E : EWF ev) {th : Nat} (hth : isK ev 1 th) (th_ : Nat) (l1 : Int64) (l3 : Int32) (r : Int32) (h : g_X1_goesIn ev z th l1 l3 = some r) : Met l yX1_goesIn (pWs yX1_goesIn cX1_goesIn 4 (some .boolean)) (pR 1 37) (va_Pc [.ref th, .long l1, .int l3] (pPe ev z)) (k2_QcV (.int r)) 0 0 (fun _ => False) := by
  refine pm_of (by decide) (Nat.le_of_ble_eq_true rfl) ?_
  intro p e s m below meth c S hr hlk hv ls hl
  obtain ⟨hP, hK, hX⟩ := hv
  have hl : lv_has ls 4 [(0, .ref th), (1, .long l1), (3, .int l3)] := hl
  unfold g_X1_goesIn at h
  refine lv_lload_n S.1 S.2.1 dX1_goesIn_0 rfl (lv_at hl 1 rfl) ?_
  refine lv_aload_n S.1 S.2.1 dX1_goesIn_1 rfl (lv_at hl 0 rfl) ?_
  refine gf_1_8 S hK hP hth mw_1_146 dX1_goesIn_2 ?_
  refine lv_i2l S.1 S.2.1 dX1_goesIn_5 rfl ?_
  refine lv_iload_n S.1 S.2.1 dX1_goesIn_6 rfl (lv_at hl 2 rfl) ?_
  obtain ⟨v1, ev1, h⟩ := ob_s h
  refine pm_cS (As := [.long ((r32 z 28 th).toInt64), .int l3]) (rest := [.long l1]) S (c_X4_power l ((r32 z 28 th).toInt64) l3 v1 ev1) sm_X4_power mw_2_184 ⟨⟨rfl, rfl⟩, by decide, by decide⟩ rfl hl.1 rfl (Nat.le_of_ble_eq_true rfl) ⟨Nat.zero_le _, Nat.zero_le _⟩ dX1_goesIn_7 ?_
  obtain ⟨v2, ev2, h⟩ := ob_s h
  refine pm_cS (As := [.long l1, .long v1]) (rest := []) S (c_X4_rest l l1 v1 v2 ev2) sm_X4_rest mw_2_143 ⟨⟨rfl, rfl⟩, by decide, by decide⟩ rfl hl.1 rfl (Nat.le_of_ble_eq_true rfl) ⟨Nat.zero_le _, Nat.zero_le _⟩ dX1_goesIn_10 ?_
  refine lv_lconst (v := 0) S.1 S.2.1 dX1_goesIn_13 (by decide) ?_
  refine pm_lne (tgt := 22) S dX1_goesIn_14 dX1_goesIn_15 (by decide) (fun c3 => ?_) (fun c3 => ?_)
  · rw [if_neg c3] at h
    refine lv_iconst (v := 0) S.1 S.2.1 dX1_goesIn_22 (by decide) ?_
    exact pm_zretR S hr hlk (Or.inl rfl) (Option.some.inj h) dX1_goesIn_23
  · rw [if_pos c3] at h
    refine lv_iconst (v := 1) S.1 S.2.1 dX1_goesIn_18 (by decide) ?_
    refine lv_goto (tgt := 23) S.1 S.2.1 dX1_goesIn_19 (by decide) ?_
    exact pm_zretR S hr hlk (Or.inr rfl) (Option.some.inj h) dX1_goesIn_23
theorem vm_X1_goesIn : pm_Vm yX1_goesIn cX1_goesIn 4 (some .boolean) 2 := ⟨mw_2_183, mw_2_182, ms_240, mw_1_5, by decide, by decide⟩
def g_X1_part (ev : EV) (z : PS) (th : Nat) (l1 : Int64) (l3 : Int32) : Option Int64 := ob (g_X4_power ((r32 z 28 th).toInt64) l3) (fun v1 => ob (g_X4_quotient l1 v1) (fun v2 => some v2))
set_option maxRecDepth 20000 in
set_option maxHeartbeats 4000000 in
theorem c_X1_part (l : Launch) (ev : EV) (z : PS) (E : EWF ev) {th : Nat} (hth : isK ev 1 th) (th_ : Nat) (l1 : Int64) (l3 : Int32) (r : Int64) (h : g_X1_part ev z th l1 l3 = some r) : Met l yX1_part (pWs yX1_part cX1_part 4 (some .long)) (pR 1 37) (va_Pc [.ref th, .long l1, .int l3] (pPe ev z)) (k2_QcV (.long r)) 0 0 (fun _ => False) := by
  refine pm_of (by decide) (Nat.le_of_ble_eq_true rfl) ?_
  intro p e s m below meth c S hr hlk hv ls hl
  obtain ⟨hP, hK, hX⟩ := hv
  have hl : lv_has ls 4 [(0, .ref th), (1, .long l1), (3, .int l3)] := hl
  unfold g_X1_part at h
  refine lv_lload_n S.1 S.2.1 dX1_part_0 rfl (lv_at hl 1 rfl) ?_
  refine lv_aload_n S.1 S.2.1 dX1_part_1 rfl (lv_at hl 0 rfl) ?_
  refine gf_1_8 S hK hP hth mw_1_146 dX1_part_2 ?_
  refine lv_i2l S.1 S.2.1 dX1_part_5 rfl ?_
  refine lv_iload_n S.1 S.2.1 dX1_part_6 rfl (lv_at hl 2 rfl) ?_
  obtain ⟨v1, ev1, h⟩ := ob_s h
  refine pm_cS (As := [.long ((r32 z 28 th).toInt64), .int l3]) (rest := [.long l1]) S (c_X4_power l ((r32 z 28 th).toInt64) l3 v1 ev1) sm_X4_power mw_2_184 ⟨⟨rfl, rfl⟩, by decide, by decide⟩ rfl hl.1 rfl (Nat.le_of_ble_eq_true rfl) ⟨Nat.zero_le _, Nat.zero_le _⟩ dX1_part_7 ?_
  obtain ⟨v2, ev2, h⟩ := ob_s h
  refine pm_cS (As := [.long l1, .long v1]) (rest := []) S (c_X4_quotient l l1 v1 v2 ev2) sm_X4_quotient mw_2_189 ⟨⟨rfl, rfl⟩, by decide, by decide⟩ rfl hl.1 rfl (Nat.le_of_ble_eq_true rfl) ⟨Nat.zero_le _, Nat.zero_le _⟩ dX1_part_10 ?_
  exact pm_lretR S hr hlk (Option.some.inj h) dX1_part_13
theorem vm_X1_part : pm_Vm yX1_part cX1_part 4 (some .long) 2 := ⟨mw_2_188, mw_2_187, ms_244, mw_1_5, by decide, by decide⟩
def q_X1_rootOf_3 (ev : EV) (z : PS) (th : Nat) : Nat → Int64 → Int64 → Int64 → Int32 → Option Int32
  | 0, _, _, _, _ => none
  | n + 1, l1, l3, l5, l7 => if (r32 z 28 th) ≤ l7 then (some (-1 : Int32)) else (ob (g_X4_rest ((((l1 * (l7.toInt64)) + l3) * (l7.toInt64)) + l5) ((r32 z 28 th).toInt64)) (fun v2 => if v2 = (0 : Int64) then (some l7) else (bd (l7 + (1 : Int32)) (fun v4 => q_X1_rootOf_3 ev z th n l1 l3 l5 v4))))
set_option maxRecDepth 20000 in
set_option maxHeartbeats 4000000 in
theorem w_X1_rootOf_3 {ev : EV} {z : PS} {th : Nat} {p : Program} {l : Launch} {e : Env} {s : State} {m : MethodId} {args : Array Value} {below : List Frame} {meth : Method} {c : Code} {r : Int32} (S : CallFix p m c cX1_rootOf 8 s args gT RX1) (hr : meth.sig.returnType = (some .int)) (hlk : meth.locks = false) (E : EWF ev) (hK : KK ev s) (hX : pXt ev s) (hP : Wd ev z s.heap) (hth : isK ev 1 th) : ∀ (n : Nat), ∀ (l1 : Int64) (l3 : Int64) (l5 : Int64) (l7 : Int32) (ls : Array Slot), q_X1_rootOf_3 ev z th n l1 l3 l5 l7 = some r → lv_has ls 8 [(0, .ref th), (1, .long l1), (3, .long l3), (5, .long l5), (7, .int l7)] → W p l e (pR 1 37) s m args below meth c s.heap [] 0 0 (MQ below (k2_QcV (.int r)) args s 0 0 (fun _ => False)) (F0 m 3 ls []) := by
  intro n
  induction n with
  | zero => intro l1 l3 l5 l7 ls h; cases h
  | succ n ih =>
    intro l1 l3 l5 l7 ls h hl
    rw [q_X1_rootOf_3] at h
    refine lv_iload S.1 S.2.1 dX1_rootOf_3 (lv_at hl 4 rfl) ?_
    refine lv_aload_n S.1 S.2.1 dX1_rootOf_5 rfl (lv_at hl 0 rfl) ?_
    refine gf_1_8 S hK hP hth mw_1_146 dX1_rootOf_6 ?_
    refine lv_icmp_ge (tgt := 48) S.1 S.2.1 dX1_rootOf_9 (by decide) (fun c1 => ?_) (fun c1 => ?_)
    · rw [if_pos c1] at h
      refine lv_iconst (v := -1) S.1 S.2.1 dX1_rootOf_48 (by decide) ?_
      exact pm_iretR S hr hlk (Option.some.inj h) dX1_rootOf_49
    · rw [if_neg c1] at h
      refine lv_lload_n S.1 S.2.1 dX1_rootOf_12 rfl (lv_at hl 1 rfl) ?_
      refine lv_iload S.1 S.2.1 dX1_rootOf_13 (lv_at hl 4 rfl) ?_
      refine lv_i2l S.1 S.2.1 dX1_rootOf_15 rfl ?_
      refine lv_lmul S.1 S.2.1 dX1_rootOf_16 ?_
      refine lv_lload_n S.1 S.2.1 dX1_rootOf_17 rfl (lv_at hl 2 rfl) ?_
      refine lv_ladd S.1 S.2.1 dX1_rootOf_18 ?_
      refine lv_iload S.1 S.2.1 dX1_rootOf_19 (lv_at hl 4 rfl) ?_
      refine lv_i2l S.1 S.2.1 dX1_rootOf_21 rfl ?_
      refine lv_lmul S.1 S.2.1 dX1_rootOf_22 ?_
      refine lv_lload S.1 S.2.1 dX1_rootOf_23 (lv_at hl 3 rfl) ?_
      refine lv_ladd S.1 S.2.1 dX1_rootOf_25 ?_
      refine lv_aload_n S.1 S.2.1 dX1_rootOf_26 rfl (lv_at hl 0 rfl) ?_
      refine gf_1_8 S hK hP hth mw_1_146 dX1_rootOf_27 ?_
      refine lv_i2l S.1 S.2.1 dX1_rootOf_30 rfl ?_
      obtain ⟨v2, ev2, h⟩ := ob_s h
      refine pm_cS (As := [.long ((((l1 * (l7.toInt64)) + l3) * (l7.toInt64)) + l5), .long ((r32 z 28 th).toInt64)]) (rest := []) S (c_X4_rest l ((((l1 * (l7.toInt64)) + l3) * (l7.toInt64)) + l5) ((r32 z 28 th).toInt64) v2 ev2) sm_X4_rest mw_2_143 ⟨⟨rfl, rfl⟩, by decide, by decide⟩ rfl hl.1 rfl (Nat.le_of_ble_eq_true rfl) ⟨Nat.zero_le _, Nat.zero_le _⟩ dX1_rootOf_31 ?_
      refine lv_lconst (v := 0) S.1 S.2.1 dX1_rootOf_34 (by decide) ?_
      refine pm_lne (tgt := 42) S dX1_rootOf_35 dX1_rootOf_36 (by decide) (fun c3 => ?_) (fun c3 => ?_)
      · rw [if_neg c3] at h
        obtain ⟨v4, ev4, h⟩ := bd_s h
        refine lv_iinc (v := v4) (lv' := [(7, .int v4), (0, .ref th), (1, .long l1), (3, .long l3), (5, .long l5)]) S.1 S.2.1 dX1_rootOf_42 hl (k := 4) rfl (by rw [ev4]; rfl) (by decide) rfl (fun ls hl => ?_)
        refine lv_goto (tgt := 3) S.1 S.2.1 dX1_rootOf_45 (by decide) ?_
        exact ih l1 l3 l5 v4 ls h (lv_sub hl [1, 2, 3, 4, 0] rfl)
      · rw [if_pos c3] at h
        refine lv_iload S.1 S.2.1 dX1_rootOf_39 (lv_at hl 4 rfl) ?_
        exact pm_iretR S hr hlk (Option.some.inj h) dX1_rootOf_41
def g_X1_rootOf (ev : EV) (z : PS) (th : Nat) (l1 : Int64) (l3 : Int64) (l5 : Int64) : Option Int32 := q_X1_rootOf_3 ev z th FU l1 l3 l5 (0 : Int32)
set_option maxRecDepth 20000 in
set_option maxHeartbeats 4000000 in
theorem c_X1_rootOf (l : Launch) (ev : EV) (z : PS) (E : EWF ev) {th : Nat} (hth : isK ev 1 th) (th_ : Nat) (l1 : Int64) (l3 : Int64) (l5 : Int64) (r : Int32) (h : g_X1_rootOf ev z th l1 l3 l5 = some r) : Met l yX1_rootOf (pWs yX1_rootOf cX1_rootOf 8 (some .int)) (pR 1 37) (va_Pc [.ref th, .long l1, .long l3, .long l5] (pPe ev z)) (k2_QcV (.int r)) 0 0 (fun _ => False) := by
  refine pm_of (by decide) (Nat.le_of_ble_eq_true rfl) ?_
  intro p e s m below meth c S hr hlk hv ls hl
  obtain ⟨hP, hK, hX⟩ := hv
  have hl : lv_has ls 8 [(0, .ref th), (1, .long l1), (3, .long l3), (5, .long l5)] := hl
  unfold g_X1_rootOf at h
  refine lv_iconst (v := 0) S.1 S.2.1 dX1_rootOf_0 (by decide) ?_
  refine lv_istore (lv' := [(7, .int (0 : Int32)), (0, .ref th), (1, .long l1), (3, .long l3), (5, .long l5)]) S.1 S.2.1 dX1_rootOf_1 hl (by decide) rfl (fun ls hl => ?_)
  exact w_X1_rootOf_3 S hr hlk E hK hX hP hth FU l1 l3 l5 (0 : Int32) ls h (lv_sub hl [1, 2, 3, 4, 0] rfl)
theorem vm_X1_rootOf : pm_Vm yX1_rootOf cX1_rootOf 8 (some .int) 3 := ⟨mw_2_193, mw_2_192, ms_247, mw_1_5, by decide, by decide⟩
def q_X1_tellEarlyKind_112 (ev : EV) (th : Nat) (t0 : Int32) (z : PS) : Option (Int32 × PS) := if t0 = 0 then (ob (g_X1_tell ev z th (4 : Int32) ((r32 z 25 th) - (2 : Int32)) (3 : Int32) (1 : Int32)) (fun z14 => some ((1 : Int32), z14))) else (ob (g_X1_tell ev z th (4 : Int32) ((r32 z 25 th) - (2 : Int32)) (3 : Int32) (3 : Int32)) (fun z15 => some ((1 : Int32), z15)))
set_option maxRecDepth 20000 in
set_option maxHeartbeats 4000000 in
theorem w_X1_tellEarlyKind_112 {ev : EV} {th : Nat} {p : Program} {l : Launch} {e : Env} {s : State} {m : MethodId} {args : Array Value} {below : List Frame} {meth : Method} {c : Code} {r : Int32} {z9 : PS} (S : CallFix p m c cX1_tellEarlyKind 2 s args gT RX1) (hr : meth.sig.returnType = (some .boolean)) (hlk : meth.locks = false) (E : EWF ev) (hK : KK ev s) (hX : pXt ev s) (hth : isK ev 1 th) : ∀ (t0 : Int32) (z : PS) (ls : Array Slot) (H : Heap) (locs : List Loc), q_X1_tellEarlyKind_112 ev th t0 z = some (r, z9) → lv_has ls 2 [(0, .ref th)] → Wd ev z H → SS ev s H locs → W p l e (pR 2 76) s m args below meth c H locs 0 0 (MQ below (pQi ev r z9) args s 0 0 (eA ev)) (F0 m 112 ls [.int t0]) := by
  intro t0 z ls H locs h hl hP hS
  unfold q_X1_tellEarlyKind_112 at h
  refine lv_istore_n (lv' := [(1, .int t0), (0, .ref th)]) S.1 S.2.1 dX1_tellEarlyKind_112 rfl hl (by decide) rfl (fun ls hl => ?_)
  refine lv_aload_n S.1 S.2.1 dX1_tellEarlyKind_113 rfl (lv_at hl 1 rfl) ?_
  refine lv_iconst (v := 4) S.1 S.2.1 dX1_tellEarlyKind_114 (by decide) ?_
  refine lv_aload_n S.1 S.2.1 dX1_tellEarlyKind_115 rfl (lv_at hl 1 rfl) ?_
  refine gf_1_5 S hK hP hth mw_1_142 dX1_tellEarlyKind_116 ?_
  refine lv_iconst (v := 2) S.1 S.2.1 dX1_tellEarlyKind_119 (by decide) ?_
  refine lv_isub S.1 S.2.1 dX1_tellEarlyKind_120 ?_
  refine lv_iconst (v := 3) S.1 S.2.1 dX1_tellEarlyKind_121 (by decide) ?_
  refine lv_iload_n S.1 S.2.1 dX1_tellEarlyKind_122 rfl (lv_at hl 0 rfl) ?_
  refine lv_if_eq (tgt := 130) S.1 S.2.1 dX1_tellEarlyKind_123 (by decide) (fun c13 => ?_) (fun c13 => ?_)
  · rw [if_pos c13] at h
    refine lv_iconst (v := 1) S.1 S.2.1 dX1_tellEarlyKind_130 (by decide) ?_
    obtain ⟨z14, ez14, h⟩ := ob_s h
    refine pm_cVv (As := [.int (4 : Int32), .int ((r32 z 25 th) - (2 : Int32)), .int (3 : Int32), .int (1 : Int32)]) (rest := []) S hK hX hP hS (c_X1_tell l ev z E hth th (4 : Int32) ((r32 z 25 th) - (2 : Int32)) (3 : Int32) (1 : Int32) z14 ez14) vm_X1_tell mw_2_139 (rc_1 hK hP hth) ⟨⟨rfl, rfl⟩, by decide, by decide⟩ rfl hl.1 rfl (Nat.le_of_ble_eq_true rfl) ⟨Nat.zero_le _, Nat.zero_le _⟩ dX1_tellEarlyKind_131 (fun H locs hP hS => ?_)
    refine lv_iconst (v := 1) S.1 S.2.1 dX1_tellEarlyKind_134 (by decide) ?_
    have h9 := Option.some.inj h
    exact pm_zretW S hr hlk (Or.inr rfl) hP hS (congrArg Prod.fst h9) (congrArg Prod.snd h9) dX1_tellEarlyKind_135
  · rw [if_neg c13] at h
    refine lv_iconst (v := 3) S.1 S.2.1 dX1_tellEarlyKind_126 (by decide) ?_
    refine lv_goto (tgt := 131) S.1 S.2.1 dX1_tellEarlyKind_127 (by decide) ?_
    obtain ⟨z15, ez15, h⟩ := ob_s h
    refine pm_cVv (As := [.int (4 : Int32), .int ((r32 z 25 th) - (2 : Int32)), .int (3 : Int32), .int (3 : Int32)]) (rest := []) S hK hX hP hS (c_X1_tell l ev z E hth th (4 : Int32) ((r32 z 25 th) - (2 : Int32)) (3 : Int32) (3 : Int32) z15 ez15) vm_X1_tell mw_2_139 (rc_1 hK hP hth) ⟨⟨rfl, rfl⟩, by decide, by decide⟩ rfl hl.1 rfl (Nat.le_of_ble_eq_true rfl) ⟨Nat.zero_le _, Nat.zero_le _⟩ dX1_tellEarlyKind_131 (fun H locs hP hS => ?_)
    refine lv_iconst (v := 1) S.1 S.2.1 dX1_tellEarlyKind_134 (by decide) ?_
    have h9 := Option.some.inj h
    exact pm_zretW S hr hlk (Or.inr rfl) hP hS (congrArg Prod.fst h9) (congrArg Prod.snd h9) dX1_tellEarlyKind_135
def g_X1_tellEarlyKind (ev : EV) (z : PS) (th : Nat) : Option (Int32 × PS) := ob (g_X1_goesIn ev z th (r64 z 4 (rf ev 27 th)) (2 : Int32)) (fun v1 => if v1 = 0 then (ob (g_X1_tell ev z th (2 : Int32) (r32 z 25 th) (1 : Int32) (1 : Int32)) (fun z12 => some ((1 : Int32), z12))) else (ob (g_X1_goesIn ev z th (r64 z 8 (rf ev 27 th)) (3 : Int32)) (fun v3 => if v3 = 0 then (ob (g_X1_tell ev z th (3 : Int32) ((r32 z 25 th) - (1 : Int32)) (2 : Int32) (2 : Int32)) (fun z11 => some ((1 : Int32), z11))) else (ob (g_X1_goesIn ev z th (r64 z 7 (rf ev 27 th)) (3 : Int32)) (fun v5 => if v5 = 0 then (ob (g_X1_part ev z th (r64 z 2 (rf ev 27 th)) (1 : Int32)) (fun v7 => ob (g_X1_part ev z th (r64 z 4 (rf ev 27 th)) (2 : Int32)) (fun v8 => ob (g_X1_rootOf ev z th (1 : Int64) v7 (-v8)) (fun v9 => if v9 = (-1 : Int32) then (q_X1_tellEarlyKind_112 ev th (0 : Int32) z) else (q_X1_tellEarlyKind_112 ev th (1 : Int32) z))))) else (some ((0 : Int32), z)))))))
set_option maxRecDepth 20000 in
set_option maxHeartbeats 4000000 in
theorem c_X1_tellEarlyKind (l : Launch) (ev : EV) (z : PS) (E : EWF ev) {th : Nat} (hth : isK ev 1 th) (th_ : Nat) (r : Int32) (z9 : PS) (h : g_X1_tellEarlyKind ev z th = some (r, z9)) : Met l yX1_tellEarlyKind (pWs yX1_tellEarlyKind cX1_tellEarlyKind 2 (some .boolean)) (pR 2 76) (va_Pc [.ref th] (pPe ev z)) (pQi ev r z9) 0 0 (eA ev) := by
  refine pm_of (by decide) (Nat.le_of_ble_eq_true rfl) ?_
  intro p e s m below meth c S hr hlk hv ls hl
  obtain ⟨hP, hK, hX⟩ := hv
  have hS : SS ev s s.heap [] := va_S.rf
  have hl : lv_has ls 2 [(0, .ref th)] := hl
  unfold g_X1_tellEarlyKind at h
  refine lv_aload_n S.1 S.2.1 dX1_tellEarlyKind_0 rfl (lv_at hl 0 rfl) ?_
  refine lv_aload_n S.1 S.2.1 dX1_tellEarlyKind_1 rfl (lv_at hl 0 rfl) ?_
  refine gf_1_7 S hK hP hth mw_1_145 dX1_tellEarlyKind_2 ?_
  refine gf_0_4 S hK hP (E_1_7 E hth) mw_1_45 dX1_tellEarlyKind_5 ?_
  refine lv_iconst (v := 2) S.1 S.2.1 dX1_tellEarlyKind_8 (by decide) ?_
  obtain ⟨v1, ev1, h⟩ := ob_s h
  refine pm_cVr (As := [.long (r64 z 4 (rf ev 27 th)), .int (2 : Int32)]) (rest := []) S hK hX hP hS (c_X1_goesIn l ev z E hth th (r64 z 4 (rf ev 27 th)) (2 : Int32) v1 ev1) vm_X1_goesIn mw_2_180 (rc_1 hK hP hth) ⟨⟨rfl, rfl⟩, by decide, by decide⟩ rfl hl.1 rfl (Nat.le_of_ble_eq_true rfl) ⟨Nat.zero_le _, Nat.zero_le _⟩ dX1_tellEarlyKind_9 ?_
  refine lv_if_ne (tgt := 28) S.1 S.2.1 dX1_tellEarlyKind_12 (by decide) (fun c2 => ?_) (fun c2 => ?_)
  · rw [if_neg c2] at h
    refine lv_aload_n S.1 S.2.1 dX1_tellEarlyKind_28 rfl (lv_at hl 0 rfl) ?_
    refine lv_aload_n S.1 S.2.1 dX1_tellEarlyKind_29 rfl (lv_at hl 0 rfl) ?_
    refine gf_1_7 S hK hP hth mw_1_145 dX1_tellEarlyKind_30 ?_
    refine gf_0_8 S hK hP (E_1_7 E hth) mw_1_52 dX1_tellEarlyKind_33 ?_
    refine lv_iconst (v := 3) S.1 S.2.1 dX1_tellEarlyKind_36 (by decide) ?_
    obtain ⟨v3, ev3, h⟩ := ob_s h
    refine pm_cVr (As := [.long (r64 z 8 (rf ev 27 th)), .int (3 : Int32)]) (rest := []) S hK hX hP hS (c_X1_goesIn l ev z E hth th (r64 z 8 (rf ev 27 th)) (3 : Int32) v3 ev3) vm_X1_goesIn mw_2_180 (rc_1 hK hP hth) ⟨⟨rfl, rfl⟩, by decide, by decide⟩ rfl hl.1 rfl (Nat.le_of_ble_eq_true rfl) ⟨Nat.zero_le _, Nat.zero_le _⟩ dX1_tellEarlyKind_37 ?_
    refine lv_if_ne (tgt := 58) S.1 S.2.1 dX1_tellEarlyKind_40 (by decide) (fun c4 => ?_) (fun c4 => ?_)
    · rw [if_neg c4] at h
      refine lv_aload_n S.1 S.2.1 dX1_tellEarlyKind_58 rfl (lv_at hl 0 rfl) ?_
      refine lv_aload_n S.1 S.2.1 dX1_tellEarlyKind_59 rfl (lv_at hl 0 rfl) ?_
      refine gf_1_7 S hK hP hth mw_1_145 dX1_tellEarlyKind_60 ?_
      refine gf_0_7 S hK hP (E_1_7 E hth) mw_1_50 dX1_tellEarlyKind_63 ?_
      refine lv_iconst (v := 3) S.1 S.2.1 dX1_tellEarlyKind_66 (by decide) ?_
      obtain ⟨v5, ev5, h⟩ := ob_s h
      refine pm_cVr (As := [.long (r64 z 7 (rf ev 27 th)), .int (3 : Int32)]) (rest := []) S hK hX hP hS (c_X1_goesIn l ev z E hth th (r64 z 7 (rf ev 27 th)) (3 : Int32) v5 ev5) vm_X1_goesIn mw_2_180 (rc_1 hK hP hth) ⟨⟨rfl, rfl⟩, by decide, by decide⟩ rfl hl.1 rfl (Nat.le_of_ble_eq_true rfl) ⟨Nat.zero_le _, Nat.zero_le _⟩ dX1_tellEarlyKind_67 ?_
      refine lv_if_ne (tgt := 136) S.1 S.2.1 dX1_tellEarlyKind_70 (by decide) (fun c6 => ?_) (fun c6 => ?_)
      · rw [if_neg c6] at h
        refine lv_iconst (v := 0) S.1 S.2.1 dX1_tellEarlyKind_136 (by decide) ?_
        have h9 := Option.some.inj h
        exact pm_zretW S hr hlk (Or.inl rfl) hP hS (congrArg Prod.fst h9) (congrArg Prod.snd h9) dX1_tellEarlyKind_137
      · rw [if_pos c6] at h
        refine lv_aload_n S.1 S.2.1 dX1_tellEarlyKind_73 rfl (lv_at hl 0 rfl) ?_
        refine lv_lconst (v := 1) S.1 S.2.1 dX1_tellEarlyKind_74 (by decide) ?_
        refine lv_aload_n S.1 S.2.1 dX1_tellEarlyKind_75 rfl (lv_at hl 0 rfl) ?_
        refine lv_aload_n S.1 S.2.1 dX1_tellEarlyKind_76 rfl (lv_at hl 0 rfl) ?_
        refine gf_1_7 S hK hP hth mw_1_145 dX1_tellEarlyKind_77 ?_
        refine gf_0_2 S hK hP (E_1_7 E hth) mw_1_41 dX1_tellEarlyKind_80 ?_
        refine lv_iconst (v := 1) S.1 S.2.1 dX1_tellEarlyKind_83 (by decide) ?_
        obtain ⟨v7, ev7, h⟩ := ob_s h
        refine pm_cVr (As := [.long (r64 z 2 (rf ev 27 th)), .int (1 : Int32)]) (rest := [.long (1 : Int64), .ref th]) S hK hX hP hS (c_X1_part l ev z E hth th (r64 z 2 (rf ev 27 th)) (1 : Int32) v7 ev7) vm_X1_part mw_2_185 (rc_1 hK hP hth) ⟨⟨rfl, rfl⟩, by decide, by decide⟩ rfl hl.1 rfl (Nat.le_of_ble_eq_true rfl) ⟨Nat.zero_le _, Nat.zero_le _⟩ dX1_tellEarlyKind_84 ?_
        refine lv_aload_n S.1 S.2.1 dX1_tellEarlyKind_87 rfl (lv_at hl 0 rfl) ?_
        refine lv_aload_n S.1 S.2.1 dX1_tellEarlyKind_88 rfl (lv_at hl 0 rfl) ?_
        refine gf_1_7 S hK hP hth mw_1_145 dX1_tellEarlyKind_89 ?_
        refine gf_0_4 S hK hP (E_1_7 E hth) mw_1_45 dX1_tellEarlyKind_92 ?_
        refine lv_iconst (v := 2) S.1 S.2.1 dX1_tellEarlyKind_95 (by decide) ?_
        obtain ⟨v8, ev8, h⟩ := ob_s h
        refine pm_cVr (As := [.long (r64 z 4 (rf ev 27 th)), .int (2 : Int32)]) (rest := [.long v7, .long (1 : Int64), .ref th]) S hK hX hP hS (c_X1_part l ev z E hth th (r64 z 4 (rf ev 27 th)) (2 : Int32) v8 ev8) vm_X1_part mw_2_185 (rc_1 hK hP hth) ⟨⟨rfl, rfl⟩, by decide, by decide⟩ rfl hl.1 rfl (Nat.le_of_ble_eq_true rfl) ⟨Nat.zero_le _, Nat.zero_le _⟩ dX1_tellEarlyKind_96 ?_
        refine lv_lneg S.1 S.2.1 dX1_tellEarlyKind_99 ?_
        obtain ⟨v9, ev9, h⟩ := ob_s h
        refine pm_cVr (As := [.long (1 : Int64), .long v7, .long (-v8)]) (rest := []) S hK hX hP hS (c_X1_rootOf l ev z E hth th (1 : Int64) v7 (-v8) v9 ev9) vm_X1_rootOf mw_2_190 (rc_1 hK hP hth) ⟨⟨rfl, rfl⟩, by decide, by decide⟩ rfl hl.1 rfl (Nat.le_of_ble_eq_true rfl) ⟨Nat.zero_le _, Nat.zero_le _⟩ dX1_tellEarlyKind_100 ?_
        refine lv_iconst (v := -1) S.1 S.2.1 dX1_tellEarlyKind_103 (by decide) ?_
        refine lv_icmp_eq (tgt := 111) S.1 S.2.1 dX1_tellEarlyKind_104 (by decide) (fun c10 => ?_) (fun c10 => ?_)
        · rw [if_pos c10] at h
          refine lv_iconst (v := 0) S.1 S.2.1 dX1_tellEarlyKind_111 (by decide) ?_
          exact w_X1_tellEarlyKind_112 S hr hlk E hK hX hth (0 : Int32) z ls _ _ h (lv_sub hl [0] rfl) hP hS
        · rw [if_neg c10] at h
          refine lv_iconst (v := 1) S.1 S.2.1 dX1_tellEarlyKind_107 (by decide) ?_
          refine lv_goto (tgt := 112) S.1 S.2.1 dX1_tellEarlyKind_108 (by decide) ?_
          exact w_X1_tellEarlyKind_112 S hr hlk E hK hX hth (1 : Int32) z ls _ _ h (lv_sub hl [0] rfl) hP hS
    · rw [if_pos c4] at h
      refine lv_aload_n S.1 S.2.1 dX1_tellEarlyKind_43 rfl (lv_at hl 0 rfl) ?_
      refine lv_iconst (v := 3) S.1 S.2.1 dX1_tellEarlyKind_44 (by decide) ?_
      refine lv_aload_n S.1 S.2.1 dX1_tellEarlyKind_45 rfl (lv_at hl 0 rfl) ?_
      refine gf_1_5 S hK hP hth mw_1_142 dX1_tellEarlyKind_46 ?_
      refine lv_iconst (v := 1) S.1 S.2.1 dX1_tellEarlyKind_49 (by decide) ?_
      refine lv_isub S.1 S.2.1 dX1_tellEarlyKind_50 ?_
      refine lv_iconst (v := 2) S.1 S.2.1 dX1_tellEarlyKind_51 (by decide) ?_
      refine lv_iconst (v := 2) S.1 S.2.1 dX1_tellEarlyKind_52 (by decide) ?_
      obtain ⟨z11, ez11, h⟩ := ob_s h
      refine pm_cVv (As := [.int (3 : Int32), .int ((r32 z 25 th) - (1 : Int32)), .int (2 : Int32), .int (2 : Int32)]) (rest := []) S hK hX hP hS (c_X1_tell l ev z E hth th (3 : Int32) ((r32 z 25 th) - (1 : Int32)) (2 : Int32) (2 : Int32) z11 ez11) vm_X1_tell mw_2_139 (rc_1 hK hP hth) ⟨⟨rfl, rfl⟩, by decide, by decide⟩ rfl hl.1 rfl (Nat.le_of_ble_eq_true rfl) ⟨Nat.zero_le _, Nat.zero_le _⟩ dX1_tellEarlyKind_53 (fun H locs hP hS => ?_)
      refine lv_iconst (v := 1) S.1 S.2.1 dX1_tellEarlyKind_56 (by decide) ?_
      have h9 := Option.some.inj h
      exact pm_zretW S hr hlk (Or.inr rfl) hP hS (congrArg Prod.fst h9) (congrArg Prod.snd h9) dX1_tellEarlyKind_57
  · rw [if_pos c2] at h
    refine lv_aload_n S.1 S.2.1 dX1_tellEarlyKind_15 rfl (lv_at hl 0 rfl) ?_
    refine lv_iconst (v := 2) S.1 S.2.1 dX1_tellEarlyKind_16 (by decide) ?_
    refine lv_aload_n S.1 S.2.1 dX1_tellEarlyKind_17 rfl (lv_at hl 0 rfl) ?_
    refine gf_1_5 S hK hP hth mw_1_142 dX1_tellEarlyKind_18 ?_
    refine lv_iconst (v := 1) S.1 S.2.1 dX1_tellEarlyKind_21 (by decide) ?_
    refine lv_iconst (v := 1) S.1 S.2.1 dX1_tellEarlyKind_22 (by decide) ?_
    obtain ⟨z12, ez12, h⟩ := ob_s h
    refine pm_cVv (As := [.int (2 : Int32), .int (r32 z 25 th), .int (1 : Int32), .int (1 : Int32)]) (rest := []) S hK hX hP hS (c_X1_tell l ev z E hth th (2 : Int32) (r32 z 25 th) (1 : Int32) (1 : Int32) z12 ez12) vm_X1_tell mw_2_139 (rc_1 hK hP hth) ⟨⟨rfl, rfl⟩, by decide, by decide⟩ rfl hl.1 rfl (Nat.le_of_ble_eq_true rfl) ⟨Nat.zero_le _, Nat.zero_le _⟩ dX1_tellEarlyKind_23 (fun H locs hP hS => ?_)
    refine lv_iconst (v := 1) S.1 S.2.1 dX1_tellEarlyKind_26 (by decide) ?_
    have h9 := Option.some.inj h
    exact pm_zretW S hr hlk (Or.inr rfl) hP hS (congrArg Prod.fst h9) (congrArg Prod.snd h9) dX1_tellEarlyKind_27
theorem vm_X1_tellEarlyKind : pm_Vm yX1_tellEarlyKind cX1_tellEarlyKind 2 (some .boolean) 0 := ⟨mw_2_179, mw_2_178, ms_255, mw_1_5, by decide, by decide⟩
def g_X1_moveForCubic (ev : EV) (z : PS) (th : Nat) : Option PS := if (r32 z 28 th) = (2 : Int32) then (ob (g_X4_rest (r64 z 1 (rf ev 27 th)) (2 : Int64)) (fun v6 => ob (g_X1_part ev z th (r64 z 4 (rf ev 27 th)) (2 : Int32)) (fun v7 => ob (g_X4_rest v7 (2 : Int64)) (fun v8 => ob (g_X0_shift ev z (rf ev 27 th) (0 : Int64) v6 ((2 : Int64) * v8)) (fun z9 => some z9))))) else (ob (g_X1_half ev z th (-(r64 z 0 (rf ev 27 th)))) (fun v2 => ob (g_X1_part ev z th (r64 z 2 (rf ev 27 th)) (1 : Int32)) (fun v3 => ob (g_X1_half ev z th (-v3)) (fun v4 => ob (g_X0_shift ev z (rf ev 27 th) (0 : Int64) v2 (((r32 z 28 th).toInt64) * v4)) (fun z5 => some z5)))))
set_option maxRecDepth 20000 in
set_option maxHeartbeats 4000000 in
theorem c_X1_moveForCubic (l : Launch) (ev : EV) (z : PS) (E : EWF ev) {th : Nat} (hth : isK ev 1 th) (th_ : Nat) (z9 : PS) (h : g_X1_moveForCubic ev z th = some z9) : Met l yX1_moveForCubic (pWs yX1_moveForCubic cX1_moveForCubic 1 none) (pR 2 80) (va_Pc [.ref th] (pPe ev z)) (pQv ev z9) 0 0 (eA ev) := by
  refine pm_of (by decide) (Nat.le_of_ble_eq_true rfl) ?_
  intro p e s m below meth c S hr hlk hv ls hl
  obtain ⟨hP, hK, hX⟩ := hv
  have hS : SS ev s s.heap [] := va_S.rf
  have hl : lv_has ls 1 [(0, .ref th)] := hl
  unfold g_X1_moveForCubic at h
  refine lv_aload_n S.1 S.2.1 dX1_moveForCubic_0 rfl (lv_at hl 0 rfl) ?_
  refine gf_1_8 S hK hP hth mw_1_146 dX1_moveForCubic_1 ?_
  refine lv_iconst (v := 2) S.1 S.2.1 dX1_moveForCubic_4 (by decide) ?_
  refine lv_icmp_ne (tgt := 54) S.1 S.2.1 dX1_moveForCubic_5 (by decide) (fun c1 => ?_) (fun c1 => ?_)
  · rw [if_neg c1] at h
    refine lv_aload_n S.1 S.2.1 dX1_moveForCubic_54 rfl (lv_at hl 0 rfl) ?_
    refine gf_1_7 S hK hP hth mw_1_145 dX1_moveForCubic_55 ?_
    refine lv_lconst (v := 0) S.1 S.2.1 dX1_moveForCubic_58 (by decide) ?_
    refine lv_aload_n S.1 S.2.1 dX1_moveForCubic_59 rfl (lv_at hl 0 rfl) ?_
    refine lv_aload_n S.1 S.2.1 dX1_moveForCubic_60 rfl (lv_at hl 0 rfl) ?_
    refine gf_1_7 S hK hP hth mw_1_145 dX1_moveForCubic_61 ?_
    refine gf_0_0 S hK hP (E_1_7 E hth) mw_1_37 dX1_moveForCubic_64 ?_
    refine lv_lneg S.1 S.2.1 dX1_moveForCubic_67 ?_
    obtain ⟨v2, ev2, h⟩ := ob_s h
    refine pm_cVr (As := [.long (-(r64 z 0 (rf ev 27 th)))]) (rest := [.long (0 : Int64), .ref (rf ev 27 th)]) S hK hX hP hS (c_X1_half l ev z E hth th (-(r64 z 0 (rf ev 27 th))) v2 ev2) vm_X1_half mw_2_171 (rc_1 hK hP hth) ⟨⟨rfl, rfl⟩, by decide, by decide⟩ rfl hl.1 rfl (Nat.le_of_ble_eq_true rfl) ⟨Nat.zero_le _, Nat.zero_le _⟩ dX1_moveForCubic_68 ?_
    refine lv_aload_n S.1 S.2.1 dX1_moveForCubic_71 rfl (lv_at hl 0 rfl) ?_
    refine gf_1_8 S hK hP hth mw_1_146 dX1_moveForCubic_72 ?_
    refine lv_i2l S.1 S.2.1 dX1_moveForCubic_75 rfl ?_
    refine lv_aload_n S.1 S.2.1 dX1_moveForCubic_76 rfl (lv_at hl 0 rfl) ?_
    refine lv_aload_n S.1 S.2.1 dX1_moveForCubic_77 rfl (lv_at hl 0 rfl) ?_
    refine lv_aload_n S.1 S.2.1 dX1_moveForCubic_78 rfl (lv_at hl 0 rfl) ?_
    refine gf_1_7 S hK hP hth mw_1_145 dX1_moveForCubic_79 ?_
    refine gf_0_2 S hK hP (E_1_7 E hth) mw_1_41 dX1_moveForCubic_82 ?_
    refine lv_iconst (v := 1) S.1 S.2.1 dX1_moveForCubic_85 (by decide) ?_
    obtain ⟨v3, ev3, h⟩ := ob_s h
    refine pm_cVr (As := [.long (r64 z 2 (rf ev 27 th)), .int (1 : Int32)]) (rest := [.ref th, .long ((r32 z 28 th).toInt64), .long v2, .long (0 : Int64), .ref (rf ev 27 th)]) S hK hX hP hS (c_X1_part l ev z E hth th (r64 z 2 (rf ev 27 th)) (1 : Int32) v3 ev3) vm_X1_part mw_2_185 (rc_1 hK hP hth) ⟨⟨rfl, rfl⟩, by decide, by decide⟩ rfl hl.1 rfl (Nat.le_of_ble_eq_true rfl) ⟨Nat.zero_le _, Nat.zero_le _⟩ dX1_moveForCubic_86 ?_
    refine lv_lneg S.1 S.2.1 dX1_moveForCubic_89 ?_
    obtain ⟨v4, ev4, h⟩ := ob_s h
    refine pm_cVr (As := [.long (-v3)]) (rest := [.long ((r32 z 28 th).toInt64), .long v2, .long (0 : Int64), .ref (rf ev 27 th)]) S hK hX hP hS (c_X1_half l ev z E hth th (-v3) v4 ev4) vm_X1_half mw_2_171 (rc_1 hK hP hth) ⟨⟨rfl, rfl⟩, by decide, by decide⟩ rfl hl.1 rfl (Nat.le_of_ble_eq_true rfl) ⟨Nat.zero_le _, Nat.zero_le _⟩ dX1_moveForCubic_90 ?_
    refine lv_lmul S.1 S.2.1 dX1_moveForCubic_93 ?_
    obtain ⟨z5, ez5, h⟩ := ob_s h
    refine pm_cVv (As := [.long (0 : Int64), .long v2, .long (((r32 z 28 th).toInt64) * v4)]) (rest := []) S hK hX hP hS (c_X0_shift l ev z E (E_1_7 E hth) (rf ev 27 th) (0 : Int64) v2 (((r32 z 28 th).toInt64) * v4) z5 ez5) vm_X0_shift mw_2_175 (rc_0 hK hP (E_1_7 E hth)) ⟨⟨rfl, rfl⟩, by decide, by decide⟩ rfl hl.1 rfl (Nat.le_of_ble_eq_true rfl) ⟨Nat.zero_le _, Nat.zero_le _⟩ dX1_moveForCubic_94 (fun H locs hP hS => ?_)
    exact pm_vretW S hr hlk hP hS (Option.some.inj h) dX1_moveForCubic_97
  · rw [if_pos c1] at h
    refine lv_aload_n S.1 S.2.1 dX1_moveForCubic_8 rfl (lv_at hl 0 rfl) ?_
    refine gf_1_7 S hK hP hth mw_1_145 dX1_moveForCubic_9 ?_
    refine lv_lconst (v := 0) S.1 S.2.1 dX1_moveForCubic_12 (by decide) ?_
    refine lv_aload_n S.1 S.2.1 dX1_moveForCubic_13 rfl (lv_at hl 0 rfl) ?_
    refine gf_1_7 S hK hP hth mw_1_145 dX1_moveForCubic_14 ?_
    refine gf_0_1 S hK hP (E_1_7 E hth) mw_1_39 dX1_moveForCubic_17 ?_
    refine pm_ldc2 S mw_2_148 dX1_moveForCubic_20 ?_
    obtain ⟨v6, ev6, h⟩ := ob_s h
    refine pm_cS (As := [.long (r64 z 1 (rf ev 27 th)), .long (2 : Int64)]) (rest := [.long (0 : Int64), .ref (rf ev 27 th)]) S (c_X4_rest l (r64 z 1 (rf ev 27 th)) (2 : Int64) v6 ev6) sm_X4_rest mw_2_143 ⟨⟨rfl, rfl⟩, by decide, by decide⟩ rfl hl.1 rfl (Nat.le_of_ble_eq_true rfl) ⟨Nat.zero_le _, Nat.zero_le _⟩ dX1_moveForCubic_23 ?_
    refine pm_ldc2 S mw_2_148 dX1_moveForCubic_26 ?_
    refine lv_aload_n S.1 S.2.1 dX1_moveForCubic_29 rfl (lv_at hl 0 rfl) ?_
    refine lv_aload_n S.1 S.2.1 dX1_moveForCubic_30 rfl (lv_at hl 0 rfl) ?_
    refine gf_1_7 S hK hP hth mw_1_145 dX1_moveForCubic_31 ?_
    refine gf_0_4 S hK hP (E_1_7 E hth) mw_1_45 dX1_moveForCubic_34 ?_
    refine lv_iconst (v := 2) S.1 S.2.1 dX1_moveForCubic_37 (by decide) ?_
    obtain ⟨v7, ev7, h⟩ := ob_s h
    refine pm_cVr (As := [.long (r64 z 4 (rf ev 27 th)), .int (2 : Int32)]) (rest := [.long (2 : Int64), .long v6, .long (0 : Int64), .ref (rf ev 27 th)]) S hK hX hP hS (c_X1_part l ev z E hth th (r64 z 4 (rf ev 27 th)) (2 : Int32) v7 ev7) vm_X1_part mw_2_185 (rc_1 hK hP hth) ⟨⟨rfl, rfl⟩, by decide, by decide⟩ rfl hl.1 rfl (Nat.le_of_ble_eq_true rfl) ⟨Nat.zero_le _, Nat.zero_le _⟩ dX1_moveForCubic_38 ?_
    refine pm_ldc2 S mw_2_148 dX1_moveForCubic_41 ?_
    obtain ⟨v8, ev8, h⟩ := ob_s h
    refine pm_cS (As := [.long v7, .long (2 : Int64)]) (rest := [.long (2 : Int64), .long v6, .long (0 : Int64), .ref (rf ev 27 th)]) S (c_X4_rest l v7 (2 : Int64) v8 ev8) sm_X4_rest mw_2_143 ⟨⟨rfl, rfl⟩, by decide, by decide⟩ rfl hl.1 rfl (Nat.le_of_ble_eq_true rfl) ⟨Nat.zero_le _, Nat.zero_le _⟩ dX1_moveForCubic_44 ?_
    refine lv_lmul S.1 S.2.1 dX1_moveForCubic_47 ?_
    obtain ⟨z9, ez9, h⟩ := ob_s h
    refine pm_cVv (As := [.long (0 : Int64), .long v6, .long ((2 : Int64) * v8)]) (rest := []) S hK hX hP hS (c_X0_shift l ev z E (E_1_7 E hth) (rf ev 27 th) (0 : Int64) v6 ((2 : Int64) * v8) z9 ez9) vm_X0_shift mw_2_175 (rc_0 hK hP (E_1_7 E hth)) ⟨⟨rfl, rfl⟩, by decide, by decide⟩ rfl hl.1 rfl (Nat.le_of_ble_eq_true rfl) ⟨Nat.zero_le _, Nat.zero_le _⟩ dX1_moveForCubic_48 (fun H locs hP hS => ?_)
    refine lv_goto (tgt := 97) S.1 S.2.1 dX1_moveForCubic_51 (by decide) ?_
    exact pm_vretW S hr hlk hP hS (Option.some.inj h) dX1_moveForCubic_97
theorem vm_X1_moveForCubic : pm_Vm yX1_moveForCubic cX1_moveForCubic 1 none 0 := ⟨mw_2_197, mw_2_196, ms_259, mw_1_5, by decide, by decide⟩
def g_X1_cubicAt (ev : EV) (z : PS) (th : Nat) (l1 : Int64) (l3 : Int64) (l5 : Int64) (l7 : Int64) : Option Int64 := some (((((l1 + l3) * l1) + l5) * l1) + l7)
set_option maxRecDepth 20000 in
set_option maxHeartbeats 4000000 in
theorem c_X1_cubicAt (l : Launch) (ev : EV) (z : PS) (E : EWF ev) {th : Nat} (hth : isK ev 1 th) (th_ : Nat) (l1 : Int64) (l3 : Int64) (l5 : Int64) (l7 : Int64) (r : Int64) (h : g_X1_cubicAt ev z th l1 l3 l5 l7 = some r) : Met l yX1_cubicAt (pWs yX1_cubicAt cX1_cubicAt 9 (some .long)) (pR 0 0) (va_Pc [.ref th, .long l1, .long l3, .long l5, .long l7] (pPe ev z)) (k2_QcV (.long r)) 0 0 (fun _ => False) := by
  refine pm_of (by decide) (Nat.le_of_ble_eq_true rfl) ?_
  intro p e s m below meth c S hr hlk hv ls hl
  obtain ⟨hP, hK, hX⟩ := hv
  have hl : lv_has ls 9 [(0, .ref th), (1, .long l1), (3, .long l3), (5, .long l5), (7, .long l7)] := hl
  unfold g_X1_cubicAt at h
  refine lv_lload_n S.1 S.2.1 dX1_cubicAt_0 rfl (lv_at hl 1 rfl) ?_
  refine lv_lload_n S.1 S.2.1 dX1_cubicAt_1 rfl (lv_at hl 2 rfl) ?_
  refine lv_ladd S.1 S.2.1 dX1_cubicAt_2 ?_
  refine lv_lload_n S.1 S.2.1 dX1_cubicAt_3 rfl (lv_at hl 1 rfl) ?_
  refine lv_lmul S.1 S.2.1 dX1_cubicAt_4 ?_
  refine lv_lload S.1 S.2.1 dX1_cubicAt_5 (lv_at hl 3 rfl) ?_
  refine lv_ladd S.1 S.2.1 dX1_cubicAt_7 ?_
  refine lv_lload_n S.1 S.2.1 dX1_cubicAt_8 rfl (lv_at hl 1 rfl) ?_
  refine lv_lmul S.1 S.2.1 dX1_cubicAt_9 ?_
  refine lv_lload S.1 S.2.1 dX1_cubicAt_10 (lv_at hl 4 rfl) ?_
  refine lv_ladd S.1 S.2.1 dX1_cubicAt_12 ?_
  exact pm_lretR S hr hlk (Option.some.inj h) dX1_cubicAt_13
theorem vm_X1_cubicAt : pm_Vm yX1_cubicAt cX1_cubicAt 9 (some .long) 4 := ⟨mw_2_208, mw_2_207, ms_262, mw_1_5, by decide, by decide⟩
def q_X1_cubicRoots_6 (ev : EV) (z : PS) (th : Nat) : Nat → Int64 → Int64 → Int64 → Int32 → Int32 → Option Int32
  | 0, _, _, _, _, _ => none
  | n + 1, l1, l3, l5, l7, l8 => if (r32 z 28 th) ≤ l8 then (some l7) else (ob (g_X1_cubicAt ev z th (l8.toInt64) l1 l3 l5) (fun v2 => ob (g_X1_goesIn ev z th v2 (1 : Int32)) (fun v3 => if v3 = 0 then (bd (l8 + (1 : Int32)) (fun v5 => q_X1_cubicRoots_6 ev z th n l1 l3 l5 l7 v5)) else (bd (l7 + (1 : Int32)) (fun v6 => bd (l8 + (1 : Int32)) (fun v7 => q_X1_cubicRoots_6 ev z th n l1 l3 l5 v6 v7))))))
set_option maxRecDepth 20000 in
set_option maxHeartbeats 4000000 in
theorem w_X1_cubicRoots_6 {ev : EV} {z : PS} {th : Nat} {p : Program} {l : Launch} {e : Env} {s : State} {m : MethodId} {args : Array Value} {below : List Frame} {meth : Method} {c : Code} {r : Int32} (S : CallFix p m c cX1_cubicRoots 9 s args gT RX1) (hr : meth.sig.returnType = (some .int)) (hlk : meth.locks = false) (E : EWF ev) (hK : KK ev s) (hX : pXt ev s) (hP : Wd ev z s.heap) (hth : isK ev 1 th) : ∀ (n : Nat), ∀ (l1 : Int64) (l3 : Int64) (l5 : Int64) (l7 : Int32) (l8 : Int32) (ls : Array Slot), q_X1_cubicRoots_6 ev z th n l1 l3 l5 l7 l8 = some r → lv_has ls 9 [(0, .ref th), (1, .long l1), (3, .long l3), (5, .long l5), (7, .int l7), (8, .int l8)] → W p l e (pR 2 72) s m args below meth c s.heap [] 0 0 (MQ below (k2_QcV (.int r)) args s 0 0 (fun _ => False)) (F0 m 6 ls []) := by
  intro n
  induction n with
  | zero => intro l1 l3 l5 l7 l8 ls h; cases h
  | succ n ih =>
    intro l1 l3 l5 l7 l8 ls h hl
    rw [q_X1_cubicRoots_6] at h
    refine lv_iload S.1 S.2.1 dX1_cubicRoots_6 (lv_at hl 5 rfl) ?_
    refine lv_aload_n S.1 S.2.1 dX1_cubicRoots_8 rfl (lv_at hl 0 rfl) ?_
    refine gf_1_8 S hK hP hth mw_1_146 dX1_cubicRoots_9 ?_
    refine lv_icmp_ge (tgt := 43) S.1 S.2.1 dX1_cubicRoots_12 (by decide) (fun c1 => ?_) (fun c1 => ?_)
    · rw [if_pos c1] at h
      refine lv_iload S.1 S.2.1 dX1_cubicRoots_43 (lv_at hl 4 rfl) ?_
      exact pm_iretR S hr hlk (Option.some.inj h) dX1_cubicRoots_45
    · rw [if_neg c1] at h
      refine lv_aload_n S.1 S.2.1 dX1_cubicRoots_15 rfl (lv_at hl 0 rfl) ?_
      refine lv_aload_n S.1 S.2.1 dX1_cubicRoots_16 rfl (lv_at hl 0 rfl) ?_
      refine lv_iload S.1 S.2.1 dX1_cubicRoots_17 (lv_at hl 5 rfl) ?_
      refine lv_i2l S.1 S.2.1 dX1_cubicRoots_19 rfl ?_
      refine lv_lload_n S.1 S.2.1 dX1_cubicRoots_20 rfl (lv_at hl 1 rfl) ?_
      refine lv_lload_n S.1 S.2.1 dX1_cubicRoots_21 rfl (lv_at hl 2 rfl) ?_
      refine lv_lload S.1 S.2.1 dX1_cubicRoots_22 (lv_at hl 3 rfl) ?_
      obtain ⟨v2, ev2, h⟩ := ob_s h
      refine pm_cVr (As := [.long (l8.toInt64), .long l1, .long l3, .long l5]) (rest := [.ref th]) S hK hX hP va_S.rf (c_X1_cubicAt l ev z E hth th (l8.toInt64) l1 l3 l5 v2 ev2) vm_X1_cubicAt mw_2_205 (rc_1 hK hP hth) ⟨⟨rfl, rfl⟩, by decide, by decide⟩ rfl hl.1 rfl (Nat.le_of_ble_eq_true rfl) ⟨Nat.zero_le _, Nat.zero_le _⟩ dX1_cubicRoots_24 ?_
      refine lv_iconst (v := 1) S.1 S.2.1 dX1_cubicRoots_27 (by decide) ?_
      obtain ⟨v3, ev3, h⟩ := ob_s h
      refine pm_cVr (As := [.long v2, .int (1 : Int32)]) (rest := []) S hK hX hP va_S.rf (c_X1_goesIn l ev z E hth th v2 (1 : Int32) v3 ev3) vm_X1_goesIn mw_2_180 (rc_1 hK hP hth) ⟨⟨rfl, rfl⟩, by decide, by decide⟩ rfl hl.1 rfl (Nat.le_of_ble_eq_true rfl) ⟨Nat.zero_le _, Nat.zero_le _⟩ dX1_cubicRoots_28 ?_
      refine lv_if_eq (tgt := 37) S.1 S.2.1 dX1_cubicRoots_31 (by decide) (fun c4 => ?_) (fun c4 => ?_)
      · rw [if_pos c4] at h
        obtain ⟨v5, ev5, h⟩ := bd_s h
        refine lv_iinc (v := v5) (lv' := [(8, .int v5), (0, .ref th), (1, .long l1), (3, .long l3), (5, .long l5), (7, .int l7)]) S.1 S.2.1 dX1_cubicRoots_37 hl (k := 5) rfl (by rw [ev5]; rfl) (by decide) rfl (fun ls hl => ?_)
        refine lv_goto (tgt := 6) S.1 S.2.1 dX1_cubicRoots_40 (by decide) ?_
        exact ih l1 l3 l5 l7 v5 ls h (lv_sub hl [1, 2, 3, 4, 5, 0] rfl)
      · rw [if_neg c4] at h
        obtain ⟨v6, ev6, h⟩ := bd_s h
        refine lv_iinc (v := v6) (lv' := [(7, .int v6), (0, .ref th), (1, .long l1), (3, .long l3), (5, .long l5), (8, .int l8)]) S.1 S.2.1 dX1_cubicRoots_34 hl (k := 4) rfl (by rw [ev6]; rfl) (by decide) rfl (fun ls hl => ?_)
        obtain ⟨v7, ev7, h⟩ := bd_s h
        refine lv_iinc (v := v7) (lv' := [(8, .int v7), (7, .int v6), (0, .ref th), (1, .long l1), (3, .long l3), (5, .long l5)]) S.1 S.2.1 dX1_cubicRoots_37 hl (k := 5) rfl (by rw [ev7]; rfl) (by decide) rfl (fun ls hl => ?_)
        refine lv_goto (tgt := 6) S.1 S.2.1 dX1_cubicRoots_40 (by decide) ?_
        exact ih l1 l3 l5 v6 v7 ls h (lv_sub hl [2, 3, 4, 5, 1, 0] rfl)
def g_X1_cubicRoots (ev : EV) (z : PS) (th : Nat) (l1 : Int64) (l3 : Int64) (l5 : Int64) : Option Int32 := q_X1_cubicRoots_6 ev z th FU l1 l3 l5 (0 : Int32) (0 : Int32)
set_option maxRecDepth 20000 in
set_option maxHeartbeats 4000000 in
theorem c_X1_cubicRoots (l : Launch) (ev : EV) (z : PS) (E : EWF ev) {th : Nat} (hth : isK ev 1 th) (th_ : Nat) (l1 : Int64) (l3 : Int64) (l5 : Int64) (r : Int32) (h : g_X1_cubicRoots ev z th l1 l3 l5 = some r) : Met l yX1_cubicRoots (pWs yX1_cubicRoots cX1_cubicRoots 9 (some .int)) (pR 2 72) (va_Pc [.ref th, .long l1, .long l3, .long l5] (pPe ev z)) (k2_QcV (.int r)) 0 0 (fun _ => False) := by
  refine pm_of (by decide) (Nat.le_of_ble_eq_true rfl) ?_
  intro p e s m below meth c S hr hlk hv ls hl
  obtain ⟨hP, hK, hX⟩ := hv
  have hl : lv_has ls 9 [(0, .ref th), (1, .long l1), (3, .long l3), (5, .long l5)] := hl
  unfold g_X1_cubicRoots at h
  refine lv_iconst (v := 0) S.1 S.2.1 dX1_cubicRoots_0 (by decide) ?_
  refine lv_istore (lv' := [(7, .int (0 : Int32)), (0, .ref th), (1, .long l1), (3, .long l3), (5, .long l5)]) S.1 S.2.1 dX1_cubicRoots_1 hl (by decide) rfl (fun ls hl => ?_)
  refine lv_iconst (v := 0) S.1 S.2.1 dX1_cubicRoots_3 (by decide) ?_
  refine lv_istore (lv' := [(8, .int (0 : Int32)), (7, .int (0 : Int32)), (0, .ref th), (1, .long l1), (3, .long l3), (5, .long l5)]) S.1 S.2.1 dX1_cubicRoots_4 hl (by decide) rfl (fun ls hl => ?_)
  exact w_X1_cubicRoots_6 S hr hlk E hK hX hP hth FU l1 l3 l5 (0 : Int32) (0 : Int32) ls h (lv_sub hl [2, 3, 4, 5, 1, 0] rfl)
theorem vm_X1_cubicRoots : pm_Vm yX1_cubicRoots cX1_cubicRoots 9 (some .int) 3 := ⟨mw_2_204, mw_2_203, ms_266, mw_1_5, by decide, by decide⟩
def q_X1_multipleRoot_3 (ev : EV) (z : PS) (th : Nat) : Nat → Int64 → Int64 → Int64 → Int32 → Option Int64
  | 0, _, _, _, _ => none
  | n + 1, l1, l3, l5, l7 => if (r32 z 28 th) ≤ l7 then (some (0 : Int64)) else (ob (g_X1_cubicAt ev z th (l7.toInt64) l1 l3 l5) (fun v2 => ob (g_X1_goesIn ev z th v2 (1 : Int32)) (fun v3 => if v3 = 0 then (bd (l7 + (1 : Int32)) (fun v5 => q_X1_multipleRoot_3 ev z th n l1 l3 l5 v5)) else (ob (g_X1_goesIn ev z th (((((3 : Int64) * (l7.toInt64)) + ((2 : Int64) * l1)) * (l7.toInt64)) + l3) (1 : Int32)) (fun v6 => if v6 = 0 then (bd (l7 + (1 : Int32)) (fun v8 => q_X1_multipleRoot_3 ev z th n l1 l3 l5 v8)) else (some (l7.toInt64)))))))
set_option maxRecDepth 20000 in
set_option maxHeartbeats 4000000 in
theorem w_X1_multipleRoot_3 {ev : EV} {z : PS} {th : Nat} {p : Program} {l : Launch} {e : Env} {s : State} {m : MethodId} {args : Array Value} {below : List Frame} {meth : Method} {c : Code} {r : Int64} (S : CallFix p m c cX1_multipleRoot 8 s args gT RX1) (hr : meth.sig.returnType = (some .long)) (hlk : meth.locks = false) (E : EWF ev) (hK : KK ev s) (hX : pXt ev s) (hP : Wd ev z s.heap) (hth : isK ev 1 th) : ∀ (n : Nat), ∀ (l1 : Int64) (l3 : Int64) (l5 : Int64) (l7 : Int32) (ls : Array Slot), q_X1_multipleRoot_3 ev z th n l1 l3 l5 l7 = some r → lv_has ls 8 [(0, .ref th), (1, .long l1), (3, .long l3), (5, .long l5), (7, .int l7)] → W p l e (pR 2 72) s m args below meth c s.heap [] 0 0 (MQ below (k2_QcV (.long r)) args s 0 0 (fun _ => False)) (F0 m 3 ls []) := by
  intro n
  induction n with
  | zero => intro l1 l3 l5 l7 ls h; cases h
  | succ n ih =>
    intro l1 l3 l5 l7 ls h hl
    rw [q_X1_multipleRoot_3] at h
    refine lv_iload S.1 S.2.1 dX1_multipleRoot_3 (lv_at hl 4 rfl) ?_
    refine lv_aload_n S.1 S.2.1 dX1_multipleRoot_5 rfl (lv_at hl 0 rfl) ?_
    refine gf_1_8 S hK hP hth mw_1_146 dX1_multipleRoot_6 ?_
    refine lv_icmp_ge (tgt := 68) S.1 S.2.1 dX1_multipleRoot_9 (by decide) (fun c1 => ?_) (fun c1 => ?_)
    · rw [if_pos c1] at h
      refine lv_lconst (v := 0) S.1 S.2.1 dX1_multipleRoot_68 (by decide) ?_
      exact pm_lretR S hr hlk (Option.some.inj h) dX1_multipleRoot_69
    · rw [if_neg c1] at h
      refine lv_aload_n S.1 S.2.1 dX1_multipleRoot_12 rfl (lv_at hl 0 rfl) ?_
      refine lv_aload_n S.1 S.2.1 dX1_multipleRoot_13 rfl (lv_at hl 0 rfl) ?_
      refine lv_iload S.1 S.2.1 dX1_multipleRoot_14 (lv_at hl 4 rfl) ?_
      refine lv_i2l S.1 S.2.1 dX1_multipleRoot_16 rfl ?_
      refine lv_lload_n S.1 S.2.1 dX1_multipleRoot_17 rfl (lv_at hl 1 rfl) ?_
      refine lv_lload_n S.1 S.2.1 dX1_multipleRoot_18 rfl (lv_at hl 2 rfl) ?_
      refine lv_lload S.1 S.2.1 dX1_multipleRoot_19 (lv_at hl 3 rfl) ?_
      obtain ⟨v2, ev2, h⟩ := ob_s h
      refine pm_cVr (As := [.long (l7.toInt64), .long l1, .long l3, .long l5]) (rest := [.ref th]) S hK hX hP va_S.rf (c_X1_cubicAt l ev z E hth th (l7.toInt64) l1 l3 l5 v2 ev2) vm_X1_cubicAt mw_2_205 (rc_1 hK hP hth) ⟨⟨rfl, rfl⟩, by decide, by decide⟩ rfl hl.1 rfl (Nat.le_of_ble_eq_true rfl) ⟨Nat.zero_le _, Nat.zero_le _⟩ dX1_multipleRoot_21 ?_
      refine lv_iconst (v := 1) S.1 S.2.1 dX1_multipleRoot_24 (by decide) ?_
      obtain ⟨v3, ev3, h⟩ := ob_s h
      refine pm_cVr (As := [.long v2, .int (1 : Int32)]) (rest := []) S hK hX hP va_S.rf (c_X1_goesIn l ev z E hth th v2 (1 : Int32) v3 ev3) vm_X1_goesIn mw_2_180 (rc_1 hK hP hth) ⟨⟨rfl, rfl⟩, by decide, by decide⟩ rfl hl.1 rfl (Nat.le_of_ble_eq_true rfl) ⟨Nat.zero_le _, Nat.zero_le _⟩ dX1_multipleRoot_25 ?_
      refine lv_if_eq (tgt := 62) S.1 S.2.1 dX1_multipleRoot_28 (by decide) (fun c4 => ?_) (fun c4 => ?_)
      · rw [if_pos c4] at h
        obtain ⟨v5, ev5, h⟩ := bd_s h
        refine lv_iinc (v := v5) (lv' := [(7, .int v5), (0, .ref th), (1, .long l1), (3, .long l3), (5, .long l5)]) S.1 S.2.1 dX1_multipleRoot_62 hl (k := 4) rfl (by rw [ev5]; rfl) (by decide) rfl (fun ls hl => ?_)
        refine lv_goto (tgt := 3) S.1 S.2.1 dX1_multipleRoot_65 (by decide) ?_
        exact ih l1 l3 l5 v5 ls h (lv_sub hl [1, 2, 3, 4, 0] rfl)
      · rw [if_neg c4] at h
        refine lv_aload_n S.1 S.2.1 dX1_multipleRoot_31 rfl (lv_at hl 0 rfl) ?_
        refine pm_ldc2 S mw_2_164 dX1_multipleRoot_32 ?_
        refine lv_iload S.1 S.2.1 dX1_multipleRoot_35 (lv_at hl 4 rfl) ?_
        refine lv_i2l S.1 S.2.1 dX1_multipleRoot_37 rfl ?_
        refine lv_lmul S.1 S.2.1 dX1_multipleRoot_38 ?_
        refine pm_ldc2 S mw_2_148 dX1_multipleRoot_39 ?_
        refine lv_lload_n S.1 S.2.1 dX1_multipleRoot_42 rfl (lv_at hl 1 rfl) ?_
        refine lv_lmul S.1 S.2.1 dX1_multipleRoot_43 ?_
        refine lv_ladd S.1 S.2.1 dX1_multipleRoot_44 ?_
        refine lv_iload S.1 S.2.1 dX1_multipleRoot_45 (lv_at hl 4 rfl) ?_
        refine lv_i2l S.1 S.2.1 dX1_multipleRoot_47 rfl ?_
        refine lv_lmul S.1 S.2.1 dX1_multipleRoot_48 ?_
        refine lv_lload_n S.1 S.2.1 dX1_multipleRoot_49 rfl (lv_at hl 2 rfl) ?_
        refine lv_ladd S.1 S.2.1 dX1_multipleRoot_50 ?_
        refine lv_iconst (v := 1) S.1 S.2.1 dX1_multipleRoot_51 (by decide) ?_
        obtain ⟨v6, ev6, h⟩ := ob_s h
        refine pm_cVr (As := [.long (((((3 : Int64) * (l7.toInt64)) + ((2 : Int64) * l1)) * (l7.toInt64)) + l3), .int (1 : Int32)]) (rest := []) S hK hX hP va_S.rf (c_X1_goesIn l ev z E hth th (((((3 : Int64) * (l7.toInt64)) + ((2 : Int64) * l1)) * (l7.toInt64)) + l3) (1 : Int32) v6 ev6) vm_X1_goesIn mw_2_180 (rc_1 hK hP hth) ⟨⟨rfl, rfl⟩, by decide, by decide⟩ rfl hl.1 rfl (Nat.le_of_ble_eq_true rfl) ⟨Nat.zero_le _, Nat.zero_le _⟩ dX1_multipleRoot_52 ?_
        refine lv_if_eq (tgt := 62) S.1 S.2.1 dX1_multipleRoot_55 (by decide) (fun c7 => ?_) (fun c7 => ?_)
        · rw [if_pos c7] at h
          obtain ⟨v8, ev8, h⟩ := bd_s h
          refine lv_iinc (v := v8) (lv' := [(7, .int v8), (0, .ref th), (1, .long l1), (3, .long l3), (5, .long l5)]) S.1 S.2.1 dX1_multipleRoot_62 hl (k := 4) rfl (by rw [ev8]; rfl) (by decide) rfl (fun ls hl => ?_)
          refine lv_goto (tgt := 3) S.1 S.2.1 dX1_multipleRoot_65 (by decide) ?_
          exact ih l1 l3 l5 v8 ls h (lv_sub hl [1, 2, 3, 4, 0] rfl)
        · rw [if_neg c7] at h
          refine lv_iload S.1 S.2.1 dX1_multipleRoot_58 (lv_at hl 4 rfl) ?_
          refine lv_i2l S.1 S.2.1 dX1_multipleRoot_60 rfl ?_
          exact pm_lretR S hr hlk (Option.some.inj h) dX1_multipleRoot_61
def g_X1_multipleRoot (ev : EV) (z : PS) (th : Nat) (l1 : Int64) (l3 : Int64) (l5 : Int64) : Option Int64 := q_X1_multipleRoot_3 ev z th FU l1 l3 l5 (0 : Int32)
set_option maxRecDepth 20000 in
set_option maxHeartbeats 4000000 in
theorem c_X1_multipleRoot (l : Launch) (ev : EV) (z : PS) (E : EWF ev) {th : Nat} (hth : isK ev 1 th) (th_ : Nat) (l1 : Int64) (l3 : Int64) (l5 : Int64) (r : Int64) (h : g_X1_multipleRoot ev z th l1 l3 l5 = some r) : Met l yX1_multipleRoot (pWs yX1_multipleRoot cX1_multipleRoot 8 (some .long)) (pR 2 72) (va_Pc [.ref th, .long l1, .long l3, .long l5] (pPe ev z)) (k2_QcV (.long r)) 0 0 (fun _ => False) := by
  refine pm_of (by decide) (Nat.le_of_ble_eq_true rfl) ?_
  intro p e s m below meth c S hr hlk hv ls hl
  obtain ⟨hP, hK, hX⟩ := hv
  have hl : lv_has ls 8 [(0, .ref th), (1, .long l1), (3, .long l3), (5, .long l5)] := hl
  unfold g_X1_multipleRoot at h
  refine lv_iconst (v := 0) S.1 S.2.1 dX1_multipleRoot_0 (by decide) ?_
  refine lv_istore (lv' := [(7, .int (0 : Int32)), (0, .ref th), (1, .long l1), (3, .long l3), (5, .long l5)]) S.1 S.2.1 dX1_multipleRoot_1 hl (by decide) rfl (fun ls hl => ?_)
  exact w_X1_multipleRoot_3 S hr hlk E hK hX hP hth FU l1 l3 l5 (0 : Int32) ls h (lv_sub hl [1, 2, 3, 4, 0] rfl)
theorem vm_X1_multipleRoot : pm_Vm yX1_multipleRoot cX1_multipleRoot 8 (some .long) 3 := ⟨mw_2_212, mw_2_211, ms_269, mw_1_5, by decide, by decide⟩
def g_X1_hasUnlikeRoots (ev : EV) (z : PS) (th : Nat) (l1 : Int64) (l3 : Int64) (l5 : Int64) : Option Int32 := ob (g_X4_rest ((l3 * l3) - (((4 : Int64) * l1) * l5)) ((r32 z 28 th).toInt64)) (fun v1 => if v1 = (0 : Int64) then (some (0 : Int32)) else (some (1 : Int32)))
set_option maxRecDepth 20000 in
set_option maxHeartbeats 4000000 in
theorem c_X1_hasUnlikeRoots (l : Launch) (ev : EV) (z : PS) (E : EWF ev) {th : Nat} (hth : isK ev 1 th) (th_ : Nat) (l1 : Int64) (l3 : Int64) (l5 : Int64) (r : Int32) (h : g_X1_hasUnlikeRoots ev z th l1 l3 l5 = some r) : Met l yX1_hasUnlikeRoots (pWs yX1_hasUnlikeRoots cX1_hasUnlikeRoots 7 (some .boolean)) (pR 1 37) (va_Pc [.ref th, .long l1, .long l3, .long l5] (pPe ev z)) (k2_QcV (.int r)) 0 0 (fun _ => False) := by
  refine pm_of (by decide) (Nat.le_of_ble_eq_true rfl) ?_
  intro p e s m below meth c S hr hlk hv ls hl
  obtain ⟨hP, hK, hX⟩ := hv
  have hl : lv_has ls 7 [(0, .ref th), (1, .long l1), (3, .long l3), (5, .long l5)] := hl
  unfold g_X1_hasUnlikeRoots at h
  refine lv_lload_n S.1 S.2.1 dX1_hasUnlikeRoots_0 rfl (lv_at hl 2 rfl) ?_
  refine lv_lload_n S.1 S.2.1 dX1_hasUnlikeRoots_1 rfl (lv_at hl 2 rfl) ?_
  refine lv_lmul S.1 S.2.1 dX1_hasUnlikeRoots_2 ?_
  refine pm_ldc2 S mw_2_199 dX1_hasUnlikeRoots_3 ?_
  refine lv_lload_n S.1 S.2.1 dX1_hasUnlikeRoots_6 rfl (lv_at hl 1 rfl) ?_
  refine lv_lmul S.1 S.2.1 dX1_hasUnlikeRoots_7 ?_
  refine lv_lload S.1 S.2.1 dX1_hasUnlikeRoots_8 (lv_at hl 3 rfl) ?_
  refine lv_lmul S.1 S.2.1 dX1_hasUnlikeRoots_10 ?_
  refine lv_lsub S.1 S.2.1 dX1_hasUnlikeRoots_11 ?_
  refine lv_aload_n S.1 S.2.1 dX1_hasUnlikeRoots_12 rfl (lv_at hl 0 rfl) ?_
  refine gf_1_8 S hK hP hth mw_1_146 dX1_hasUnlikeRoots_13 ?_
  refine lv_i2l S.1 S.2.1 dX1_hasUnlikeRoots_16 rfl ?_
  obtain ⟨v1, ev1, h⟩ := ob_s h
  refine pm_cS (As := [.long ((l3 * l3) - (((4 : Int64) * l1) * l5)), .long ((r32 z 28 th).toInt64)]) (rest := []) S (c_X4_rest l ((l3 * l3) - (((4 : Int64) * l1) * l5)) ((r32 z 28 th).toInt64) v1 ev1) sm_X4_rest mw_2_143 ⟨⟨rfl, rfl⟩, by decide, by decide⟩ rfl hl.1 rfl (Nat.le_of_ble_eq_true rfl) ⟨Nat.zero_le _, Nat.zero_le _⟩ dX1_hasUnlikeRoots_17 ?_
  refine lv_lconst (v := 0) S.1 S.2.1 dX1_hasUnlikeRoots_20 (by decide) ?_
  refine pm_leq (tgt := 29) S dX1_hasUnlikeRoots_21 dX1_hasUnlikeRoots_22 (by decide) (fun c2 => ?_) (fun c2 => ?_)
  · rw [if_pos c2] at h
    refine lv_iconst (v := 0) S.1 S.2.1 dX1_hasUnlikeRoots_29 (by decide) ?_
    exact pm_zretR S hr hlk (Or.inl rfl) (Option.some.inj h) dX1_hasUnlikeRoots_30
  · rw [if_neg c2] at h
    refine lv_iconst (v := 1) S.1 S.2.1 dX1_hasUnlikeRoots_25 (by decide) ?_
    refine lv_goto (tgt := 30) S.1 S.2.1 dX1_hasUnlikeRoots_26 (by decide) ?_
    exact pm_zretR S hr hlk (Or.inr rfl) (Option.some.inj h) dX1_hasUnlikeRoots_30
theorem vm_X1_hasUnlikeRoots : pm_Vm yX1_hasUnlikeRoots cX1_hasUnlikeRoots 7 (some .boolean) 3 := ⟨mw_2_220, mw_2_219, ms_273, mw_1_5, by decide, by decide⟩
def q_X1_tellByTurns_143 (ev : EV) (th : Nat) (k2 : (Int32 → PS → Option PS)) (l1 : Int32) (l2 : Int32) (l3 : Int32) (l4 : Int64) (l6 : Int64) (t0 : Int64) (z : PS) : Option PS := ob (g_X4_rest t0 ((r32 z 28 th).toInt64)) (fun v14 => ob (g_X1_rootOf ev z th l4 l6 v14) (fun v15 => ob (g_X1_hasUnlikeRoots ev z th l4 l6 v14) (fun v16 => if v16 = 0 then (if l2 = 0 then (ob (g_X4_power ((r32 z 28 th).toInt64) (l3 - (1 : Int32))) (fun v19 => ob (g_X0_shift ev z (rf ev 27 th) ((v15.toInt64) * v19) (0 : Int64) (0 : Int64)) (fun z20 => bd (l1 + (1 : Int32)) (fun v21 => k2 v21 z20)))) else (ob (g_X4_power ((r32 z 28 th).toInt64) l3) (fun v22 => ob (g_X0_shift ev z (rf ev 27 th) (0 : Int64) (0 : Int64) ((v15.toInt64) * v22)) (fun z23 => bd (l1 + (1 : Int32)) (fun v24 => k2 v24 z23))))) else (if v15 = (-1 : Int32) then (ob (g_X1_tell ev z th (6 : Int32) (((r32 z 25 th) - (4 : Int32)) - l1) ((5 : Int32) + l1) (2 : Int32)) (fun z28 => bd (w32 z28 21 th l1) (fun z29 => some z29))) else (ob (g_X1_tell ev z th (6 : Int32) (((r32 z 25 th) - (4 : Int32)) - l1) ((5 : Int32) + l1) (4 : Int32)) (fun z26 => bd (w32 z26 21 th l1) (fun z27 => some z27)))))))
set_option maxRecDepth 20000 in
set_option maxHeartbeats 4000000 in
theorem w_X1_tellByTurns_143 {ev : EV} {th : Nat} {p : Program} {l : Launch} {e : Env} {s : State} {m : MethodId} {args : Array Value} {below : List Frame} {meth : Method} {c : Code} {z9 : PS} (S : CallFix p m c cX1_tellByTurns 11 s args gT RX1) (hr : meth.sig.returnType = none) (hlk : meth.locks = false) (E : EWF ev) (hK : KK ev s) (hX : pXt ev s) (hth : isK ev 1 th) (k2 : (Int32 → PS → Option PS)) (hk2 : ∀ (l1 : Int32) (z : PS) (ls : Array Slot) (H : Heap) (locs : List Loc), k2 l1 z = some z9 → lv_has ls 11 [(0, .ref th), (1, .int l1)] → Wd ev z H → SS ev s H locs → W p l e (pR 2 80) s m args below meth c H locs 0 0 (MQ below (pQv ev z9) args s 0 0 (eA ev)) (F0 m 2 ls [])) : ∀ (l1 : Int32) (l2 : Int32) (l3 : Int32) (l4 : Int64) (l6 : Int64) (t0 : Int64) (z : PS) (ls : Array Slot) (H : Heap) (locs : List Loc), q_X1_tellByTurns_143 ev th k2 l1 l2 l3 l4 l6 t0 z = some z9 → lv_has ls 11 [(0, .ref th), (1, .int l1), (2, .int l2), (3, .int l3), (4, .long l4), (6, .long l6)] → Wd ev z H → SS ev s H locs → W p l e (pR 2 80) s m args below meth c H locs 0 0 (MQ below (pQv ev z9) args s 0 0 (eA ev)) (F0 m 143 ls [.long t0]) := by
  intro l1 l2 l3 l4 l6 t0 z ls H locs h hl hP hS
  unfold q_X1_tellByTurns_143 at h
  refine lv_aload_n S.1 S.2.1 dX1_tellByTurns_143 rfl (lv_at hl 0 rfl) ?_
  refine gf_1_8 S hK hP hth mw_1_146 dX1_tellByTurns_144 ?_
  refine lv_i2l S.1 S.2.1 dX1_tellByTurns_147 rfl ?_
  obtain ⟨v14, ev14, h⟩ := ob_s h
  refine pm_cS (As := [.long t0, .long ((r32 z 28 th).toInt64)]) (rest := []) S (c_X4_rest l t0 ((r32 z 28 th).toInt64) v14 ev14) sm_X4_rest mw_2_143 ⟨⟨rfl, rfl⟩, by decide, by decide⟩ rfl hl.1 rfl (Nat.le_of_ble_eq_true rfl) ⟨Nat.zero_le _, Nat.zero_le _⟩ dX1_tellByTurns_148 ?_
  refine lv_lstore (lv' := [(8, .long v14), (0, .ref th), (1, .int l1), (2, .int l2), (3, .int l3), (4, .long l4), (6, .long l6)]) S.1 S.2.1 dX1_tellByTurns_151 hl (by decide) rfl (fun ls hl => ?_)
  refine lv_aload_n S.1 S.2.1 dX1_tellByTurns_153 rfl (lv_at hl 1 rfl) ?_
  refine lv_lload S.1 S.2.1 dX1_tellByTurns_154 (lv_at hl 5 rfl) ?_
  refine lv_lload S.1 S.2.1 dX1_tellByTurns_156 (lv_at hl 6 rfl) ?_
  refine lv_lload S.1 S.2.1 dX1_tellByTurns_158 (lv_at hl 0 rfl) ?_
  obtain ⟨v15, ev15, h⟩ := ob_s h
  refine pm_cVr (As := [.long l4, .long l6, .long v14]) (rest := []) S hK hX hP hS (c_X1_rootOf l ev z E hth th l4 l6 v14 v15 ev15) vm_X1_rootOf mw_2_190 (rc_1 hK hP hth) ⟨⟨rfl, rfl⟩, by decide, by decide⟩ rfl hl.1 rfl (Nat.le_of_ble_eq_true rfl) ⟨Nat.zero_le _, Nat.zero_le _⟩ dX1_tellByTurns_160 ?_
  refine lv_istore (lv' := [(10, .int v15), (8, .long v14), (0, .ref th), (1, .int l1), (2, .int l2), (3, .int l3), (4, .long l4), (6, .long l6)]) S.1 S.2.1 dX1_tellByTurns_163 hl (by decide) rfl (fun ls hl => ?_)
  refine lv_aload_n S.1 S.2.1 dX1_tellByTurns_165 rfl (lv_at hl 2 rfl) ?_
  refine lv_lload S.1 S.2.1 dX1_tellByTurns_166 (lv_at hl 6 rfl) ?_
  refine lv_lload S.1 S.2.1 dX1_tellByTurns_168 (lv_at hl 7 rfl) ?_
  refine lv_lload S.1 S.2.1 dX1_tellByTurns_170 (lv_at hl 1 rfl) ?_
  obtain ⟨v16, ev16, h⟩ := ob_s h
  refine pm_cVr (As := [.long l4, .long l6, .long v14]) (rest := []) S hK hX hP hS (c_X1_hasUnlikeRoots l ev z E hth th l4 l6 v14 v16 ev16) vm_X1_hasUnlikeRoots mw_2_217 (rc_1 hK hP hth) ⟨⟨rfl, rfl⟩, by decide, by decide⟩ rfl hl.1 rfl (Nat.le_of_ble_eq_true rfl) ⟨Nat.zero_le _, Nat.zero_le _⟩ dX1_tellByTurns_172 ?_
  refine lv_if_eq (tgt := 212) S.1 S.2.1 dX1_tellByTurns_175 (by decide) (fun c17 => ?_) (fun c17 => ?_)
  · rw [if_pos c17] at h
    refine lv_iload_n S.1 S.2.1 dX1_tellByTurns_212 rfl (lv_at hl 4 rfl) ?_
    refine lv_if_eq (tgt := 241) S.1 S.2.1 dX1_tellByTurns_213 (by decide) (fun c18 => ?_) (fun c18 => ?_)
    · rw [if_pos c18] at h
      refine lv_aload_n S.1 S.2.1 dX1_tellByTurns_241 rfl (lv_at hl 2 rfl) ?_
      refine gf_1_7 S hK hP hth mw_1_145 dX1_tellByTurns_242 ?_
      refine lv_iload S.1 S.2.1 dX1_tellByTurns_245 (lv_at hl 0 rfl) ?_
      refine lv_i2l S.1 S.2.1 dX1_tellByTurns_247 rfl ?_
      refine lv_aload_n S.1 S.2.1 dX1_tellByTurns_248 rfl (lv_at hl 2 rfl) ?_
      refine gf_1_8 S hK hP hth mw_1_146 dX1_tellByTurns_249 ?_
      refine lv_i2l S.1 S.2.1 dX1_tellByTurns_252 rfl ?_
      refine lv_iload_n S.1 S.2.1 dX1_tellByTurns_253 rfl (lv_at hl 5 rfl) ?_
      refine lv_iconst (v := 1) S.1 S.2.1 dX1_tellByTurns_254 (by decide) ?_
      refine lv_isub S.1 S.2.1 dX1_tellByTurns_255 ?_
      obtain ⟨v19, ev19, h⟩ := ob_s h
      refine pm_cS (As := [.long ((r32 z 28 th).toInt64), .int (l3 - (1 : Int32))]) (rest := [.long (v15.toInt64), .ref (rf ev 27 th)]) S (c_X4_power l ((r32 z 28 th).toInt64) (l3 - (1 : Int32)) v19 ev19) sm_X4_power mw_2_184 ⟨⟨rfl, rfl⟩, by decide, by decide⟩ rfl hl.1 rfl (Nat.le_of_ble_eq_true rfl) ⟨Nat.zero_le _, Nat.zero_le _⟩ dX1_tellByTurns_256 ?_
      refine lv_lmul S.1 S.2.1 dX1_tellByTurns_259 ?_
      refine lv_lconst (v := 0) S.1 S.2.1 dX1_tellByTurns_260 (by decide) ?_
      refine lv_lconst (v := 0) S.1 S.2.1 dX1_tellByTurns_261 (by decide) ?_
      obtain ⟨z20, ez20, h⟩ := ob_s h
      refine pm_cVv (As := [.long ((v15.toInt64) * v19), .long (0 : Int64), .long (0 : Int64)]) (rest := []) S hK hX hP hS (c_X0_shift l ev z E (E_1_7 E hth) (rf ev 27 th) ((v15.toInt64) * v19) (0 : Int64) (0 : Int64) z20 ez20) vm_X0_shift mw_2_175 (rc_0 hK hP (E_1_7 E hth)) ⟨⟨rfl, rfl⟩, by decide, by decide⟩ rfl hl.1 rfl (Nat.le_of_ble_eq_true rfl) ⟨Nat.zero_le _, Nat.zero_le _⟩ dX1_tellByTurns_262 (fun H locs hP hS => ?_)
      obtain ⟨v21, ev21, h⟩ := bd_s h
      refine lv_iinc (v := v21) (lv' := [(1, .int v21), (10, .int v15), (8, .long v14), (0, .ref th), (2, .int l2), (3, .int l3), (4, .long l4), (6, .long l6)]) S.1 S.2.1 dX1_tellByTurns_265 hl (k := 3) rfl (by rw [ev21]; rfl) (by decide) rfl (fun ls hl => ?_)
      refine lv_goto (tgt := 2) S.1 S.2.1 dX1_tellByTurns_268 (by decide) ?_
      exact hk2 v21 z20 ls _ _ h (lv_sub hl [3, 0] rfl) hP hS
    · rw [if_neg c18] at h
      refine lv_aload_n S.1 S.2.1 dX1_tellByTurns_216 rfl (lv_at hl 2 rfl) ?_
      refine gf_1_7 S hK hP hth mw_1_145 dX1_tellByTurns_217 ?_
      refine lv_lconst (v := 0) S.1 S.2.1 dX1_tellByTurns_220 (by decide) ?_
      refine lv_lconst (v := 0) S.1 S.2.1 dX1_tellByTurns_221 (by decide) ?_
      refine lv_iload S.1 S.2.1 dX1_tellByTurns_222 (lv_at hl 0 rfl) ?_
      refine lv_i2l S.1 S.2.1 dX1_tellByTurns_224 rfl ?_
      refine lv_aload_n S.1 S.2.1 dX1_tellByTurns_225 rfl (lv_at hl 2 rfl) ?_
      refine gf_1_8 S hK hP hth mw_1_146 dX1_tellByTurns_226 ?_
      refine lv_i2l S.1 S.2.1 dX1_tellByTurns_229 rfl ?_
      refine lv_iload_n S.1 S.2.1 dX1_tellByTurns_230 rfl (lv_at hl 5 rfl) ?_
      obtain ⟨v22, ev22, h⟩ := ob_s h
      refine pm_cS (As := [.long ((r32 z 28 th).toInt64), .int l3]) (rest := [.long (v15.toInt64), .long (0 : Int64), .long (0 : Int64), .ref (rf ev 27 th)]) S (c_X4_power l ((r32 z 28 th).toInt64) l3 v22 ev22) sm_X4_power mw_2_184 ⟨⟨rfl, rfl⟩, by decide, by decide⟩ rfl hl.1 rfl (Nat.le_of_ble_eq_true rfl) ⟨Nat.zero_le _, Nat.zero_le _⟩ dX1_tellByTurns_231 ?_
      refine lv_lmul S.1 S.2.1 dX1_tellByTurns_234 ?_
      obtain ⟨z23, ez23, h⟩ := ob_s h
      refine pm_cVv (As := [.long (0 : Int64), .long (0 : Int64), .long ((v15.toInt64) * v22)]) (rest := []) S hK hX hP hS (c_X0_shift l ev z E (E_1_7 E hth) (rf ev 27 th) (0 : Int64) (0 : Int64) ((v15.toInt64) * v22) z23 ez23) vm_X0_shift mw_2_175 (rc_0 hK hP (E_1_7 E hth)) ⟨⟨rfl, rfl⟩, by decide, by decide⟩ rfl hl.1 rfl (Nat.le_of_ble_eq_true rfl) ⟨Nat.zero_le _, Nat.zero_le _⟩ dX1_tellByTurns_235 (fun H locs hP hS => ?_)
      refine lv_goto (tgt := 265) S.1 S.2.1 dX1_tellByTurns_238 (by decide) ?_
      obtain ⟨v24, ev24, h⟩ := bd_s h
      refine lv_iinc (v := v24) (lv' := [(1, .int v24), (10, .int v15), (8, .long v14), (0, .ref th), (2, .int l2), (3, .int l3), (4, .long l4), (6, .long l6)]) S.1 S.2.1 dX1_tellByTurns_265 hl (k := 3) rfl (by rw [ev24]; rfl) (by decide) rfl (fun ls hl => ?_)
      refine lv_goto (tgt := 2) S.1 S.2.1 dX1_tellByTurns_268 (by decide) ?_
      exact hk2 v24 z23 ls _ _ h (lv_sub hl [3, 0] rfl) hP hS
  · rw [if_neg c17] at h
    refine lv_aload_n S.1 S.2.1 dX1_tellByTurns_178 rfl (lv_at hl 2 rfl) ?_
    refine lv_bipush (v := 6) S.1 S.2.1 dX1_tellByTurns_179 (by decide) ?_
    refine lv_aload_n S.1 S.2.1 dX1_tellByTurns_181 rfl (lv_at hl 2 rfl) ?_
    refine gf_1_5 S hK hP hth mw_1_142 dX1_tellByTurns_182 ?_
    refine lv_iconst (v := 4) S.1 S.2.1 dX1_tellByTurns_185 (by decide) ?_
    refine lv_isub S.1 S.2.1 dX1_tellByTurns_186 ?_
    refine lv_iload_n S.1 S.2.1 dX1_tellByTurns_187 rfl (lv_at hl 3 rfl) ?_
    refine lv_isub S.1 S.2.1 dX1_tellByTurns_188 ?_
    refine lv_iconst (v := 5) S.1 S.2.1 dX1_tellByTurns_189 (by decide) ?_
    refine lv_iload_n S.1 S.2.1 dX1_tellByTurns_190 rfl (lv_at hl 3 rfl) ?_
    refine lv_iadd S.1 S.2.1 dX1_tellByTurns_191 ?_
    refine lv_iload S.1 S.2.1 dX1_tellByTurns_192 (lv_at hl 0 rfl) ?_
    refine lv_iconst (v := -1) S.1 S.2.1 dX1_tellByTurns_194 (by decide) ?_
    refine lv_icmp_ne (tgt := 202) S.1 S.2.1 dX1_tellByTurns_195 (by decide) (fun c25 => ?_) (fun c25 => ?_)
    · rw [if_neg c25] at h
      refine lv_iconst (v := 4) S.1 S.2.1 dX1_tellByTurns_202 (by decide) ?_
      obtain ⟨z26, ez26, h⟩ := ob_s h
      refine pm_cVv (As := [.int (6 : Int32), .int (((r32 z 25 th) - (4 : Int32)) - l1), .int ((5 : Int32) + l1), .int (4 : Int32)]) (rest := []) S hK hX hP hS (c_X1_tell l ev z E hth th (6 : Int32) (((r32 z 25 th) - (4 : Int32)) - l1) ((5 : Int32) + l1) (4 : Int32) z26 ez26) vm_X1_tell mw_2_139 (rc_1 hK hP hth) ⟨⟨rfl, rfl⟩, by decide, by decide⟩ rfl hl.1 rfl (Nat.le_of_ble_eq_true rfl) ⟨Nat.zero_le _, Nat.zero_le _⟩ dX1_tellByTurns_203 (fun H locs hP hS => ?_)
      refine lv_aload_n S.1 S.2.1 dX1_tellByTurns_206 rfl (lv_at hl 2 rfl) ?_
      refine lv_iload_n S.1 S.2.1 dX1_tellByTurns_207 rfl (lv_at hl 3 rfl) ?_
      obtain ⟨z27, ez27, h⟩ := bd_s h
      refine pf_1_1 S E hK hP hS hth mw_1_136 dX1_tellByTurns_208 (fun H locs hP hS => ?_)
      rw [← ez27] at hP
      exact pm_vretW S hr hlk hP hS (Option.some.inj h) dX1_tellByTurns_211
    · rw [if_pos c25] at h
      refine lv_iconst (v := 2) S.1 S.2.1 dX1_tellByTurns_198 (by decide) ?_
      refine lv_goto (tgt := 203) S.1 S.2.1 dX1_tellByTurns_199 (by decide) ?_
      obtain ⟨z28, ez28, h⟩ := ob_s h
      refine pm_cVv (As := [.int (6 : Int32), .int (((r32 z 25 th) - (4 : Int32)) - l1), .int ((5 : Int32) + l1), .int (2 : Int32)]) (rest := []) S hK hX hP hS (c_X1_tell l ev z E hth th (6 : Int32) (((r32 z 25 th) - (4 : Int32)) - l1) ((5 : Int32) + l1) (2 : Int32) z28 ez28) vm_X1_tell mw_2_139 (rc_1 hK hP hth) ⟨⟨rfl, rfl⟩, by decide, by decide⟩ rfl hl.1 rfl (Nat.le_of_ble_eq_true rfl) ⟨Nat.zero_le _, Nat.zero_le _⟩ dX1_tellByTurns_203 (fun H locs hP hS => ?_)
      refine lv_aload_n S.1 S.2.1 dX1_tellByTurns_206 rfl (lv_at hl 2 rfl) ?_
      refine lv_iload_n S.1 S.2.1 dX1_tellByTurns_207 rfl (lv_at hl 3 rfl) ?_
      obtain ⟨z29, ez29, h⟩ := bd_s h
      refine pf_1_1 S E hK hP hS hth mw_1_136 dX1_tellByTurns_208 (fun H locs hP hS => ?_)
      rw [← ez29] at hP
      exact pm_vretW S hr hlk hP hS (Option.some.inj h) dX1_tellByTurns_211
def q_X1_tellByTurns_91 (ev : EV) (th : Nat) (k2 : (Int32 → PS → Option PS)) (l1 : Int32) (l2 : Int32) (l3 : Int32) (l4 : Int64) (t0 : Int64) (z : PS) : Option PS := ob (g_X1_part ev z th t0 l3) (fun v9 => ob (g_X4_rest v9 ((r32 z 28 th).toInt64)) (fun v10 => if l2 = 0 then (ob (g_X1_part ev z th (r64 z 4 (rf ev 27 th)) (((2 : Int32) * l3) - (1 : Int32))) (fun v12 => q_X1_tellByTurns_143 ev th k2 l1 l2 l3 l4 v10 v12 z)) else (ob (g_X1_part ev z th (r64 z 4 (rf ev 27 th)) ((2 : Int32) * l3)) (fun v13 => q_X1_tellByTurns_143 ev th k2 l1 l2 l3 l4 v10 (-v13) z))))
set_option maxRecDepth 20000 in
set_option maxHeartbeats 4000000 in
theorem w_X1_tellByTurns_91 {ev : EV} {th : Nat} {p : Program} {l : Launch} {e : Env} {s : State} {m : MethodId} {args : Array Value} {below : List Frame} {meth : Method} {c : Code} {z9 : PS} (S : CallFix p m c cX1_tellByTurns 11 s args gT RX1) (hr : meth.sig.returnType = none) (hlk : meth.locks = false) (E : EWF ev) (hK : KK ev s) (hX : pXt ev s) (hth : isK ev 1 th) (k2 : (Int32 → PS → Option PS)) (hk2 : ∀ (l1 : Int32) (z : PS) (ls : Array Slot) (H : Heap) (locs : List Loc), k2 l1 z = some z9 → lv_has ls 11 [(0, .ref th), (1, .int l1)] → Wd ev z H → SS ev s H locs → W p l e (pR 2 80) s m args below meth c H locs 0 0 (MQ below (pQv ev z9) args s 0 0 (eA ev)) (F0 m 2 ls [])) : ∀ (l1 : Int32) (l2 : Int32) (l3 : Int32) (l4 : Int64) (t0 : Int64) (z : PS) (ls : Array Slot) (H : Heap) (locs : List Loc), q_X1_tellByTurns_91 ev th k2 l1 l2 l3 l4 t0 z = some z9 → lv_has ls 11 [(0, .ref th), (1, .int l1), (2, .int l2), (3, .int l3), (4, .long l4)] → Wd ev z H → SS ev s H locs → W p l e (pR 2 80) s m args below meth c H locs 0 0 (MQ below (pQv ev z9) args s 0 0 (eA ev)) (F0 m 91 ls [.long t0, .ref th]) := by
  intro l1 l2 l3 l4 t0 z ls H locs h hl hP hS
  unfold q_X1_tellByTurns_91 at h
  refine lv_iload_n S.1 S.2.1 dX1_tellByTurns_91 rfl (lv_at hl 3 rfl) ?_
  obtain ⟨v9, ev9, h⟩ := ob_s h
  refine pm_cVr (As := [.long t0, .int l3]) (rest := []) S hK hX hP hS (c_X1_part l ev z E hth th t0 l3 v9 ev9) vm_X1_part mw_2_185 (rc_1 hK hP hth) ⟨⟨rfl, rfl⟩, by decide, by decide⟩ rfl hl.1 rfl (Nat.le_of_ble_eq_true rfl) ⟨Nat.zero_le _, Nat.zero_le _⟩ dX1_tellByTurns_92 ?_
  refine lv_aload_n S.1 S.2.1 dX1_tellByTurns_95 rfl (lv_at hl 0 rfl) ?_
  refine gf_1_8 S hK hP hth mw_1_146 dX1_tellByTurns_96 ?_
  refine lv_i2l S.1 S.2.1 dX1_tellByTurns_99 rfl ?_
  obtain ⟨v10, ev10, h⟩ := ob_s h
  refine pm_cS (As := [.long v9, .long ((r32 z 28 th).toInt64)]) (rest := []) S (c_X4_rest l v9 ((r32 z 28 th).toInt64) v10 ev10) sm_X4_rest mw_2_143 ⟨⟨rfl, rfl⟩, by decide, by decide⟩ rfl hl.1 rfl (Nat.le_of_ble_eq_true rfl) ⟨Nat.zero_le _, Nat.zero_le _⟩ dX1_tellByTurns_100 ?_
  refine lv_lstore (lv' := [(6, .long v10), (0, .ref th), (1, .int l1), (2, .int l2), (3, .int l3), (4, .long l4)]) S.1 S.2.1 dX1_tellByTurns_103 hl (by decide) rfl (fun ls hl => ?_)
  refine lv_iload_n S.1 S.2.1 dX1_tellByTurns_105 rfl (lv_at hl 3 rfl) ?_
  refine lv_if_eq (tgt := 127) S.1 S.2.1 dX1_tellByTurns_106 (by decide) (fun c11 => ?_) (fun c11 => ?_)
  · rw [if_pos c11] at h
    refine lv_aload_n S.1 S.2.1 dX1_tellByTurns_127 rfl (lv_at hl 1 rfl) ?_
    refine lv_aload_n S.1 S.2.1 dX1_tellByTurns_128 rfl (lv_at hl 1 rfl) ?_
    refine gf_1_7 S hK hP hth mw_1_145 dX1_tellByTurns_129 ?_
    refine gf_0_4 S hK hP (E_1_7 E hth) mw_1_45 dX1_tellByTurns_132 ?_
    refine lv_iconst (v := 2) S.1 S.2.1 dX1_tellByTurns_135 (by decide) ?_
    refine lv_iload_n S.1 S.2.1 dX1_tellByTurns_136 rfl (lv_at hl 4 rfl) ?_
    refine lv_imul S.1 S.2.1 dX1_tellByTurns_137 ?_
    refine lv_iconst (v := 1) S.1 S.2.1 dX1_tellByTurns_138 (by decide) ?_
    refine lv_isub S.1 S.2.1 dX1_tellByTurns_139 ?_
    obtain ⟨v12, ev12, h⟩ := ob_s h
    refine pm_cVr (As := [.long (r64 z 4 (rf ev 27 th)), .int (((2 : Int32) * l3) - (1 : Int32))]) (rest := []) S hK hX hP hS (c_X1_part l ev z E hth th (r64 z 4 (rf ev 27 th)) (((2 : Int32) * l3) - (1 : Int32)) v12 ev12) vm_X1_part mw_2_185 (rc_1 hK hP hth) ⟨⟨rfl, rfl⟩, by decide, by decide⟩ rfl hl.1 rfl (Nat.le_of_ble_eq_true rfl) ⟨Nat.zero_le _, Nat.zero_le _⟩ dX1_tellByTurns_140 ?_
    exact w_X1_tellByTurns_143 S hr hlk E hK hX hth k2 hk2 l1 l2 l3 l4 v10 v12 z ls _ _ h (lv_sub hl [1, 2, 3, 4, 5, 0] rfl) hP hS
  · rw [if_neg c11] at h
    refine lv_aload_n S.1 S.2.1 dX1_tellByTurns_109 rfl (lv_at hl 1 rfl) ?_
    refine lv_aload_n S.1 S.2.1 dX1_tellByTurns_110 rfl (lv_at hl 1 rfl) ?_
    refine gf_1_7 S hK hP hth mw_1_145 dX1_tellByTurns_111 ?_
    refine gf_0_4 S hK hP (E_1_7 E hth) mw_1_45 dX1_tellByTurns_114 ?_
    refine lv_iconst (v := 2) S.1 S.2.1 dX1_tellByTurns_117 (by decide) ?_
    refine lv_iload_n S.1 S.2.1 dX1_tellByTurns_118 rfl (lv_at hl 4 rfl) ?_
    refine lv_imul S.1 S.2.1 dX1_tellByTurns_119 ?_
    obtain ⟨v13, ev13, h⟩ := ob_s h
    refine pm_cVr (As := [.long (r64 z 4 (rf ev 27 th)), .int ((2 : Int32) * l3)]) (rest := []) S hK hX hP hS (c_X1_part l ev z E hth th (r64 z 4 (rf ev 27 th)) ((2 : Int32) * l3) v13 ev13) vm_X1_part mw_2_185 (rc_1 hK hP hth) ⟨⟨rfl, rfl⟩, by decide, by decide⟩ rfl hl.1 rfl (Nat.le_of_ble_eq_true rfl) ⟨Nat.zero_le _, Nat.zero_le _⟩ dX1_tellByTurns_120 ?_
    refine lv_lneg S.1 S.2.1 dX1_tellByTurns_123 ?_
    refine lv_goto (tgt := 143) S.1 S.2.1 dX1_tellByTurns_124 (by decide) ?_
    exact w_X1_tellByTurns_143 S hr hlk E hK hX hth k2 hk2 l1 l2 l3 l4 v10 (-v13) z ls _ _ h (lv_sub hl [1, 2, 3, 4, 5, 0] rfl) hP hS
def q_X1_tellByTurns_67 (ev : EV) (th : Nat) (k2 : (Int32 → PS → Option PS)) (l1 : Int32) (l2 : Int32) (l3 : Int32) (t0 : Int64) (z : PS) : Option PS := if l2 = 0 then (q_X1_tellByTurns_91 ev th k2 l1 l2 l3 t0 (r64 z 3 (rf ev 27 th)) z) else (q_X1_tellByTurns_91 ev th k2 l1 l2 l3 t0 (r64 z 2 (rf ev 27 th)) z)
set_option maxRecDepth 20000 in
set_option maxHeartbeats 4000000 in
theorem w_X1_tellByTurns_67 {ev : EV} {th : Nat} {p : Program} {l : Launch} {e : Env} {s : State} {m : MethodId} {args : Array Value} {below : List Frame} {meth : Method} {c : Code} {z9 : PS} (S : CallFix p m c cX1_tellByTurns 11 s args gT RX1) (hr : meth.sig.returnType = none) (hlk : meth.locks = false) (E : EWF ev) (hK : KK ev s) (hX : pXt ev s) (hth : isK ev 1 th) (k2 : (Int32 → PS → Option PS)) (hk2 : ∀ (l1 : Int32) (z : PS) (ls : Array Slot) (H : Heap) (locs : List Loc), k2 l1 z = some z9 → lv_has ls 11 [(0, .ref th), (1, .int l1)] → Wd ev z H → SS ev s H locs → W p l e (pR 2 80) s m args below meth c H locs 0 0 (MQ below (pQv ev z9) args s 0 0 (eA ev)) (F0 m 2 ls [])) : ∀ (l1 : Int32) (l2 : Int32) (l3 : Int32) (t0 : Int64) (z : PS) (ls : Array Slot) (H : Heap) (locs : List Loc), q_X1_tellByTurns_67 ev th k2 l1 l2 l3 t0 z = some z9 → lv_has ls 11 [(0, .ref th), (1, .int l1), (2, .int l2), (3, .int l3)] → Wd ev z H → SS ev s H locs → W p l e (pR 2 80) s m args below meth c H locs 0 0 (MQ below (pQv ev z9) args s 0 0 (eA ev)) (F0 m 67 ls [.long t0]) := by
  intro l1 l2 l3 t0 z ls H locs h hl hP hS
  unfold q_X1_tellByTurns_67 at h
  refine lv_lstore (lv' := [(4, .long t0), (0, .ref th), (1, .int l1), (2, .int l2), (3, .int l3)]) S.1 S.2.1 dX1_tellByTurns_67 hl (by decide) rfl (fun ls hl => ?_)
  refine lv_aload_n S.1 S.2.1 dX1_tellByTurns_69 rfl (lv_at hl 1 rfl) ?_
  refine lv_iload_n S.1 S.2.1 dX1_tellByTurns_70 rfl (lv_at hl 3 rfl) ?_
  refine lv_if_eq (tgt := 84) S.1 S.2.1 dX1_tellByTurns_71 (by decide) (fun c8 => ?_) (fun c8 => ?_)
  · rw [if_pos c8] at h
    refine lv_aload_n S.1 S.2.1 dX1_tellByTurns_84 rfl (lv_at hl 1 rfl) ?_
    refine gf_1_7 S hK hP hth mw_1_145 dX1_tellByTurns_85 ?_
    refine gf_0_3 S hK hP (E_1_7 E hth) mw_1_43 dX1_tellByTurns_88 ?_
    exact w_X1_tellByTurns_91 S hr hlk E hK hX hth k2 hk2 l1 l2 l3 t0 (r64 z 3 (rf ev 27 th)) z ls _ _ h (lv_sub hl [1, 2, 3, 4, 0] rfl) hP hS
  · rw [if_neg c8] at h
    refine lv_aload_n S.1 S.2.1 dX1_tellByTurns_74 rfl (lv_at hl 1 rfl) ?_
    refine gf_1_7 S hK hP hth mw_1_145 dX1_tellByTurns_75 ?_
    refine gf_0_2 S hK hP (E_1_7 E hth) mw_1_41 dX1_tellByTurns_78 ?_
    refine lv_goto (tgt := 91) S.1 S.2.1 dX1_tellByTurns_81 (by decide) ?_
    exact w_X1_tellByTurns_91 S hr hlk E hK hX hth k2 hk2 l1 l2 l3 t0 (r64 z 2 (rf ev 27 th)) z ls _ _ h (lv_sub hl [1, 2, 3, 4, 0] rfl) hP hS
def q_X1_tellByTurns_36 (ev : EV) (th : Nat) (k2 : (Int32 → PS → Option PS)) (l1 : Int32) (l2 : Int32) (t0 : Int32) (z : PS) : Option PS := bd ((t0 >>> ((1 : Int32) &&& 31))) (fun v4 => if l2 = 0 then (ob (g_X1_part ev z th (r64 z 1 (rf ev 27 th)) (1 : Int32)) (fun v6 => ob (g_X4_rest v6 ((r32 z 28 th).toInt64)) (fun v7 => q_X1_tellByTurns_67 ev th k2 l1 l2 v4 v7 z))) else (q_X1_tellByTurns_67 ev th k2 l1 l2 v4 (1 : Int64) z))
set_option maxRecDepth 20000 in
set_option maxHeartbeats 4000000 in
theorem w_X1_tellByTurns_36 {ev : EV} {th : Nat} {p : Program} {l : Launch} {e : Env} {s : State} {m : MethodId} {args : Array Value} {below : List Frame} {meth : Method} {c : Code} {z9 : PS} (S : CallFix p m c cX1_tellByTurns 11 s args gT RX1) (hr : meth.sig.returnType = none) (hlk : meth.locks = false) (E : EWF ev) (hK : KK ev s) (hX : pXt ev s) (hth : isK ev 1 th) (k2 : (Int32 → PS → Option PS)) (hk2 : ∀ (l1 : Int32) (z : PS) (ls : Array Slot) (H : Heap) (locs : List Loc), k2 l1 z = some z9 → lv_has ls 11 [(0, .ref th), (1, .int l1)] → Wd ev z H → SS ev s H locs → W p l e (pR 2 80) s m args below meth c H locs 0 0 (MQ below (pQv ev z9) args s 0 0 (eA ev)) (F0 m 2 ls [])) : ∀ (l1 : Int32) (l2 : Int32) (t0 : Int32) (z : PS) (ls : Array Slot) (H : Heap) (locs : List Loc), q_X1_tellByTurns_36 ev th k2 l1 l2 t0 z = some z9 → lv_has ls 11 [(0, .ref th), (1, .int l1), (2, .int l2)] → Wd ev z H → SS ev s H locs → W p l e (pR 2 80) s m args below meth c H locs 0 0 (MQ below (pQv ev z9) args s 0 0 (eA ev)) (F0 m 36 ls [.int t0]) := by
  intro l1 l2 t0 z ls H locs h hl hP hS
  unfold q_X1_tellByTurns_36 at h
  refine lv_iconst (v := 1) S.1 S.2.1 dX1_tellByTurns_36 (by decide) ?_
  refine lv_ishr S.1 S.2.1 dX1_tellByTurns_37 ?_
  obtain ⟨v4, ev4, h⟩ := bd_s h
  refine pm_nmI ev4 ?_
  refine lv_istore_n (lv' := [(3, .int v4), (0, .ref th), (1, .int l1), (2, .int l2)]) S.1 S.2.1 dX1_tellByTurns_38 rfl hl (by decide) rfl (fun ls hl => ?_)
  refine lv_iload_n S.1 S.2.1 dX1_tellByTurns_39 rfl (lv_at hl 3 rfl) ?_
  refine lv_if_eq (tgt := 47) S.1 S.2.1 dX1_tellByTurns_40 (by decide) (fun c5 => ?_) (fun c5 => ?_)
  · rw [if_pos c5] at h
    refine lv_aload_n S.1 S.2.1 dX1_tellByTurns_47 rfl (lv_at hl 1 rfl) ?_
    refine lv_aload_n S.1 S.2.1 dX1_tellByTurns_48 rfl (lv_at hl 1 rfl) ?_
    refine gf_1_7 S hK hP hth mw_1_145 dX1_tellByTurns_49 ?_
    refine gf_0_1 S hK hP (E_1_7 E hth) mw_1_39 dX1_tellByTurns_52 ?_
    refine lv_iconst (v := 1) S.1 S.2.1 dX1_tellByTurns_55 (by decide) ?_
    obtain ⟨v6, ev6, h⟩ := ob_s h
    refine pm_cVr (As := [.long (r64 z 1 (rf ev 27 th)), .int (1 : Int32)]) (rest := []) S hK hX hP hS (c_X1_part l ev z E hth th (r64 z 1 (rf ev 27 th)) (1 : Int32) v6 ev6) vm_X1_part mw_2_185 (rc_1 hK hP hth) ⟨⟨rfl, rfl⟩, by decide, by decide⟩ rfl hl.1 rfl (Nat.le_of_ble_eq_true rfl) ⟨Nat.zero_le _, Nat.zero_le _⟩ dX1_tellByTurns_56 ?_
    refine lv_aload_n S.1 S.2.1 dX1_tellByTurns_59 rfl (lv_at hl 1 rfl) ?_
    refine gf_1_8 S hK hP hth mw_1_146 dX1_tellByTurns_60 ?_
    refine lv_i2l S.1 S.2.1 dX1_tellByTurns_63 rfl ?_
    obtain ⟨v7, ev7, h⟩ := ob_s h
    refine pm_cS (As := [.long v6, .long ((r32 z 28 th).toInt64)]) (rest := []) S (c_X4_rest l v6 ((r32 z 28 th).toInt64) v7 ev7) sm_X4_rest mw_2_143 ⟨⟨rfl, rfl⟩, by decide, by decide⟩ rfl hl.1 rfl (Nat.le_of_ble_eq_true rfl) ⟨Nat.zero_le _, Nat.zero_le _⟩ dX1_tellByTurns_64 ?_
    exact w_X1_tellByTurns_67 S hr hlk E hK hX hth k2 hk2 l1 l2 v4 v7 z ls _ _ h (lv_sub hl [1, 2, 3, 0] rfl) hP hS
  · rw [if_neg c5] at h
    refine lv_lconst (v := 1) S.1 S.2.1 dX1_tellByTurns_43 (by decide) ?_
    refine lv_goto (tgt := 67) S.1 S.2.1 dX1_tellByTurns_44 (by decide) ?_
    exact w_X1_tellByTurns_67 S hr hlk E hK hX hth k2 hk2 l1 l2 v4 (1 : Int64) z ls _ _ h (lv_sub hl [1, 2, 3, 0] rfl) hP hS
def q_X1_tellByTurns_22 (ev : EV) (th : Nat) (k2 : (Int32 → PS → Option PS)) (l1 : Int32) (t0 : Int32) (z : PS) : Option PS := if t0 = 0 then (q_X1_tellByTurns_36 ev th k2 l1 t0 (l1 + (4 : Int32)) z) else (q_X1_tellByTurns_36 ev th k2 l1 t0 (l1 + (3 : Int32)) z)
set_option maxRecDepth 20000 in
set_option maxHeartbeats 4000000 in
theorem w_X1_tellByTurns_22 {ev : EV} {th : Nat} {p : Program} {l : Launch} {e : Env} {s : State} {m : MethodId} {args : Array Value} {below : List Frame} {meth : Method} {c : Code} {z9 : PS} (S : CallFix p m c cX1_tellByTurns 11 s args gT RX1) (hr : meth.sig.returnType = none) (hlk : meth.locks = false) (E : EWF ev) (hK : KK ev s) (hX : pXt ev s) (hth : isK ev 1 th) (k2 : (Int32 → PS → Option PS)) (hk2 : ∀ (l1 : Int32) (z : PS) (ls : Array Slot) (H : Heap) (locs : List Loc), k2 l1 z = some z9 → lv_has ls 11 [(0, .ref th), (1, .int l1)] → Wd ev z H → SS ev s H locs → W p l e (pR 2 80) s m args below meth c H locs 0 0 (MQ below (pQv ev z9) args s 0 0 (eA ev)) (F0 m 2 ls [])) : ∀ (l1 : Int32) (t0 : Int32) (z : PS) (ls : Array Slot) (H : Heap) (locs : List Loc), q_X1_tellByTurns_22 ev th k2 l1 t0 z = some z9 → lv_has ls 11 [(0, .ref th), (1, .int l1)] → Wd ev z H → SS ev s H locs → W p l e (pR 2 80) s m args below meth c H locs 0 0 (MQ below (pQv ev z9) args s 0 0 (eA ev)) (F0 m 22 ls [.int t0]) := by
  intro l1 t0 z ls H locs h hl hP hS
  unfold q_X1_tellByTurns_22 at h
  refine lv_istore_n (lv' := [(2, .int t0), (0, .ref th), (1, .int l1)]) S.1 S.2.1 dX1_tellByTurns_22 rfl hl (by decide) rfl (fun ls hl => ?_)
  refine lv_iload_n S.1 S.2.1 dX1_tellByTurns_23 rfl (lv_at hl 0 rfl) ?_
  refine lv_if_eq (tgt := 33) S.1 S.2.1 dX1_tellByTurns_24 (by decide) (fun c3 => ?_) (fun c3 => ?_)
  · rw [if_pos c3] at h
    refine lv_iload_n S.1 S.2.1 dX1_tellByTurns_33 rfl (lv_at hl 2 rfl) ?_
    refine lv_iconst (v := 4) S.1 S.2.1 dX1_tellByTurns_34 (by decide) ?_
    refine lv_iadd S.1 S.2.1 dX1_tellByTurns_35 ?_
    exact w_X1_tellByTurns_36 S hr hlk E hK hX hth k2 hk2 l1 t0 (l1 + (4 : Int32)) z ls _ _ h (lv_sub hl [1, 2, 0] rfl) hP hS
  · rw [if_neg c3] at h
    refine lv_iload_n S.1 S.2.1 dX1_tellByTurns_27 rfl (lv_at hl 2 rfl) ?_
    refine lv_iconst (v := 3) S.1 S.2.1 dX1_tellByTurns_28 (by decide) ?_
    refine lv_iadd S.1 S.2.1 dX1_tellByTurns_29 ?_
    refine lv_goto (tgt := 36) S.1 S.2.1 dX1_tellByTurns_30 (by decide) ?_
    exact w_X1_tellByTurns_36 S hr hlk E hK hX hth k2 hk2 l1 t0 (l1 + (3 : Int32)) z ls _ _ h (lv_sub hl [1, 2, 0] rfl) hP hS
def q_X1_tellByTurns_2 (ev : EV) (th : Nat) : Nat → Int32 → PS → Option PS
  | 0, _, _ => none
  | n + 1, l1, z => if (r32 z 25 th) < l1 then (some z) else (if (l1 &&& (1 : Int32)) = (1 : Int32) then (q_X1_tellByTurns_22 ev th (q_X1_tellByTurns_2 ev th n) l1 (1 : Int32) z) else (q_X1_tellByTurns_22 ev th (q_X1_tellByTurns_2 ev th n) l1 (0 : Int32) z))
set_option maxRecDepth 20000 in
set_option maxHeartbeats 4000000 in
theorem w_X1_tellByTurns_2 {ev : EV} {th : Nat} {p : Program} {l : Launch} {e : Env} {s : State} {m : MethodId} {args : Array Value} {below : List Frame} {meth : Method} {c : Code} {z9 : PS} (S : CallFix p m c cX1_tellByTurns 11 s args gT RX1) (hr : meth.sig.returnType = none) (hlk : meth.locks = false) (E : EWF ev) (hK : KK ev s) (hX : pXt ev s) (hth : isK ev 1 th) : ∀ (n : Nat), ∀ (l1 : Int32) (z : PS) (ls : Array Slot) (H : Heap) (locs : List Loc), q_X1_tellByTurns_2 ev th n l1 z = some z9 → lv_has ls 11 [(0, .ref th), (1, .int l1)] → Wd ev z H → SS ev s H locs → W p l e (pR 2 80) s m args below meth c H locs 0 0 (MQ below (pQv ev z9) args s 0 0 (eA ev)) (F0 m 2 ls []) := by
  intro n
  induction n with
  | zero => intro l1 z ls H locs h; cases h
  | succ n ih =>
    intro l1 z ls H locs h hl hP hS
    rw [q_X1_tellByTurns_2] at h
    refine lv_iload_n S.1 S.2.1 dX1_tellByTurns_2 rfl (lv_at hl 1 rfl) ?_
    refine lv_aload_n S.1 S.2.1 dX1_tellByTurns_3 rfl (lv_at hl 0 rfl) ?_
    refine gf_1_5 S hK hP hth mw_1_142 dX1_tellByTurns_4 ?_
    refine lv_icmp_gt (tgt := 271) S.1 S.2.1 dX1_tellByTurns_7 (by decide) (fun c1 => ?_) (fun c1 => ?_)
    · rw [if_pos c1] at h
      exact pm_vretW S hr hlk hP hS (Option.some.inj h) dX1_tellByTurns_271
    · rw [if_neg c1] at h
      refine lv_iload_n S.1 S.2.1 dX1_tellByTurns_10 rfl (lv_at hl 1 rfl) ?_
      refine lv_iconst (v := 1) S.1 S.2.1 dX1_tellByTurns_11 (by decide) ?_
      refine lv_iand S.1 S.2.1 dX1_tellByTurns_12 ?_
      refine lv_iconst (v := 1) S.1 S.2.1 dX1_tellByTurns_13 (by decide) ?_
      refine lv_icmp_ne (tgt := 21) S.1 S.2.1 dX1_tellByTurns_14 (by decide) (fun c2 => ?_) (fun c2 => ?_)
      · rw [if_neg c2] at h
        refine lv_iconst (v := 0) S.1 S.2.1 dX1_tellByTurns_21 (by decide) ?_
        exact w_X1_tellByTurns_22 S hr hlk E hK hX hth (q_X1_tellByTurns_2 ev th n) ih l1 (0 : Int32) z ls _ _ h (lv_sub hl [0, 1] rfl) hP hS
      · rw [if_pos c2] at h
        refine lv_iconst (v := 1) S.1 S.2.1 dX1_tellByTurns_17 (by decide) ?_
        refine lv_goto (tgt := 22) S.1 S.2.1 dX1_tellByTurns_18 (by decide) ?_
        exact w_X1_tellByTurns_22 S hr hlk E hK hX hth (q_X1_tellByTurns_2 ev th n) ih l1 (1 : Int32) z ls _ _ h (lv_sub hl [0, 1] rfl) hP hS
def g_X1_tellByTurns (ev : EV) (z : PS) (th : Nat) : Option PS := q_X1_tellByTurns_2 ev th FU (1 : Int32) z
set_option maxRecDepth 20000 in
set_option maxHeartbeats 4000000 in
theorem c_X1_tellByTurns (l : Launch) (ev : EV) (z : PS) (E : EWF ev) {th : Nat} (hth : isK ev 1 th) (th_ : Nat) (z9 : PS) (h : g_X1_tellByTurns ev z th = some z9) : Met l yX1_tellByTurns (pWs yX1_tellByTurns cX1_tellByTurns 11 none) (pR 2 80) (va_Pc [.ref th] (pPe ev z)) (pQv ev z9) 0 0 (eA ev) := by
  refine pm_of (by decide) (Nat.le_of_ble_eq_true rfl) ?_
  intro p e s m below meth c S hr hlk hv ls hl
  obtain ⟨hP, hK, hX⟩ := hv
  have hS : SS ev s s.heap [] := va_S.rf
  have hl : lv_has ls 11 [(0, .ref th)] := hl
  unfold g_X1_tellByTurns at h
  refine lv_iconst (v := 1) S.1 S.2.1 dX1_tellByTurns_0 (by decide) ?_
  refine lv_istore_n (lv' := [(1, .int (1 : Int32)), (0, .ref th)]) S.1 S.2.1 dX1_tellByTurns_1 rfl hl (by decide) rfl (fun ls hl => ?_)
  exact w_X1_tellByTurns_2 S hr hlk E hK hX hth FU (1 : Int32) z ls _ _ h (lv_sub hl [1, 0] rfl) hP hS
theorem vm_X1_tellByTurns : pm_Vm yX1_tellByTurns cX1_tellByTurns 11 none 0 := ⟨mw_2_216, mw_2_215, ms_277, mw_1_5, by decide, by decide⟩
def g_X1_tellLateKind (ev : EV) (z : PS) (th : Nat) : Option PS := ob (g_X1_part ev z th (r64 z 2 (rf ev 27 th)) (2 : Int32)) (fun v1 => ob (g_X4_rest v1 ((r32 z 28 th).toInt64)) (fun v2 => ob (g_X1_part ev z th (r64 z 4 (rf ev 27 th)) (4 : Int32)) (fun v3 => ob (g_X4_rest (-v3) ((r32 z 28 th).toInt64)) (fun v4 => ob (g_X1_rootOf ev z th (1 : Int64) v2 v4) (fun v5 => ob (g_X1_hasUnlikeRoots ev z th (1 : Int64) v2 v4) (fun v6 => if v6 = 0 then (ob (g_X4_power ((r32 z 28 th).toInt64) (2 : Int32)) (fun v8 => ob (g_X0_shift ev z (rf ev 27 th) (0 : Int64) (0 : Int64) ((v5.toInt64) * v8)) (fun z9 => ob (g_X1_goesIn ev z9 th (r64 z9 3 (rf ev 27 th)) (4 : Int32)) (fun v10 => if v10 = 0 then (ob (g_X1_tell ev z9 th (8 : Int32) ((r32 z9 25 th) - (7 : Int32)) (8 : Int32) (2 : Int32)) (fun z13 => some z13)) else (ob (g_X1_tell ev z9 th (9 : Int32) ((r32 z9 25 th) - (8 : Int32)) (9 : Int32) (1 : Int32)) (fun z12 => some z12)))))) else (if v5 = (-1 : Int32) then (ob (g_X1_tell ev z th (7 : Int32) ((r32 z 25 th) - (6 : Int32)) (7 : Int32) (1 : Int32)) (fun z16 => some z16)) else (ob (g_X1_tell ev z th (7 : Int32) ((r32 z 25 th) - (6 : Int32)) (7 : Int32) (3 : Int32)) (fun z15 => some z15)))))))))
set_option maxRecDepth 20000 in
set_option maxHeartbeats 4000000 in
theorem c_X1_tellLateKind (l : Launch) (ev : EV) (z : PS) (E : EWF ev) {th : Nat} (hth : isK ev 1 th) (th_ : Nat) (z9 : PS) (h : g_X1_tellLateKind ev z th = some z9) : Met l yX1_tellLateKind (pWs yX1_tellLateKind cX1_tellLateKind 6 none) (pR 2 80) (va_Pc [.ref th] (pPe ev z)) (pQv ev z9) 0 0 (eA ev) := by
  refine pm_of (by decide) (Nat.le_of_ble_eq_true rfl) ?_
  intro p e s m below meth c S hr hlk hv ls hl
  obtain ⟨hP, hK, hX⟩ := hv
  have hS : SS ev s s.heap [] := va_S.rf
  have hl : lv_has ls 6 [(0, .ref th)] := hl
  unfold g_X1_tellLateKind at h
  refine lv_aload_n S.1 S.2.1 dX1_tellLateKind_0 rfl (lv_at hl 0 rfl) ?_
  refine lv_aload_n S.1 S.2.1 dX1_tellLateKind_1 rfl (lv_at hl 0 rfl) ?_
  refine gf_1_7 S hK hP hth mw_1_145 dX1_tellLateKind_2 ?_
  refine gf_0_2 S hK hP (E_1_7 E hth) mw_1_41 dX1_tellLateKind_5 ?_
  refine lv_iconst (v := 2) S.1 S.2.1 dX1_tellLateKind_8 (by decide) ?_
  obtain ⟨v1, ev1, h⟩ := ob_s h
  refine pm_cVr (As := [.long (r64 z 2 (rf ev 27 th)), .int (2 : Int32)]) (rest := []) S hK hX hP hS (c_X1_part l ev z E hth th (r64 z 2 (rf ev 27 th)) (2 : Int32) v1 ev1) vm_X1_part mw_2_185 (rc_1 hK hP hth) ⟨⟨rfl, rfl⟩, by decide, by decide⟩ rfl hl.1 rfl (Nat.le_of_ble_eq_true rfl) ⟨Nat.zero_le _, Nat.zero_le _⟩ dX1_tellLateKind_9 ?_
  refine lv_aload_n S.1 S.2.1 dX1_tellLateKind_12 rfl (lv_at hl 0 rfl) ?_
  refine gf_1_8 S hK hP hth mw_1_146 dX1_tellLateKind_13 ?_
  refine lv_i2l S.1 S.2.1 dX1_tellLateKind_16 rfl ?_
  obtain ⟨v2, ev2, h⟩ := ob_s h
  refine pm_cS (As := [.long v1, .long ((r32 z 28 th).toInt64)]) (rest := []) S (c_X4_rest l v1 ((r32 z 28 th).toInt64) v2 ev2) sm_X4_rest mw_2_143 ⟨⟨rfl, rfl⟩, by decide, by decide⟩ rfl hl.1 rfl (Nat.le_of_ble_eq_true rfl) ⟨Nat.zero_le _, Nat.zero_le _⟩ dX1_tellLateKind_17 ?_
  refine lv_lstore_n (lv' := [(1, .long v2), (0, .ref th)]) S.1 S.2.1 dX1_tellLateKind_20 rfl hl (by decide) rfl (fun ls hl => ?_)
  refine lv_aload_n S.1 S.2.1 dX1_tellLateKind_21 rfl (lv_at hl 1 rfl) ?_
  refine lv_aload_n S.1 S.2.1 dX1_tellLateKind_22 rfl (lv_at hl 1 rfl) ?_
  refine gf_1_7 S hK hP hth mw_1_145 dX1_tellLateKind_23 ?_
  refine gf_0_4 S hK hP (E_1_7 E hth) mw_1_45 dX1_tellLateKind_26 ?_
  refine lv_iconst (v := 4) S.1 S.2.1 dX1_tellLateKind_29 (by decide) ?_
  obtain ⟨v3, ev3, h⟩ := ob_s h
  refine pm_cVr (As := [.long (r64 z 4 (rf ev 27 th)), .int (4 : Int32)]) (rest := []) S hK hX hP hS (c_X1_part l ev z E hth th (r64 z 4 (rf ev 27 th)) (4 : Int32) v3 ev3) vm_X1_part mw_2_185 (rc_1 hK hP hth) ⟨⟨rfl, rfl⟩, by decide, by decide⟩ rfl hl.1 rfl (Nat.le_of_ble_eq_true rfl) ⟨Nat.zero_le _, Nat.zero_le _⟩ dX1_tellLateKind_30 ?_
  refine lv_lneg S.1 S.2.1 dX1_tellLateKind_33 ?_
  refine lv_aload_n S.1 S.2.1 dX1_tellLateKind_34 rfl (lv_at hl 1 rfl) ?_
  refine gf_1_8 S hK hP hth mw_1_146 dX1_tellLateKind_35 ?_
  refine lv_i2l S.1 S.2.1 dX1_tellLateKind_38 rfl ?_
  obtain ⟨v4, ev4, h⟩ := ob_s h
  refine pm_cS (As := [.long (-v3), .long ((r32 z 28 th).toInt64)]) (rest := []) S (c_X4_rest l (-v3) ((r32 z 28 th).toInt64) v4 ev4) sm_X4_rest mw_2_143 ⟨⟨rfl, rfl⟩, by decide, by decide⟩ rfl hl.1 rfl (Nat.le_of_ble_eq_true rfl) ⟨Nat.zero_le _, Nat.zero_le _⟩ dX1_tellLateKind_39 ?_
  refine lv_lstore_n (lv' := [(3, .long v4), (1, .long v2), (0, .ref th)]) S.1 S.2.1 dX1_tellLateKind_42 rfl hl (by decide) rfl (fun ls hl => ?_)
  refine lv_aload_n S.1 S.2.1 dX1_tellLateKind_43 rfl (lv_at hl 2 rfl) ?_
  refine lv_lconst (v := 1) S.1 S.2.1 dX1_tellLateKind_44 (by decide) ?_
  refine lv_lload_n S.1 S.2.1 dX1_tellLateKind_45 rfl (lv_at hl 1 rfl) ?_
  refine lv_lload_n S.1 S.2.1 dX1_tellLateKind_46 rfl (lv_at hl 0 rfl) ?_
  obtain ⟨v5, ev5, h⟩ := ob_s h
  refine pm_cVr (As := [.long (1 : Int64), .long v2, .long v4]) (rest := []) S hK hX hP hS (c_X1_rootOf l ev z E hth th (1 : Int64) v2 v4 v5 ev5) vm_X1_rootOf mw_2_190 (rc_1 hK hP hth) ⟨⟨rfl, rfl⟩, by decide, by decide⟩ rfl hl.1 rfl (Nat.le_of_ble_eq_true rfl) ⟨Nat.zero_le _, Nat.zero_le _⟩ dX1_tellLateKind_47 ?_
  refine lv_istore (lv' := [(5, .int v5), (3, .long v4), (1, .long v2), (0, .ref th)]) S.1 S.2.1 dX1_tellLateKind_50 hl (by decide) rfl (fun ls hl => ?_)
  refine lv_aload_n S.1 S.2.1 dX1_tellLateKind_52 rfl (lv_at hl 3 rfl) ?_
  refine lv_lconst (v := 1) S.1 S.2.1 dX1_tellLateKind_53 (by decide) ?_
  refine lv_lload_n S.1 S.2.1 dX1_tellLateKind_54 rfl (lv_at hl 2 rfl) ?_
  refine lv_lload_n S.1 S.2.1 dX1_tellLateKind_55 rfl (lv_at hl 1 rfl) ?_
  obtain ⟨v6, ev6, h⟩ := ob_s h
  refine pm_cVr (As := [.long (1 : Int64), .long v2, .long v4]) (rest := []) S hK hX hP hS (c_X1_hasUnlikeRoots l ev z E hth th (1 : Int64) v2 v4 v6 ev6) vm_X1_hasUnlikeRoots mw_2_217 (rc_1 hK hP hth) ⟨⟨rfl, rfl⟩, by decide, by decide⟩ rfl hl.1 rfl (Nat.le_of_ble_eq_true rfl) ⟨Nat.zero_le _, Nat.zero_le _⟩ dX1_tellLateKind_56 ?_
  refine lv_if_eq (tgt := 89) S.1 S.2.1 dX1_tellLateKind_59 (by decide) (fun c7 => ?_) (fun c7 => ?_)
  · rw [if_pos c7] at h
    refine lv_aload_n S.1 S.2.1 dX1_tellLateKind_89 rfl (lv_at hl 3 rfl) ?_
    refine gf_1_7 S hK hP hth mw_1_145 dX1_tellLateKind_90 ?_
    refine lv_lconst (v := 0) S.1 S.2.1 dX1_tellLateKind_93 (by decide) ?_
    refine lv_lconst (v := 0) S.1 S.2.1 dX1_tellLateKind_94 (by decide) ?_
    refine lv_iload S.1 S.2.1 dX1_tellLateKind_95 (lv_at hl 0 rfl) ?_
    refine lv_i2l S.1 S.2.1 dX1_tellLateKind_97 rfl ?_
    refine lv_aload_n S.1 S.2.1 dX1_tellLateKind_98 rfl (lv_at hl 3 rfl) ?_
    refine gf_1_8 S hK hP hth mw_1_146 dX1_tellLateKind_99 ?_
    refine lv_i2l S.1 S.2.1 dX1_tellLateKind_102 rfl ?_
    refine lv_iconst (v := 2) S.1 S.2.1 dX1_tellLateKind_103 (by decide) ?_
    obtain ⟨v8, ev8, h⟩ := ob_s h
    refine pm_cS (As := [.long ((r32 z 28 th).toInt64), .int (2 : Int32)]) (rest := [.long (v5.toInt64), .long (0 : Int64), .long (0 : Int64), .ref (rf ev 27 th)]) S (c_X4_power l ((r32 z 28 th).toInt64) (2 : Int32) v8 ev8) sm_X4_power mw_2_184 ⟨⟨rfl, rfl⟩, by decide, by decide⟩ rfl hl.1 rfl (Nat.le_of_ble_eq_true rfl) ⟨Nat.zero_le _, Nat.zero_le _⟩ dX1_tellLateKind_104 ?_
    refine lv_lmul S.1 S.2.1 dX1_tellLateKind_107 ?_
    obtain ⟨z9, ez9, h⟩ := ob_s h
    refine pm_cVv (As := [.long (0 : Int64), .long (0 : Int64), .long ((v5.toInt64) * v8)]) (rest := []) S hK hX hP hS (c_X0_shift l ev z E (E_1_7 E hth) (rf ev 27 th) (0 : Int64) (0 : Int64) ((v5.toInt64) * v8) z9 ez9) vm_X0_shift mw_2_175 (rc_0 hK hP (E_1_7 E hth)) ⟨⟨rfl, rfl⟩, by decide, by decide⟩ rfl hl.1 rfl (Nat.le_of_ble_eq_true rfl) ⟨Nat.zero_le _, Nat.zero_le _⟩ dX1_tellLateKind_108 (fun H locs hP hS => ?_)
    refine lv_aload_n S.1 S.2.1 dX1_tellLateKind_111 rfl (lv_at hl 3 rfl) ?_
    refine lv_aload_n S.1 S.2.1 dX1_tellLateKind_112 rfl (lv_at hl 3 rfl) ?_
    refine gf_1_7 S hK hP hth mw_1_145 dX1_tellLateKind_113 ?_
    refine gf_0_3 S hK hP (E_1_7 E hth) mw_1_43 dX1_tellLateKind_116 ?_
    refine lv_iconst (v := 4) S.1 S.2.1 dX1_tellLateKind_119 (by decide) ?_
    obtain ⟨v10, ev10, h⟩ := ob_s h
    refine pm_cVr (As := [.long (r64 z9 3 (rf ev 27 th)), .int (4 : Int32)]) (rest := []) S hK hX hP hS (c_X1_goesIn l ev z9 E hth th (r64 z9 3 (rf ev 27 th)) (4 : Int32) v10 ev10) vm_X1_goesIn mw_2_180 (rc_1 hK hP hth) ⟨⟨rfl, rfl⟩, by decide, by decide⟩ rfl hl.1 rfl (Nat.le_of_ble_eq_true rfl) ⟨Nat.zero_le _, Nat.zero_le _⟩ dX1_tellLateKind_120 ?_
    refine lv_if_ne (tgt := 145) S.1 S.2.1 dX1_tellLateKind_123 (by decide) (fun c11 => ?_) (fun c11 => ?_)
    · rw [if_neg c11] at h
      refine lv_aload_n S.1 S.2.1 dX1_tellLateKind_145 rfl (lv_at hl 3 rfl) ?_
      refine lv_bipush (v := 9) S.1 S.2.1 dX1_tellLateKind_146 (by decide) ?_
      refine lv_aload_n S.1 S.2.1 dX1_tellLateKind_148 rfl (lv_at hl 3 rfl) ?_
      refine gf_1_5 S hK hP hth mw_1_142 dX1_tellLateKind_149 ?_
      refine lv_bipush (v := 8) S.1 S.2.1 dX1_tellLateKind_152 (by decide) ?_
      refine lv_isub S.1 S.2.1 dX1_tellLateKind_154 ?_
      refine lv_bipush (v := 9) S.1 S.2.1 dX1_tellLateKind_155 (by decide) ?_
      refine lv_iconst (v := 1) S.1 S.2.1 dX1_tellLateKind_157 (by decide) ?_
      obtain ⟨z12, ez12, h⟩ := ob_s h
      refine pm_cVv (As := [.int (9 : Int32), .int ((r32 z9 25 th) - (8 : Int32)), .int (9 : Int32), .int (1 : Int32)]) (rest := []) S hK hX hP hS (c_X1_tell l ev z9 E hth th (9 : Int32) ((r32 z9 25 th) - (8 : Int32)) (9 : Int32) (1 : Int32) z12 ez12) vm_X1_tell mw_2_139 (rc_1 hK hP hth) ⟨⟨rfl, rfl⟩, by decide, by decide⟩ rfl hl.1 rfl (Nat.le_of_ble_eq_true rfl) ⟨Nat.zero_le _, Nat.zero_le _⟩ dX1_tellLateKind_158 (fun H locs hP hS => ?_)
      exact pm_vretW S hr hlk hP hS (Option.some.inj h) dX1_tellLateKind_161
    · rw [if_pos c11] at h
      refine lv_aload_n S.1 S.2.1 dX1_tellLateKind_126 rfl (lv_at hl 3 rfl) ?_
      refine lv_bipush (v := 8) S.1 S.2.1 dX1_tellLateKind_127 (by decide) ?_
      refine lv_aload_n S.1 S.2.1 dX1_tellLateKind_129 rfl (lv_at hl 3 rfl) ?_
      refine gf_1_5 S hK hP hth mw_1_142 dX1_tellLateKind_130 ?_
      refine lv_bipush (v := 7) S.1 S.2.1 dX1_tellLateKind_133 (by decide) ?_
      refine lv_isub S.1 S.2.1 dX1_tellLateKind_135 ?_
      refine lv_bipush (v := 8) S.1 S.2.1 dX1_tellLateKind_136 (by decide) ?_
      refine lv_iconst (v := 2) S.1 S.2.1 dX1_tellLateKind_138 (by decide) ?_
      obtain ⟨z13, ez13, h⟩ := ob_s h
      refine pm_cVv (As := [.int (8 : Int32), .int ((r32 z9 25 th) - (7 : Int32)), .int (8 : Int32), .int (2 : Int32)]) (rest := []) S hK hX hP hS (c_X1_tell l ev z9 E hth th (8 : Int32) ((r32 z9 25 th) - (7 : Int32)) (8 : Int32) (2 : Int32) z13 ez13) vm_X1_tell mw_2_139 (rc_1 hK hP hth) ⟨⟨rfl, rfl⟩, by decide, by decide⟩ rfl hl.1 rfl (Nat.le_of_ble_eq_true rfl) ⟨Nat.zero_le _, Nat.zero_le _⟩ dX1_tellLateKind_139 (fun H locs hP hS => ?_)
      refine lv_goto (tgt := 161) S.1 S.2.1 dX1_tellLateKind_142 (by decide) ?_
      exact pm_vretW S hr hlk hP hS (Option.some.inj h) dX1_tellLateKind_161
  · rw [if_neg c7] at h
    refine lv_aload_n S.1 S.2.1 dX1_tellLateKind_62 rfl (lv_at hl 3 rfl) ?_
    refine lv_bipush (v := 7) S.1 S.2.1 dX1_tellLateKind_63 (by decide) ?_
    refine lv_aload_n S.1 S.2.1 dX1_tellLateKind_65 rfl (lv_at hl 3 rfl) ?_
    refine gf_1_5 S hK hP hth mw_1_142 dX1_tellLateKind_66 ?_
    refine lv_bipush (v := 6) S.1 S.2.1 dX1_tellLateKind_69 (by decide) ?_
    refine lv_isub S.1 S.2.1 dX1_tellLateKind_71 ?_
    refine lv_bipush (v := 7) S.1 S.2.1 dX1_tellLateKind_72 (by decide) ?_
    refine lv_iload S.1 S.2.1 dX1_tellLateKind_74 (lv_at hl 0 rfl) ?_
    refine lv_iconst (v := -1) S.1 S.2.1 dX1_tellLateKind_76 (by decide) ?_
    refine lv_icmp_ne (tgt := 84) S.1 S.2.1 dX1_tellLateKind_77 (by decide) (fun c14 => ?_) (fun c14 => ?_)
    · rw [if_neg c14] at h
      refine lv_iconst (v := 3) S.1 S.2.1 dX1_tellLateKind_84 (by decide) ?_
      obtain ⟨z15, ez15, h⟩ := ob_s h
      refine pm_cVv (As := [.int (7 : Int32), .int ((r32 z 25 th) - (6 : Int32)), .int (7 : Int32), .int (3 : Int32)]) (rest := []) S hK hX hP hS (c_X1_tell l ev z E hth th (7 : Int32) ((r32 z 25 th) - (6 : Int32)) (7 : Int32) (3 : Int32) z15 ez15) vm_X1_tell mw_2_139 (rc_1 hK hP hth) ⟨⟨rfl, rfl⟩, by decide, by decide⟩ rfl hl.1 rfl (Nat.le_of_ble_eq_true rfl) ⟨Nat.zero_le _, Nat.zero_le _⟩ dX1_tellLateKind_85 (fun H locs hP hS => ?_)
      exact pm_vretW S hr hlk hP hS (Option.some.inj h) dX1_tellLateKind_88
    · rw [if_pos c14] at h
      refine lv_iconst (v := 1) S.1 S.2.1 dX1_tellLateKind_80 (by decide) ?_
      refine lv_goto (tgt := 85) S.1 S.2.1 dX1_tellLateKind_81 (by decide) ?_
      obtain ⟨z16, ez16, h⟩ := ob_s h
      refine pm_cVv (As := [.int (7 : Int32), .int ((r32 z 25 th) - (6 : Int32)), .int (7 : Int32), .int (1 : Int32)]) (rest := []) S hK hX hP hS (c_X1_tell l ev z E hth th (7 : Int32) ((r32 z 25 th) - (6 : Int32)) (7 : Int32) (1 : Int32) z16 ez16) vm_X1_tell mw_2_139 (rc_1 hK hP hth) ⟨⟨rfl, rfl⟩, by decide, by decide⟩ rfl hl.1 rfl (Nat.le_of_ble_eq_true rfl) ⟨Nat.zero_le _, Nat.zero_le _⟩ dX1_tellLateKind_85 (fun H locs hP hS => ?_)
      exact pm_vretW S hr hlk hP hS (Option.some.inj h) dX1_tellLateKind_88
theorem vm_X1_tellLateKind : pm_Vm yX1_tellLateKind cX1_tellLateKind 6 none 0 := ⟨mw_2_224, mw_2_223, ms_280, mw_1_5, by decide, by decide⟩
def g_X1_reckon (ev : EV) (z : PS) (th : Nat) (l1 : Nat) (l2 : Int32) : Option PS := bd (w32 z 28 th l2) (fun z1 => ob (g_X4_times (r64 z1 11 l1) ((r32 z1 28 th).toInt64)) (fun v2 => bd (w32 z1 25 th v2) (fun z3 => bd (w32 z3 26 th (0 : Int32)) (fun z4 => if (r32 z4 25 th) = 0 then (ob (g_X1_tell ev z4 th (0 : Int32) (0 : Int32) (1 : Int32) (1 : Int32)) (fun z31 => some z31)) else (ob (g_X4_rest (r64 z4 9 l1) ((r32 z4 28 th).toInt64)) (fun v6 => if v6 = (0 : Int64) then (ob (g_X0_take ev z4 (rf ev 27 th) l1) (fun z8 => ob (g_X1_moveSingularPoint ev z8 th) (fun z9 => ob (g_X1_tellEarlyKind ev z9 th) (fun qv11 => bd qv11.1 (fun v11 => bd qv11.2 (fun z10 => if v11 = 0 then (ob (g_X1_moveForCubic ev z10 th) (fun z13 => ob (g_X1_part ev z13 th (r64 z13 1 (rf ev 27 th)) (1 : Int32)) (fun v14 => ob (g_X4_rest v14 ((r32 z13 28 th).toInt64)) (fun v15 => ob (g_X1_part ev z13 th (r64 z13 3 (rf ev 27 th)) (2 : Int32)) (fun v16 => ob (g_X4_rest v16 ((r32 z13 28 th).toInt64)) (fun v17 => ob (g_X1_part ev z13 th (r64 z13 4 (rf ev 27 th)) (3 : Int32)) (fun v18 => ob (g_X4_rest v18 ((r32 z13 28 th).toInt64)) (fun v19 => ob (g_X4_rest ((((((((18 : Int64) * v15) * v17) * v19) + (((v15 * v15) * v17) * v17)) - (((((4 : Int64) * v15) * v15) * v15) * v19)) - ((((4 : Int64) * v17) * v17) * v17)) - (((27 : Int64) * v19) * v19)) ((r32 z13 28 th).toInt64)) (fun v20 => if v20 = (0 : Int64) then (ob (g_X1_multipleRoot ev z13 th v15 v17 v19) (fun v22 => ob (g_X0_shift ev z13 (rf ev 27 th) (((r32 z13 28 th).toInt64) * v22) (0 : Int64) (0 : Int64)) (fun z23 => ob (g_X4_rest ((v15 * v15) - ((3 : Int64) * v17)) ((r32 z23 28 th).toInt64)) (fun v24 => if v24 = (0 : Int64) then (ob (g_X1_tellLateKind ev z23 th) (fun z26 => some z26)) else (ob (g_X1_tellByTurns ev z23 th) (fun z27 => some z27)))))) else (ob (g_X1_cubicRoots ev z13 th v15 v17 v19) (fun v28 => ob (g_X1_tell ev z13 th (5 : Int32) ((r32 z13 25 th) - (4 : Int32)) (5 : Int32) ((1 : Int32) + v28)) (fun z29 => some z29)))))))))))) else (some z10))))))) else (ob (g_X1_tellNode ev z4 th l1) (fun z30 => some z30))))))))
set_option maxRecDepth 20000 in
set_option maxHeartbeats 4000000 in
theorem c_X1_reckon (l : Launch) (ev : EV) (z : PS) (E : EWF ev) {th : Nat} (hth : isK ev 1 th) {l1 : Nat} (hl1 : isK ev 0 l1) (th_ : Nat) (l1_ : Nat) (l2 : Int32) (z9 : PS) (h : g_X1_reckon ev z th l1 l2 = some z9) : Met l yX1_reckon (pWs yX1_reckon cX1_reckon 9 none) (pR 3 122) (va_Pc [.ref th, .ref l1, .int l2] (pPe ev z)) (pQv ev z9) 0 0 (eA ev) := by
  refine pm_of (by decide) (Nat.le_of_ble_eq_true rfl) ?_
  intro p e s m below meth c S hr hlk hv ls hl
  obtain ⟨hP, hK, hX⟩ := hv
  have hS : SS ev s s.heap [] := va_S.rf
  have hl : lv_has ls 9 [(0, .ref th), (1, .ref l1), (2, .int l2)] := hl
  unfold g_X1_reckon at h
  refine lv_aload_n S.1 S.2.1 dX1_reckon_0 rfl (lv_at hl 0 rfl) ?_
  refine lv_iload_n S.1 S.2.1 dX1_reckon_1 rfl (lv_at hl 2 rfl) ?_
  obtain ⟨z1, ez1, h⟩ := bd_s h
  refine pf_1_8 S E hK hP hS hth mw_1_146 dX1_reckon_2 (fun H locs hP hS => ?_)
  rw [← ez1] at hP
  refine lv_aload_n S.1 S.2.1 dX1_reckon_5 rfl (lv_at hl 0 rfl) ?_
  refine lv_aload_n S.1 S.2.1 dX1_reckon_6 rfl (lv_at hl 1 rfl) ?_
  refine gf_0_11 S hK hP hl1 mw_1_64 dX1_reckon_7 ?_
  refine lv_aload_n S.1 S.2.1 dX1_reckon_10 rfl (lv_at hl 0 rfl) ?_
  refine gf_1_8 S hK hP hth mw_1_146 dX1_reckon_11 ?_
  refine lv_i2l S.1 S.2.1 dX1_reckon_14 rfl ?_
  obtain ⟨v2, ev2, h⟩ := ob_s h
  refine pm_cS (As := [.long (r64 z1 11 l1), .long ((r32 z1 28 th).toInt64)]) (rest := [.ref th]) S (c_X4_times l (r64 z1 11 l1) ((r32 z1 28 th).toInt64) v2 ev2) sm_X4_times mw_2_138 ⟨⟨rfl, rfl⟩, by decide, by decide⟩ rfl hl.1 rfl (Nat.le_of_ble_eq_true rfl) ⟨Nat.zero_le _, Nat.zero_le _⟩ dX1_reckon_15 ?_
  obtain ⟨z3, ez3, h⟩ := bd_s h
  refine pf_1_5 S E hK hP hS hth mw_1_142 dX1_reckon_18 (fun H locs hP hS => ?_)
  rw [← ez3] at hP
  refine lv_aload_n S.1 S.2.1 dX1_reckon_21 rfl (lv_at hl 0 rfl) ?_
  refine lv_iconst (v := 0) S.1 S.2.1 dX1_reckon_22 (by decide) ?_
  obtain ⟨z4, ez4, h⟩ := bd_s h
  refine pf_1_6 S E hK hP hS hth (Or.inl rfl) mw_1_143 dX1_reckon_23 (fun H locs hP hS => ?_)
  rw [← ez4] at hP
  refine lv_aload_n S.1 S.2.1 dX1_reckon_26 rfl (lv_at hl 0 rfl) ?_
  refine gf_1_5 S hK hP hth mw_1_142 dX1_reckon_27 ?_
  refine lv_if_ne (tgt := 42) S.1 S.2.1 dX1_reckon_30 (by decide) (fun c5 => ?_) (fun c5 => ?_)
  · rw [if_neg c5] at h
    refine lv_aload_n S.1 S.2.1 dX1_reckon_42 rfl (lv_at hl 1 rfl) ?_
    refine gf_0_9 S hK hP hl1 mw_1_55 dX1_reckon_43 ?_
    refine lv_aload_n S.1 S.2.1 dX1_reckon_46 rfl (lv_at hl 0 rfl) ?_
    refine gf_1_8 S hK hP hth mw_1_146 dX1_reckon_47 ?_
    refine lv_i2l S.1 S.2.1 dX1_reckon_50 rfl ?_
    obtain ⟨v6, ev6, h⟩ := ob_s h
    refine pm_cS (As := [.long (r64 z4 9 l1), .long ((r32 z4 28 th).toInt64)]) (rest := []) S (c_X4_rest l (r64 z4 9 l1) ((r32 z4 28 th).toInt64) v6 ev6) sm_X4_rest mw_2_143 ⟨⟨rfl, rfl⟩, by decide, by decide⟩ rfl hl.1 rfl (Nat.le_of_ble_eq_true rfl) ⟨Nat.zero_le _, Nat.zero_le _⟩ dX1_reckon_51 ?_
    refine lv_lconst (v := 0) S.1 S.2.1 dX1_reckon_54 (by decide) ?_
    refine pm_leq (tgt := 65) S dX1_reckon_55 dX1_reckon_56 (by decide) (fun c7 => ?_) (fun c7 => ?_)
    · rw [if_pos c7] at h
      refine lv_aload_n S.1 S.2.1 dX1_reckon_65 rfl (lv_at hl 0 rfl) ?_
      refine gf_1_7 S hK hP hth mw_1_145 dX1_reckon_66 ?_
      refine lv_aload_n S.1 S.2.1 dX1_reckon_69 rfl (lv_at hl 1 rfl) ?_
      obtain ⟨z8, ez8, h⟩ := ob_s h
      refine pm_cVv (As := [.ref l1]) (rest := []) S hK hX hP hS (c_X0_take l ev z4 E (E_1_7 E hth) hl1 (rf ev 27 th) l1 z8 ez8) vm_X0_take mw_2_155 (rc_0 hK hP (E_1_7 E hth)) ⟨⟨rfl, rfl⟩, by decide, by decide⟩ rfl hl.1 rfl (Nat.le_of_ble_eq_true rfl) ⟨Nat.zero_le _, Nat.zero_le _⟩ dX1_reckon_70 (fun H locs hP hS => ?_)
      refine lv_aload_n S.1 S.2.1 dX1_reckon_73 rfl (lv_at hl 0 rfl) ?_
      obtain ⟨z9, ez9, h⟩ := ob_s h
      refine pm_cVv (As := []) (rest := []) S hK hX hP hS (c_X1_moveSingularPoint l ev z8 E hth th z9 ez9) vm_X1_moveSingularPoint mw_2_156 (rc_1 hK hP hth) ⟨⟨rfl, rfl⟩, by decide, by decide⟩ rfl hl.1 rfl (Nat.le_of_ble_eq_true rfl) ⟨Nat.zero_le _, Nat.zero_le _⟩ dX1_reckon_74 (fun H locs hP hS => ?_)
      refine lv_aload_n S.1 S.2.1 dX1_reckon_77 rfl (lv_at hl 0 rfl) ?_
      obtain ⟨qv11, ev11, h⟩ := ob_s h
      obtain ⟨v11, fv11, h⟩ := bd_s h
      obtain ⟨z10, fz10, h⟩ := bd_s h
      have ev11 : g_X1_tellEarlyKind ev z9 th = some (v11, z10) := by rw [fv11, fz10]; exact ev11
      refine pm_cVi (As := []) (rest := []) S hK hX hP hS (c_X1_tellEarlyKind l ev z9 E hth th v11 z10 ev11) vm_X1_tellEarlyKind mw_2_176 (rc_1 hK hP hth) ⟨⟨rfl, rfl⟩, by decide, by decide⟩ rfl hl.1 rfl (Nat.le_of_ble_eq_true rfl) ⟨Nat.zero_le _, Nat.zero_le _⟩ dX1_reckon_78 (fun H locs hP hS => ?_)
      refine lv_if_eq (tgt := 85) S.1 S.2.1 dX1_reckon_81 (by decide) (fun c12 => ?_) (fun c12 => ?_)
      · rw [if_pos c12] at h
        refine lv_aload_n S.1 S.2.1 dX1_reckon_85 rfl (lv_at hl 0 rfl) ?_
        obtain ⟨z13, ez13, h⟩ := ob_s h
        refine pm_cVv (As := []) (rest := []) S hK hX hP hS (c_X1_moveForCubic l ev z10 E hth th z13 ez13) vm_X1_moveForCubic mw_2_194 (rc_1 hK hP hth) ⟨⟨rfl, rfl⟩, by decide, by decide⟩ rfl hl.1 rfl (Nat.le_of_ble_eq_true rfl) ⟨Nat.zero_le _, Nat.zero_le _⟩ dX1_reckon_86 (fun H locs hP hS => ?_)
        refine lv_aload_n S.1 S.2.1 dX1_reckon_89 rfl (lv_at hl 0 rfl) ?_
        refine lv_aload_n S.1 S.2.1 dX1_reckon_90 rfl (lv_at hl 0 rfl) ?_
        refine gf_1_7 S hK hP hth mw_1_145 dX1_reckon_91 ?_
        refine gf_0_1 S hK hP (E_1_7 E hth) mw_1_39 dX1_reckon_94 ?_
        refine lv_iconst (v := 1) S.1 S.2.1 dX1_reckon_97 (by decide) ?_
        obtain ⟨v14, ev14, h⟩ := ob_s h
        refine pm_cVr (As := [.long (r64 z13 1 (rf ev 27 th)), .int (1 : Int32)]) (rest := []) S hK hX hP hS (c_X1_part l ev z13 E hth th (r64 z13 1 (rf ev 27 th)) (1 : Int32) v14 ev14) vm_X1_part mw_2_185 (rc_1 hK hP hth) ⟨⟨rfl, rfl⟩, by decide, by decide⟩ rfl hl.1 rfl (Nat.le_of_ble_eq_true rfl) ⟨Nat.zero_le _, Nat.zero_le _⟩ dX1_reckon_98 ?_
        refine lv_aload_n S.1 S.2.1 dX1_reckon_101 rfl (lv_at hl 0 rfl) ?_
        refine gf_1_8 S hK hP hth mw_1_146 dX1_reckon_102 ?_
        refine lv_i2l S.1 S.2.1 dX1_reckon_105 rfl ?_
        obtain ⟨v15, ev15, h⟩ := ob_s h
        refine pm_cS (As := [.long v14, .long ((r32 z13 28 th).toInt64)]) (rest := []) S (c_X4_rest l v14 ((r32 z13 28 th).toInt64) v15 ev15) sm_X4_rest mw_2_143 ⟨⟨rfl, rfl⟩, by decide, by decide⟩ rfl hl.1 rfl (Nat.le_of_ble_eq_true rfl) ⟨Nat.zero_le _, Nat.zero_le _⟩ dX1_reckon_106 ?_
        refine lv_lstore_n (lv' := [(3, .long v15), (0, .ref th), (1, .ref l1), (2, .int l2)]) S.1 S.2.1 dX1_reckon_109 rfl hl (by decide) rfl (fun ls hl => ?_)
        refine lv_aload_n S.1 S.2.1 dX1_reckon_110 rfl (lv_at hl 1 rfl) ?_
        refine lv_aload_n S.1 S.2.1 dX1_reckon_111 rfl (lv_at hl 1 rfl) ?_
        refine gf_1_7 S hK hP hth mw_1_145 dX1_reckon_112 ?_
        refine gf_0_3 S hK hP (E_1_7 E hth) mw_1_43 dX1_reckon_115 ?_
        refine lv_iconst (v := 2) S.1 S.2.1 dX1_reckon_118 (by decide) ?_
        obtain ⟨v16, ev16, h⟩ := ob_s h
        refine pm_cVr (As := [.long (r64 z13 3 (rf ev 27 th)), .int (2 : Int32)]) (rest := []) S hK hX hP hS (c_X1_part l ev z13 E hth th (r64 z13 3 (rf ev 27 th)) (2 : Int32) v16 ev16) vm_X1_part mw_2_185 (rc_1 hK hP hth) ⟨⟨rfl, rfl⟩, by decide, by decide⟩ rfl hl.1 rfl (Nat.le_of_ble_eq_true rfl) ⟨Nat.zero_le _, Nat.zero_le _⟩ dX1_reckon_119 ?_
        refine lv_aload_n S.1 S.2.1 dX1_reckon_122 rfl (lv_at hl 1 rfl) ?_
        refine gf_1_8 S hK hP hth mw_1_146 dX1_reckon_123 ?_
        refine lv_i2l S.1 S.2.1 dX1_reckon_126 rfl ?_
        obtain ⟨v17, ev17, h⟩ := ob_s h
        refine pm_cS (As := [.long v16, .long ((r32 z13 28 th).toInt64)]) (rest := []) S (c_X4_rest l v16 ((r32 z13 28 th).toInt64) v17 ev17) sm_X4_rest mw_2_143 ⟨⟨rfl, rfl⟩, by decide, by decide⟩ rfl hl.1 rfl (Nat.le_of_ble_eq_true rfl) ⟨Nat.zero_le _, Nat.zero_le _⟩ dX1_reckon_127 ?_
        refine lv_lstore (lv' := [(5, .long v17), (3, .long v15), (0, .ref th), (1, .ref l1), (2, .int l2)]) S.1 S.2.1 dX1_reckon_130 hl (by decide) rfl (fun ls hl => ?_)
        refine lv_aload_n S.1 S.2.1 dX1_reckon_132 rfl (lv_at hl 2 rfl) ?_
        refine lv_aload_n S.1 S.2.1 dX1_reckon_133 rfl (lv_at hl 2 rfl) ?_
        refine gf_1_7 S hK hP hth mw_1_145 dX1_reckon_134 ?_
        refine gf_0_4 S hK hP (E_1_7 E hth) mw_1_45 dX1_reckon_137 ?_
        refine lv_iconst (v := 3) S.1 S.2.1 dX1_reckon_140 (by decide) ?_
        obtain ⟨v18, ev18, h⟩ := ob_s h
        refine pm_cVr (As := [.long (r64 z13 4 (rf ev 27 th)), .int (3 : Int32)]) (rest := []) S hK hX hP hS (c_X1_part l ev z13 E hth th (r64 z13 4 (rf ev 27 th)) (3 : Int32) v18 ev18) vm_X1_part mw_2_185 (rc_1 hK hP hth) ⟨⟨rfl, rfl⟩, by decide, by decide⟩ rfl hl.1 rfl (Nat.le_of_ble_eq_true rfl) ⟨Nat.zero_le _, Nat.zero_le _⟩ dX1_reckon_141 ?_
        refine lv_aload_n S.1 S.2.1 dX1_reckon_144 rfl (lv_at hl 2 rfl) ?_
        refine gf_1_8 S hK hP hth mw_1_146 dX1_reckon_145 ?_
        refine lv_i2l S.1 S.2.1 dX1_reckon_148 rfl ?_
        obtain ⟨v19, ev19, h⟩ := ob_s h
        refine pm_cS (As := [.long v18, .long ((r32 z13 28 th).toInt64)]) (rest := []) S (c_X4_rest l v18 ((r32 z13 28 th).toInt64) v19 ev19) sm_X4_rest mw_2_143 ⟨⟨rfl, rfl⟩, by decide, by decide⟩ rfl hl.1 rfl (Nat.le_of_ble_eq_true rfl) ⟨Nat.zero_le _, Nat.zero_le _⟩ dX1_reckon_149 ?_
        refine lv_lstore (lv' := [(7, .long v19), (5, .long v17), (3, .long v15), (0, .ref th), (1, .ref l1), (2, .int l2)]) S.1 S.2.1 dX1_reckon_152 hl (by decide) rfl (fun ls hl => ?_)
        refine pm_ldc2 S mw_2_198 dX1_reckon_154 ?_
        refine lv_lload_n S.1 S.2.1 dX1_reckon_157 rfl (lv_at hl 2 rfl) ?_
        refine lv_lmul S.1 S.2.1 dX1_reckon_158 ?_
        refine lv_lload S.1 S.2.1 dX1_reckon_159 (lv_at hl 1 rfl) ?_
        refine lv_lmul S.1 S.2.1 dX1_reckon_161 ?_
        refine lv_lload S.1 S.2.1 dX1_reckon_162 (lv_at hl 0 rfl) ?_
        refine lv_lmul S.1 S.2.1 dX1_reckon_164 ?_
        refine lv_lload_n S.1 S.2.1 dX1_reckon_165 rfl (lv_at hl 2 rfl) ?_
        refine lv_lload_n S.1 S.2.1 dX1_reckon_166 rfl (lv_at hl 2 rfl) ?_
        refine lv_lmul S.1 S.2.1 dX1_reckon_167 ?_
        refine lv_lload S.1 S.2.1 dX1_reckon_168 (lv_at hl 1 rfl) ?_
        refine lv_lmul S.1 S.2.1 dX1_reckon_170 ?_
        refine lv_lload S.1 S.2.1 dX1_reckon_171 (lv_at hl 1 rfl) ?_
        refine lv_lmul S.1 S.2.1 dX1_reckon_173 ?_
        refine lv_ladd S.1 S.2.1 dX1_reckon_174 ?_
        refine pm_ldc2 S mw_2_199 dX1_reckon_175 ?_
        refine lv_lload_n S.1 S.2.1 dX1_reckon_178 rfl (lv_at hl 2 rfl) ?_
        refine lv_lmul S.1 S.2.1 dX1_reckon_179 ?_
        refine lv_lload_n S.1 S.2.1 dX1_reckon_180 rfl (lv_at hl 2 rfl) ?_
        refine lv_lmul S.1 S.2.1 dX1_reckon_181 ?_
        refine lv_lload_n S.1 S.2.1 dX1_reckon_182 rfl (lv_at hl 2 rfl) ?_
        refine lv_lmul S.1 S.2.1 dX1_reckon_183 ?_
        refine lv_lload S.1 S.2.1 dX1_reckon_184 (lv_at hl 0 rfl) ?_
        refine lv_lmul S.1 S.2.1 dX1_reckon_186 ?_
        refine lv_lsub S.1 S.2.1 dX1_reckon_187 ?_
        refine pm_ldc2 S mw_2_199 dX1_reckon_188 ?_
        refine lv_lload S.1 S.2.1 dX1_reckon_191 (lv_at hl 1 rfl) ?_
        refine lv_lmul S.1 S.2.1 dX1_reckon_193 ?_
        refine lv_lload S.1 S.2.1 dX1_reckon_194 (lv_at hl 1 rfl) ?_
        refine lv_lmul S.1 S.2.1 dX1_reckon_196 ?_
        refine lv_lload S.1 S.2.1 dX1_reckon_197 (lv_at hl 1 rfl) ?_
        refine lv_lmul S.1 S.2.1 dX1_reckon_199 ?_
        refine lv_lsub S.1 S.2.1 dX1_reckon_200 ?_
        refine pm_ldc2 S mw_2_200 dX1_reckon_201 ?_
        refine lv_lload S.1 S.2.1 dX1_reckon_204 (lv_at hl 0 rfl) ?_
        refine lv_lmul S.1 S.2.1 dX1_reckon_206 ?_
        refine lv_lload S.1 S.2.1 dX1_reckon_207 (lv_at hl 0 rfl) ?_
        refine lv_lmul S.1 S.2.1 dX1_reckon_209 ?_
        refine lv_lsub S.1 S.2.1 dX1_reckon_210 ?_
        refine lv_aload_n S.1 S.2.1 dX1_reckon_211 rfl (lv_at hl 3 rfl) ?_
        refine gf_1_8 S hK hP hth mw_1_146 dX1_reckon_212 ?_
        refine lv_i2l S.1 S.2.1 dX1_reckon_215 rfl ?_
        obtain ⟨v20, ev20, h⟩ := ob_s h
        refine pm_cS (As := [.long ((((((((18 : Int64) * v15) * v17) * v19) + (((v15 * v15) * v17) * v17)) - (((((4 : Int64) * v15) * v15) * v15) * v19)) - ((((4 : Int64) * v17) * v17) * v17)) - (((27 : Int64) * v19) * v19)), .long ((r32 z13 28 th).toInt64)]) (rest := []) S (c_X4_rest l ((((((((18 : Int64) * v15) * v17) * v19) + (((v15 * v15) * v17) * v17)) - (((((4 : Int64) * v15) * v15) * v15) * v19)) - ((((4 : Int64) * v17) * v17) * v17)) - (((27 : Int64) * v19) * v19)) ((r32 z13 28 th).toInt64) v20 ev20) sm_X4_rest mw_2_143 ⟨⟨rfl, rfl⟩, by decide, by decide⟩ rfl hl.1 rfl (Nat.le_of_ble_eq_true rfl) ⟨Nat.zero_le _, Nat.zero_le _⟩ dX1_reckon_216 ?_
        refine lv_lconst (v := 0) S.1 S.2.1 dX1_reckon_219 (by decide) ?_
        refine pm_leq (tgt := 248) S dX1_reckon_220 dX1_reckon_221 (by decide) (fun c21 => ?_) (fun c21 => ?_)
        · rw [if_pos c21] at h
          refine lv_aload_n S.1 S.2.1 dX1_reckon_248 rfl (lv_at hl 3 rfl) ?_
          refine gf_1_7 S hK hP hth mw_1_145 dX1_reckon_249 ?_
          refine lv_aload_n S.1 S.2.1 dX1_reckon_252 rfl (lv_at hl 3 rfl) ?_
          refine gf_1_8 S hK hP hth mw_1_146 dX1_reckon_253 ?_
          refine lv_i2l S.1 S.2.1 dX1_reckon_256 rfl ?_
          refine lv_aload_n S.1 S.2.1 dX1_reckon_257 rfl (lv_at hl 3 rfl) ?_
          refine lv_lload_n S.1 S.2.1 dX1_reckon_258 rfl (lv_at hl 2 rfl) ?_
          refine lv_lload S.1 S.2.1 dX1_reckon_259 (lv_at hl 1 rfl) ?_
          refine lv_lload S.1 S.2.1 dX1_reckon_261 (lv_at hl 0 rfl) ?_
          obtain ⟨v22, ev22, h⟩ := ob_s h
          refine pm_cVr (As := [.long v15, .long v17, .long v19]) (rest := [.long ((r32 z13 28 th).toInt64), .ref (rf ev 27 th)]) S hK hX hP hS (c_X1_multipleRoot l ev z13 E hth th v15 v17 v19 v22 ev22) vm_X1_multipleRoot mw_2_209 (rc_1 hK hP hth) ⟨⟨rfl, rfl⟩, by decide, by decide⟩ rfl hl.1 rfl (Nat.le_of_ble_eq_true rfl) ⟨Nat.zero_le _, Nat.zero_le _⟩ dX1_reckon_263 ?_
          refine lv_lmul S.1 S.2.1 dX1_reckon_266 ?_
          refine lv_lconst (v := 0) S.1 S.2.1 dX1_reckon_267 (by decide) ?_
          refine lv_lconst (v := 0) S.1 S.2.1 dX1_reckon_268 (by decide) ?_
          obtain ⟨z23, ez23, h⟩ := ob_s h
          refine pm_cVv (As := [.long (((r32 z13 28 th).toInt64) * v22), .long (0 : Int64), .long (0 : Int64)]) (rest := []) S hK hX hP hS (c_X0_shift l ev z13 E (E_1_7 E hth) (rf ev 27 th) (((r32 z13 28 th).toInt64) * v22) (0 : Int64) (0 : Int64) z23 ez23) vm_X0_shift mw_2_175 (rc_0 hK hP (E_1_7 E hth)) ⟨⟨rfl, rfl⟩, by decide, by decide⟩ rfl hl.1 rfl (Nat.le_of_ble_eq_true rfl) ⟨Nat.zero_le _, Nat.zero_le _⟩ dX1_reckon_269 (fun H locs hP hS => ?_)
          refine lv_lload_n S.1 S.2.1 dX1_reckon_272 rfl (lv_at hl 2 rfl) ?_
          refine lv_lload_n S.1 S.2.1 dX1_reckon_273 rfl (lv_at hl 2 rfl) ?_
          refine lv_lmul S.1 S.2.1 dX1_reckon_274 ?_
          refine pm_ldc2 S mw_2_164 dX1_reckon_275 ?_
          refine lv_lload S.1 S.2.1 dX1_reckon_278 (lv_at hl 1 rfl) ?_
          refine lv_lmul S.1 S.2.1 dX1_reckon_280 ?_
          refine lv_lsub S.1 S.2.1 dX1_reckon_281 ?_
          refine lv_aload_n S.1 S.2.1 dX1_reckon_282 rfl (lv_at hl 3 rfl) ?_
          refine gf_1_8 S hK hP hth mw_1_146 dX1_reckon_283 ?_
          refine lv_i2l S.1 S.2.1 dX1_reckon_286 rfl ?_
          obtain ⟨v24, ev24, h⟩ := ob_s h
          refine pm_cS (As := [.long ((v15 * v15) - ((3 : Int64) * v17)), .long ((r32 z23 28 th).toInt64)]) (rest := []) S (c_X4_rest l ((v15 * v15) - ((3 : Int64) * v17)) ((r32 z23 28 th).toInt64) v24 ev24) sm_X4_rest mw_2_143 ⟨⟨rfl, rfl⟩, by decide, by decide⟩ rfl hl.1 rfl (Nat.le_of_ble_eq_true rfl) ⟨Nat.zero_le _, Nat.zero_le _⟩ dX1_reckon_287 ?_
          refine lv_lconst (v := 0) S.1 S.2.1 dX1_reckon_290 (by decide) ?_
          refine pm_leq (tgt := 302) S dX1_reckon_291 dX1_reckon_292 (by decide) (fun c25 => ?_) (fun c25 => ?_)
          · rw [if_pos c25] at h
            refine lv_aload_n S.1 S.2.1 dX1_reckon_302 rfl (lv_at hl 3 rfl) ?_
            obtain ⟨z26, ez26, h⟩ := ob_s h
            refine pm_cVv (As := []) (rest := []) S hK hX hP hS (c_X1_tellLateKind l ev z23 E hth th z26 ez26) vm_X1_tellLateKind mw_2_221 (rc_1 hK hP hth) ⟨⟨rfl, rfl⟩, by decide, by decide⟩ rfl hl.1 rfl (Nat.le_of_ble_eq_true rfl) ⟨Nat.zero_le _, Nat.zero_le _⟩ dX1_reckon_303 (fun H locs hP hS => ?_)
            exact pm_vretW S hr hlk hP hS (Option.some.inj h) dX1_reckon_306
          · rw [if_neg c25] at h
            refine lv_aload_n S.1 S.2.1 dX1_reckon_295 rfl (lv_at hl 3 rfl) ?_
            obtain ⟨z27, ez27, h⟩ := ob_s h
            refine pm_cVv (As := []) (rest := []) S hK hX hP hS (c_X1_tellByTurns l ev z23 E hth th z27 ez27) vm_X1_tellByTurns mw_2_213 (rc_1 hK hP hth) ⟨⟨rfl, rfl⟩, by decide, by decide⟩ rfl hl.1 rfl (Nat.le_of_ble_eq_true rfl) ⟨Nat.zero_le _, Nat.zero_le _⟩ dX1_reckon_296 (fun H locs hP hS => ?_)
            refine lv_goto (tgt := 306) S.1 S.2.1 dX1_reckon_299 (by decide) ?_
            exact pm_vretW S hr hlk hP hS (Option.some.inj h) dX1_reckon_306
        · rw [if_neg c21] at h
          refine lv_aload_n S.1 S.2.1 dX1_reckon_224 rfl (lv_at hl 3 rfl) ?_
          refine lv_iconst (v := 5) S.1 S.2.1 dX1_reckon_225 (by decide) ?_
          refine lv_aload_n S.1 S.2.1 dX1_reckon_226 rfl (lv_at hl 3 rfl) ?_
          refine gf_1_5 S hK hP hth mw_1_142 dX1_reckon_227 ?_
          refine lv_iconst (v := 4) S.1 S.2.1 dX1_reckon_230 (by decide) ?_
          refine lv_isub S.1 S.2.1 dX1_reckon_231 ?_
          refine lv_iconst (v := 5) S.1 S.2.1 dX1_reckon_232 (by decide) ?_
          refine lv_iconst (v := 1) S.1 S.2.1 dX1_reckon_233 (by decide) ?_
          refine lv_aload_n S.1 S.2.1 dX1_reckon_234 rfl (lv_at hl 3 rfl) ?_
          refine lv_lload_n S.1 S.2.1 dX1_reckon_235 rfl (lv_at hl 2 rfl) ?_
          refine lv_lload S.1 S.2.1 dX1_reckon_236 (lv_at hl 1 rfl) ?_
          refine lv_lload S.1 S.2.1 dX1_reckon_238 (lv_at hl 0 rfl) ?_
          obtain ⟨v28, ev28, h⟩ := ob_s h
          refine pm_cVr (As := [.long v15, .long v17, .long v19]) (rest := [.int (1 : Int32), .int (5 : Int32), .int ((r32 z13 25 th) - (4 : Int32)), .int (5 : Int32), .ref th]) S hK hX hP hS (c_X1_cubicRoots l ev z13 E hth th v15 v17 v19 v28 ev28) vm_X1_cubicRoots mw_2_201 (rc_1 hK hP hth) ⟨⟨rfl, rfl⟩, by decide, by decide⟩ rfl hl.1 rfl (Nat.le_of_ble_eq_true rfl) ⟨Nat.zero_le _, Nat.zero_le _⟩ dX1_reckon_240 ?_
          refine lv_iadd S.1 S.2.1 dX1_reckon_243 ?_
          obtain ⟨z29, ez29, h⟩ := ob_s h
          refine pm_cVv (As := [.int (5 : Int32), .int ((r32 z13 25 th) - (4 : Int32)), .int (5 : Int32), .int ((1 : Int32) + v28)]) (rest := []) S hK hX hP hS (c_X1_tell l ev z13 E hth th (5 : Int32) ((r32 z13 25 th) - (4 : Int32)) (5 : Int32) ((1 : Int32) + v28) z29 ez29) vm_X1_tell mw_2_139 (rc_1 hK hP hth) ⟨⟨rfl, rfl⟩, by decide, by decide⟩ rfl hl.1 rfl (Nat.le_of_ble_eq_true rfl) ⟨Nat.zero_le _, Nat.zero_le _⟩ dX1_reckon_244 (fun H locs hP hS => ?_)
          exact pm_vretW S hr hlk hP hS (Option.some.inj h) dX1_reckon_247
      · rw [if_neg c12] at h
        exact pm_vretW S hr hlk hP hS (Option.some.inj h) dX1_reckon_84
    · rw [if_neg c7] at h
      refine lv_aload_n S.1 S.2.1 dX1_reckon_59 rfl (lv_at hl 0 rfl) ?_
      refine lv_aload_n S.1 S.2.1 dX1_reckon_60 rfl (lv_at hl 1 rfl) ?_
      obtain ⟨z30, ez30, h⟩ := ob_s h
      refine pm_cVv (As := [.ref l1]) (rest := []) S hK hX hP hS (c_X1_tellNode l ev z4 E hth hl1 th l1 z30 ez30) vm_X1_tellNode mw_2_144 (rc_1 hK hP hth) ⟨⟨rfl, rfl⟩, by decide, by decide⟩ rfl hl.1 rfl (Nat.le_of_ble_eq_true rfl) ⟨Nat.zero_le _, Nat.zero_le _⟩ dX1_reckon_61 (fun H locs hP hS => ?_)
      exact pm_vretW S hr hlk hP hS (Option.some.inj h) dX1_reckon_64
  · rw [if_pos c5] at h
    refine lv_aload_n S.1 S.2.1 dX1_reckon_33 rfl (lv_at hl 0 rfl) ?_
    refine lv_iconst (v := 0) S.1 S.2.1 dX1_reckon_34 (by decide) ?_
    refine lv_iconst (v := 0) S.1 S.2.1 dX1_reckon_35 (by decide) ?_
    refine lv_iconst (v := 1) S.1 S.2.1 dX1_reckon_36 (by decide) ?_
    refine lv_iconst (v := 1) S.1 S.2.1 dX1_reckon_37 (by decide) ?_
    obtain ⟨z31, ez31, h⟩ := ob_s h
    refine pm_cVv (As := [.int (0 : Int32), .int (0 : Int32), .int (1 : Int32), .int (1 : Int32)]) (rest := []) S hK hX hP hS (c_X1_tell l ev z4 E hth th (0 : Int32) (0 : Int32) (1 : Int32) (1 : Int32) z31 ez31) vm_X1_tell mw_2_139 (rc_1 hK hP hth) ⟨⟨rfl, rfl⟩, by decide, by decide⟩ rfl hl.1 rfl (Nat.le_of_ble_eq_true rfl) ⟨Nat.zero_le _, Nat.zero_le _⟩ dX1_reckon_38 (fun H locs hP hS => ?_)
    exact pm_vretW S hr hlk hP hS (Option.some.inj h) dX1_reckon_41
theorem vm_X1_reckon : pm_Vm yX1_reckon cX1_reckon 9 none 2 := ⟨mw_2_137, mw_2_135, mw_2_136, mw_1_5, by decide, by decide⟩
def g_X1_value (ev : EV) (z : PS) (th : Nat) (l1 : Int32) : Option Int32 := if l1 = 0 then (some (r32 z 20 th)) else (if l1 = 1 then (some (r32 z 21 th)) else (if l1 = 2 then (some (r32 z 22 th)) else (if l1 = 3 then (some (r32 z 23 th)) else (if l1 = 4 then (some (r32 z 24 th)) else (if l1 = 5 then (some (r32 z 25 th)) else (if (r32 z 26 th) = 0 then (some (0 : Int32)) else (some (1 : Int32))))))))
set_option maxRecDepth 20000 in
set_option maxHeartbeats 4000000 in
theorem c_X1_value (l : Launch) (ev : EV) (z : PS) (E : EWF ev) {th : Nat} (hth : isK ev 1 th) (th_ : Nat) (l1 : Int32) (r : Int32) (h : g_X1_value ev z th l1 = some r) : Met l yX1_value (pWs yX1_value cX1_value 2 (some .int)) (pR 0 0) (va_Pc [.ref th, .int l1] (pPe ev z)) (k2_QcV (.int r)) 0 0 (fun _ => False) := by
  refine pm_of (by decide) (Nat.le_of_ble_eq_true rfl) ?_
  intro p e s m below meth c S hr hlk hv ls hl
  obtain ⟨hP, hK, hX⟩ := hv
  have hl : lv_has ls 2 [(0, .ref th), (1, .int l1)] := hl
  unfold g_X1_value at h
  refine lv_iload_n S.1 S.2.1 dX1_value_0 rfl (lv_at hl 1 rfl) ?_
  by_cases c1 : l1 = 0
  · rw [if_pos c1] at h
    refine lv_tableIn (off := 39) (tgt := 40) S.1 S.2.1 dX1_value_1 (by rw [c1]; decide) (by rw [c1]; decide) (by rw [c1]; rfl) (by decide) ?_
    refine lv_aload_n S.1 S.2.1 dX1_value_40 rfl (lv_at hl 0 rfl) ?_
    refine gf_1_0 S hK hP hth mw_1_134 dX1_value_41 ?_
    exact pm_iretR S hr hlk (Option.some.inj h) dX1_value_44
  · rw [if_neg c1] at h
    by_cases c2 : l1 = 1
    · rw [if_pos c2] at h
      refine lv_tableIn (off := 44) (tgt := 45) S.1 S.2.1 dX1_value_1 (by rw [c2]; decide) (by rw [c2]; decide) (by rw [c2]; rfl) (by decide) ?_
      refine lv_aload_n S.1 S.2.1 dX1_value_45 rfl (lv_at hl 0 rfl) ?_
      refine gf_1_1 S hK hP hth mw_1_136 dX1_value_46 ?_
      exact pm_iretR S hr hlk (Option.some.inj h) dX1_value_49
    · rw [if_neg c2] at h
      by_cases c3 : l1 = 2
      · rw [if_pos c3] at h
        refine lv_tableIn (off := 49) (tgt := 50) S.1 S.2.1 dX1_value_1 (by rw [c3]; decide) (by rw [c3]; decide) (by rw [c3]; rfl) (by decide) ?_
        refine lv_aload_n S.1 S.2.1 dX1_value_50 rfl (lv_at hl 0 rfl) ?_
        refine gf_1_2 S hK hP hth mw_1_137 dX1_value_51 ?_
        exact pm_iretR S hr hlk (Option.some.inj h) dX1_value_54
      · rw [if_neg c3] at h
        by_cases c4 : l1 = 3
        · rw [if_pos c4] at h
          refine lv_tableIn (off := 54) (tgt := 55) S.1 S.2.1 dX1_value_1 (by rw [c4]; decide) (by rw [c4]; decide) (by rw [c4]; rfl) (by decide) ?_
          refine lv_aload_n S.1 S.2.1 dX1_value_55 rfl (lv_at hl 0 rfl) ?_
          refine gf_1_3 S hK hP hth mw_1_139 dX1_value_56 ?_
          exact pm_iretR S hr hlk (Option.some.inj h) dX1_value_59
        · rw [if_neg c4] at h
          by_cases c5 : l1 = 4
          · rw [if_pos c5] at h
            refine lv_tableIn (off := 59) (tgt := 60) S.1 S.2.1 dX1_value_1 (by rw [c5]; decide) (by rw [c5]; decide) (by rw [c5]; rfl) (by decide) ?_
            refine lv_aload_n S.1 S.2.1 dX1_value_60 rfl (lv_at hl 0 rfl) ?_
            refine gf_1_4 S hK hP hth mw_1_140 dX1_value_61 ?_
            exact pm_iretR S hr hlk (Option.some.inj h) dX1_value_64
          · rw [if_neg c5] at h
            by_cases c6 : l1 = 5
            · rw [if_pos c6] at h
              refine lv_tableIn (off := 64) (tgt := 65) S.1 S.2.1 dX1_value_1 (by rw [c6]; decide) (by rw [c6]; decide) (by rw [c6]; rfl) (by decide) ?_
              refine lv_aload_n S.1 S.2.1 dX1_value_65 rfl (lv_at hl 0 rfl) ?_
              refine gf_1_5 S hK hP hth mw_1_142 dX1_value_66 ?_
              exact pm_iretR S hr hlk (Option.some.inj h) dX1_value_69
            · rw [if_neg c6] at h
              refine lv_tableOut (tgt := 70) S.1 S.2.1 dX1_value_1 (by have nc1 := lv_neT c1 (show (0 : Int32).toInt = 0 by decide); have nc2 := lv_neT c2 (show (1 : Int32).toInt = 1 by decide); have nc3 := lv_neT c3 (show (2 : Int32).toInt = 2 by decide); have nc4 := lv_neT c4 (show (3 : Int32).toInt = 3 by decide); have nc5 := lv_neT c5 (show (4 : Int32).toInt = 4 by decide); have nc6 := lv_neT c6 (show (5 : Int32).toInt = 5 by decide); omega) (by decide) ?_
              refine lv_aload_n S.1 S.2.1 dX1_value_70 rfl (lv_at hl 0 rfl) ?_
              refine gf_1_6 S hK hP hth mw_1_143 dX1_value_71 ?_
              refine lv_if_eq (tgt := 81) S.1 S.2.1 dX1_value_74 (by decide) (fun c7 => ?_) (fun c7 => ?_)
              · rw [if_pos c7] at h
                refine lv_iconst (v := 0) S.1 S.2.1 dX1_value_81 (by decide) ?_
                exact pm_iretR S hr hlk (Option.some.inj h) dX1_value_82
              · rw [if_neg c7] at h
                refine lv_iconst (v := 1) S.1 S.2.1 dX1_value_77 (by decide) ?_
                refine lv_goto (tgt := 82) S.1 S.2.1 dX1_value_78 (by decide) ?_
                exact pm_iretR S hr hlk (Option.some.inj h) dX1_value_82
theorem vm_X1_value : pm_Vm yX1_value cX1_value 2 (some .int) 1 := ⟨mw_2_228, mw_2_226, mw_2_227, mw_1_5, by decide, by decide⟩
def g_X7_at (ev : EV) (z : PS) (th : Nat) (l1 : Int32) (l2 : Int32) (l3 : Int32) : Option (Int32 × PS) := ob (g_X7_there ev z th l1) (fun v1 => if v1 = 0 then (some ((-1 : Int32), z)) else (if l3 < 0 then (some ((-1 : Int32), z)) else (if (7 : Int32) < l3 then (some ((-1 : Int32), z)) else (if (999983 : Int32) < l2 then (some ((-1 : Int32), z)) else (ob (g_X4_isPrime l2) (fun v6 => if v6 = 0 then (some ((-1 : Int32), z)) else (if l3 = (7 : Int32) then (ck (inB l1 16) (ob (g_X4_times (r64 z 42 (rh ev (rf ev 100 th) l1.toNatClampNeg)) (l2.toInt64)) (fun v13 => some (v13, z)))) else (ck (inB l1 16) (ob (g_X1_reckon ev z (rf ev 103 th) (rf ev 41 (rh ev (rf ev 100 th) l1.toNatClampNeg)) l2) (fun z10 => ob (g_X1_value ev z10 (rf ev 103 th) l3) (fun v11 => some (v11, z10))))))))))))
set_option maxRecDepth 20000 in
set_option maxHeartbeats 4000000 in
theorem c_X7_at (l : Launch) (ev : EV) (z : PS) (E : EWF ev) {th : Nat} (hth : isK ev 5 th) (th_ : Nat) (l1 : Int32) (l2 : Int32) (l3 : Int32) (r : Int32) (z9 : PS) (h : g_X7_at ev z th l1 l2 l3 = some (r, z9)) : Met l yX7_at (pWs yX7_at cX7_at 4 (some .int)) (pR 4 162) (va_Pc [.ref th, .int l1, .int l2, .int l3] (pPe ev z)) (pQi ev r z9) 0 0 (eA ev) := by
  refine pm_of (by decide) (Nat.le_of_ble_eq_true rfl) ?_
  intro p e s m below meth c S hr hlk hv ls hl
  obtain ⟨hP, hK, hX⟩ := hv
  have hS : SS ev s s.heap [] := va_S.rf
  have hl : lv_has ls 4 [(0, .ref th), (1, .int l1), (2, .int l2), (3, .int l3)] := hl
  unfold g_X7_at at h
  refine lv_aload_n S.1 S.2.1 dX7_at_0 rfl (lv_at hl 0 rfl) ?_
  refine lv_iload_n S.1 S.2.1 dX7_at_1 rfl (lv_at hl 1 rfl) ?_
  obtain ⟨v1, ev1, h⟩ := ob_s h
  refine pm_cVr (As := [.int l1]) (rest := []) S hK hX hP hS (c_X7_there l ev z E hth th l1 v1 ev1) vm_X7_there mw_2_59 (rc_5 hK hP hth) ⟨⟨rfl, rfl⟩, by decide, by decide⟩ rfl hl.1 rfl (Nat.le_of_ble_eq_true rfl) ⟨Nat.zero_le _, Nat.zero_le _⟩ dX7_at_2 ?_
  refine lv_if_eq (tgt := 31) S.1 S.2.1 dX7_at_5 (by decide) (fun c2 => ?_) (fun c2 => ?_)
  · rw [if_pos c2] at h
    refine lv_iconst (v := -1) S.1 S.2.1 dX7_at_31 (by decide) ?_
    have h9 := Option.some.inj h
    exact pm_iretW S hr hlk hP hS (congrArg Prod.fst h9) (congrArg Prod.snd h9) dX7_at_32
  · rw [if_neg c2] at h
    refine lv_iload_n S.1 S.2.1 dX7_at_8 rfl (lv_at hl 3 rfl) ?_
    refine lv_if_lt (tgt := 31) S.1 S.2.1 dX7_at_9 (by decide) (fun c3 => ?_) (fun c3 => ?_)
    · rw [if_pos c3] at h
      refine lv_iconst (v := -1) S.1 S.2.1 dX7_at_31 (by decide) ?_
      have h9 := Option.some.inj h
      exact pm_iretW S hr hlk hP hS (congrArg Prod.fst h9) (congrArg Prod.snd h9) dX7_at_32
    · rw [if_neg c3] at h
      refine lv_iload_n S.1 S.2.1 dX7_at_12 rfl (lv_at hl 3 rfl) ?_
      refine lv_bipush (v := 7) S.1 S.2.1 dX7_at_13 (by decide) ?_
      refine lv_icmp_gt (tgt := 31) S.1 S.2.1 dX7_at_15 (by decide) (fun c4 => ?_) (fun c4 => ?_)
      · rw [if_pos c4] at h
        refine lv_iconst (v := -1) S.1 S.2.1 dX7_at_31 (by decide) ?_
        have h9 := Option.some.inj h
        exact pm_iretW S hr hlk hP hS (congrArg Prod.fst h9) (congrArg Prod.snd h9) dX7_at_32
      · rw [if_neg c4] at h
        refine lv_iload_n S.1 S.2.1 dX7_at_18 rfl (lv_at hl 2 rfl) ?_
        refine pm_ldc S mw_2_128 dX7_at_19 ?_
        refine lv_icmp_gt (tgt := 31) S.1 S.2.1 dX7_at_21 (by decide) (fun c5 => ?_) (fun c5 => ?_)
        · rw [if_pos c5] at h
          refine lv_iconst (v := -1) S.1 S.2.1 dX7_at_31 (by decide) ?_
          have h9 := Option.some.inj h
          exact pm_iretW S hr hlk hP hS (congrArg Prod.fst h9) (congrArg Prod.snd h9) dX7_at_32
        · rw [if_neg c5] at h
          refine lv_iload_n S.1 S.2.1 dX7_at_24 rfl (lv_at hl 2 rfl) ?_
          obtain ⟨v6, ev6, h⟩ := ob_s h
          refine pm_cS (As := [.int l2]) (rest := []) S (c_X4_isPrime l l2 v6 ev6) sm_X4_isPrime mw_2_129 ⟨⟨rfl, rfl⟩, by decide, by decide⟩ rfl hl.1 rfl (Nat.le_of_ble_eq_true rfl) ⟨Nat.zero_le _, Nat.zero_le _⟩ dX7_at_25 ?_
          refine lv_if_ne (tgt := 33) S.1 S.2.1 dX7_at_28 (by decide) (fun c7 => ?_) (fun c7 => ?_)
          · rw [if_neg c7] at h
            refine lv_iload_n S.1 S.2.1 dX7_at_33 rfl (lv_at hl 3 rfl) ?_
            refine lv_bipush (v := 7) S.1 S.2.1 dX7_at_34 (by decide) ?_
            refine lv_icmp_ne (tgt := 54) S.1 S.2.1 dX7_at_36 (by decide) (fun c8 => ?_) (fun c8 => ?_)
            · rw [if_neg c8] at h
              refine lv_aload_n S.1 S.2.1 dX7_at_54 rfl (lv_at hl 0 rfl) ?_
              refine gf_5_3 S hK hP hth mw_1_188 dX7_at_55 ?_
              refine lv_aload_n S.1 S.2.1 dX7_at_58 rfl (lv_at hl 0 rfl) ?_
              refine gf_5_0 S hK hP hth mw_1_185 dX7_at_59 ?_
              refine lv_iload_n S.1 S.2.1 dX7_at_62 rfl (lv_at hl 1 rfl) ?_
              obtain ⟨hc9, h⟩ := ck_s h
              refine al_H S hK hP (E_5_0 E hth) (by rw [N_5_0 E hth]; exact hc9) dX7_at_63 ?_
              refine gf_2_1 S hK hP (E_h E (E_5_0 E hth) (inB_lt hc9)) mw_1_108 dX7_at_64 ?_
              refine lv_iload_n S.1 S.2.1 dX7_at_67 rfl (lv_at hl 2 rfl) ?_
              obtain ⟨z10, ez10, h⟩ := ob_s h
              refine pm_cVv (As := [.ref (rf ev 41 (rh ev (rf ev 100 th) l1.toNatClampNeg)), .int l2]) (rest := []) S hK hX hP hS (c_X1_reckon l ev z E (E_5_3 E hth) (E_2_1 E (E_h E (E_5_0 E hth) (inB_lt hc9))) (rf ev 103 th) (rf ev 41 (rh ev (rf ev 100 th) l1.toNatClampNeg)) l2 z10 ez10) vm_X1_reckon mw_2_134 (rc_1 hK hP (E_5_3 E hth)) ⟨⟨rfl, rfl⟩, by decide, by decide⟩ rfl hl.1 rfl (Nat.le_of_ble_eq_true rfl) ⟨Nat.zero_le _, Nat.zero_le _⟩ dX7_at_68 (fun H locs hP hS => ?_)
              refine lv_aload_n S.1 S.2.1 dX7_at_71 rfl (lv_at hl 0 rfl) ?_
              refine gf_5_3 S hK hP hth mw_1_188 dX7_at_72 ?_
              refine lv_iload_n S.1 S.2.1 dX7_at_75 rfl (lv_at hl 3 rfl) ?_
              obtain ⟨v11, ev11, h⟩ := ob_s h
              refine pm_cVr (As := [.int l3]) (rest := []) S hK hX hP hS (c_X1_value l ev z10 E (E_5_3 E hth) (rf ev 103 th) l3 v11 ev11) vm_X1_value mw_2_225 (rc_1 hK hP (E_5_3 E hth)) ⟨⟨rfl, rfl⟩, by decide, by decide⟩ rfl hl.1 rfl (Nat.le_of_ble_eq_true rfl) ⟨Nat.zero_le _, Nat.zero_le _⟩ dX7_at_76 ?_
              have h9 := Option.some.inj h
              exact pm_iretW S hr hlk hP hS (congrArg Prod.fst h9) (congrArg Prod.snd h9) dX7_at_79
            · rw [if_pos c8] at h
              refine lv_aload_n S.1 S.2.1 dX7_at_39 rfl (lv_at hl 0 rfl) ?_
              refine gf_5_0 S hK hP hth mw_1_185 dX7_at_40 ?_
              refine lv_iload_n S.1 S.2.1 dX7_at_43 rfl (lv_at hl 1 rfl) ?_
              obtain ⟨hc12, h⟩ := ck_s h
              refine al_H S hK hP (E_5_0 E hth) (by rw [N_5_0 E hth]; exact hc12) dX7_at_44 ?_
              refine gf_2_2 S hK hP (E_h E (E_5_0 E hth) (inB_lt hc12)) mw_1_110 dX7_at_45 ?_
              refine lv_iload_n S.1 S.2.1 dX7_at_48 rfl (lv_at hl 2 rfl) ?_
              refine lv_i2l S.1 S.2.1 dX7_at_49 rfl ?_
              obtain ⟨v13, ev13, h⟩ := ob_s h
              refine pm_cS (As := [.long (r64 z 42 (rh ev (rf ev 100 th) l1.toNatClampNeg)), .long (l2.toInt64)]) (rest := []) S (c_X4_times l (r64 z 42 (rh ev (rf ev 100 th) l1.toNatClampNeg)) (l2.toInt64) v13 ev13) sm_X4_times mw_2_133 ⟨⟨rfl, rfl⟩, by decide, by decide⟩ rfl hl.1 rfl (Nat.le_of_ble_eq_true rfl) ⟨Nat.zero_le _, Nat.zero_le _⟩ dX7_at_50 ?_
              have h9 := Option.some.inj h
              exact pm_iretW S hr hlk hP hS (congrArg Prod.fst h9) (congrArg Prod.snd h9) dX7_at_53
          · rw [if_pos c7] at h
            refine lv_iconst (v := -1) S.1 S.2.1 dX7_at_31 (by decide) ?_
            have h9 := Option.some.inj h
            exact pm_iretW S hr hlk hP hS (congrArg Prod.fst h9) (congrArg Prod.snd h9) dX7_at_32
theorem vm_X7_at : pm_Vm yX7_at cX7_at 4 (some .int) 3 := ⟨mw_2_127, mw_2_125, mw_2_126, mw_1_1, by decide, by decide⟩
def g_X5_add (ev : EV) (z : PS) (th : Nat) (l1 : Int64) : Option PS := if (16 : Int32) ≤ (r32 z 61 th) then (some z) else (bd ((l1.toInt32)) (fun v2 => ck (inB (r32 z 61 th) 16) (bd (wI z (rf ev 60 th) (r32 z 61 th).toNatClampNeg v2) (fun z4 => bd (((r32 z4 61 th) + (1 : Int32))) (fun v5 => bd (w32 z4 61 th v5) (fun z6 => some z6))))))
set_option maxRecDepth 20000 in
set_option maxHeartbeats 4000000 in
theorem c_X5_add (l : Launch) (ev : EV) (z : PS) (E : EWF ev) {th : Nat} (hth : isK ev 3 th) (th_ : Nat) (l1 : Int64) (z9 : PS) (h : g_X5_add ev z th l1 = some z9) : Met l yX5_add (pWs yX5_add cX5_add 3 none) (pR 0 0) (va_Pc [.ref th, .long l1] (pPe ev z)) (pQv ev z9) 0 0 (eA ev) := by
  refine pm_of (by decide) (Nat.le_of_ble_eq_true rfl) ?_
  intro p e s m below meth c S hr hlk hv ls hl
  obtain ⟨hP, hK, hX⟩ := hv
  have hS : SS ev s s.heap [] := va_S.rf
  have hl : lv_has ls 3 [(0, .ref th), (1, .long l1)] := hl
  unfold g_X5_add at h
  refine lv_aload_n S.1 S.2.1 dX5_add_0 rfl (lv_at hl 0 rfl) ?_
  refine gf_3_1 S hK hP hth mw_1_97 dX5_add_1 ?_
  refine lv_aload_n S.1 S.2.1 dX5_add_4 rfl (lv_at hl 0 rfl) ?_
  refine gf_3_0 S hK hP hth mw_1_96 dX5_add_5 ?_
  refine al_n7 S hK hP (E_3_0 E hth) (N_3_0 E hth) dX5_add_8 ?_
  refine pm_nmI (v := 16) (by decide) ?_
  refine lv_icmp_ge (tgt := 33) S.1 S.2.1 dX5_add_9 (by decide) (fun c1 => ?_) (fun c1 => ?_)
  · rw [if_pos c1] at h
    exact pm_vretW S hr hlk hP hS (Option.some.inj h) dX5_add_33
  · rw [if_neg c1] at h
    refine lv_aload_n S.1 S.2.1 dX5_add_12 rfl (lv_at hl 0 rfl) ?_
    refine gf_3_0 S hK hP hth mw_1_96 dX5_add_13 ?_
    refine lv_aload_n S.1 S.2.1 dX5_add_16 rfl (lv_at hl 0 rfl) ?_
    refine gf_3_1 S hK hP hth mw_1_97 dX5_add_17 ?_
    refine lv_lload_n S.1 S.2.1 dX5_add_20 rfl (lv_at hl 1 rfl) ?_
    refine lv_l2i S.1 S.2.1 dX5_add_21 rfl ?_
    obtain ⟨v2, ev2, h⟩ := bd_s h
    refine pm_nmI ev2 ?_
    obtain ⟨hc3, h⟩ := ck_s h
    obtain ⟨z4, ez4, h⟩ := bd_s h
    refine as_I S E hK hP hS (E_3_0 E hth) (by rw [N_3_0 E hth]; exact hc3) dX5_add_22 (fun H locs hP hS => ?_)
    rw [← ez4] at hP
    refine lv_aload_n S.1 S.2.1 dX5_add_23 rfl (lv_at hl 0 rfl) ?_
    refine lv_dup S.1 S.2.1 dX5_add_24 rfl ?_
    refine gf_3_1 S hK hP hth mw_1_97 dX5_add_25 ?_
    refine lv_iconst (v := 1) S.1 S.2.1 dX5_add_28 (by decide) ?_
    refine lv_iadd S.1 S.2.1 dX5_add_29 ?_
    obtain ⟨v5, ev5, h⟩ := bd_s h
    refine pm_nmI ev5 ?_
    obtain ⟨z6, ez6, h⟩ := bd_s h
    refine pf_3_1 S E hK hP hS hth mw_1_97 dX5_add_30 (fun H locs hP hS => ?_)
    rw [← ez6] at hP
    exact pm_vretW S hr hlk hP hS (Option.some.inj h) dX5_add_33
theorem vm_X5_add : pm_Vm yX5_add cX5_add 3 none 1 := ⟨mw_3_10, mw_3_9, ms_315, mw_1_4, by decide, by decide⟩
def g_X5_without (ev : EV) (z : PS) (th : Nat) (l1 : Int64) (l3 : Int32) : Option (Int64 × PS) := ob (g_X4_rest l1 (l3.toInt64)) (fun v1 => if v1 = (0 : Int64) then (ob (g_X5_add ev z th (l3.toInt64)) (fun z3 => ob (g_X4_times l1 (l3.toInt64)) (fun v4 => ob (g_X4_power (l3.toInt64) v4) (fun v5 => ob (g_X4_quotient l1 v5) (fun v6 => some (v6, z3)))))) else (some (l1, z)))
set_option maxRecDepth 20000 in
set_option maxHeartbeats 4000000 in
theorem c_X5_without (l : Launch) (ev : EV) (z : PS) (E : EWF ev) {th : Nat} (hth : isK ev 3 th) (th_ : Nat) (l1 : Int64) (l3 : Int32) (r : Int64) (z9 : PS) (h : g_X5_without ev z th l1 l3 = some (r, z9)) : Met l yX5_without (pWs yX5_without cX5_without 4 (some .long)) (pR 1 38) (va_Pc [.ref th, .long l1, .int l3] (pPe ev z)) (pQl ev r z9) 0 0 (eA ev) := by
  refine pm_of (by decide) (Nat.le_of_ble_eq_true rfl) ?_
  intro p e s m below meth c S hr hlk hv ls hl
  obtain ⟨hP, hK, hX⟩ := hv
  have hS : SS ev s s.heap [] := va_S.rf
  have hl : lv_has ls 4 [(0, .ref th), (1, .long l1), (3, .int l3)] := hl
  unfold g_X5_without at h
  refine lv_lload_n S.1 S.2.1 dX5_without_0 rfl (lv_at hl 1 rfl) ?_
  refine lv_iload_n S.1 S.2.1 dX5_without_1 rfl (lv_at hl 2 rfl) ?_
  refine lv_i2l S.1 S.2.1 dX5_without_2 rfl ?_
  obtain ⟨v1, ev1, h⟩ := ob_s h
  refine pm_cS (As := [.long l1, .long (l3.toInt64)]) (rest := []) S (c_X4_rest l l1 (l3.toInt64) v1 ev1) sm_X4_rest mw_3_6 ⟨⟨rfl, rfl⟩, by decide, by decide⟩ rfl hl.1 rfl (Nat.le_of_ble_eq_true rfl) ⟨Nat.zero_le _, Nat.zero_le _⟩ dX5_without_3 ?_
  refine lv_lconst (v := 0) S.1 S.2.1 dX5_without_6 (by decide) ?_
  refine pm_leq (tgt := 13) S dX5_without_7 dX5_without_8 (by decide) (fun c2 => ?_) (fun c2 => ?_)
  · rw [if_pos c2] at h
    refine lv_aload_n S.1 S.2.1 dX5_without_13 rfl (lv_at hl 0 rfl) ?_
    refine lv_iload_n S.1 S.2.1 dX5_without_14 rfl (lv_at hl 2 rfl) ?_
    refine lv_i2l S.1 S.2.1 dX5_without_15 rfl ?_
    obtain ⟨z3, ez3, h⟩ := ob_s h
    refine pm_cVv (As := [.long (l3.toInt64)]) (rest := []) S hK hX hP hS (c_X5_add l ev z E hth th (l3.toInt64) z3 ez3) vm_X5_add mw_3_7 (rc_3 hK hP hth) ⟨⟨rfl, rfl⟩, by decide, by decide⟩ rfl hl.1 rfl (Nat.le_of_ble_eq_true rfl) ⟨Nat.zero_le _, Nat.zero_le _⟩ dX5_without_16 (fun H locs hP hS => ?_)
    refine lv_lload_n S.1 S.2.1 dX5_without_19 rfl (lv_at hl 1 rfl) ?_
    refine lv_iload_n S.1 S.2.1 dX5_without_20 rfl (lv_at hl 2 rfl) ?_
    refine lv_i2l S.1 S.2.1 dX5_without_21 rfl ?_
    refine lv_lload_n S.1 S.2.1 dX5_without_22 rfl (lv_at hl 1 rfl) ?_
    refine lv_iload_n S.1 S.2.1 dX5_without_23 rfl (lv_at hl 2 rfl) ?_
    refine lv_i2l S.1 S.2.1 dX5_without_24 rfl ?_
    obtain ⟨v4, ev4, h⟩ := ob_s h
    refine pm_cS (As := [.long l1, .long (l3.toInt64)]) (rest := [.long (l3.toInt64), .long l1]) S (c_X4_times l l1 (l3.toInt64) v4 ev4) sm_X4_times mw_3_11 ⟨⟨rfl, rfl⟩, by decide, by decide⟩ rfl hl.1 rfl (Nat.le_of_ble_eq_true rfl) ⟨Nat.zero_le _, Nat.zero_le _⟩ dX5_without_25 ?_
    obtain ⟨v5, ev5, h⟩ := ob_s h
    refine pm_cS (As := [.long (l3.toInt64), .int v4]) (rest := [.long l1]) S (c_X4_power l (l3.toInt64) v4 v5 ev5) sm_X4_power mw_3_12 ⟨⟨rfl, rfl⟩, by decide, by decide⟩ rfl hl.1 rfl (Nat.le_of_ble_eq_true rfl) ⟨Nat.zero_le _, Nat.zero_le _⟩ dX5_without_28 ?_
    obtain ⟨v6, ev6, h⟩ := ob_s h
    refine pm_cS (As := [.long l1, .long v5]) (rest := []) S (c_X4_quotient l l1 v5 v6 ev6) sm_X4_quotient mw_3_13 ⟨⟨rfl, rfl⟩, by decide, by decide⟩ rfl hl.1 rfl (Nat.le_of_ble_eq_true rfl) ⟨Nat.zero_le _, Nat.zero_le _⟩ dX5_without_31 ?_
    have h9 := Option.some.inj h
    exact pm_lretW S hr hlk hP hS (congrArg Prod.fst h9) (congrArg Prod.snd h9) dX5_without_34
  · rw [if_neg c2] at h
    refine lv_lload_n S.1 S.2.1 dX5_without_11 rfl (lv_at hl 1 rfl) ?_
    have h9 := Option.some.inj h
    exact pm_lretW S hr hlk hP hS (congrArg Prod.fst h9) (congrArg Prod.snd h9) dX5_without_12
theorem vm_X5_without : pm_Vm yX5_without cX5_without 4 (some .long) 2 := ⟨mw_3_5, mw_3_4, ms_324, mw_1_4, by decide, by decide⟩
def q_X5_find_23 (ev : EV) (th : Nat) : Nat → Int64 → Int32 → PS → Option PS
  | 0, _, _, _ => none
  | n + 1, l3, l5, z => if (1000000 : Int32) ≤ l5 then (if l3 ≤ (1 : Int64) then (some z) else (ob (g_X5_add ev z th l3) (fun z8 => some z8))) else (if l3 < ((l5.toInt64) * (l5.toInt64)) then (if l3 ≤ (1 : Int64) then (some z) else (ob (g_X5_add ev z th l3) (fun z11 => some z11))) else (ck (¬ (l5.toInt64) = 0) (if (jr64 l3 (l5.toInt64)) = (0 : Int64) then (ob (g_X5_without ev z th l3 l5) (fun qv15 => bd qv15.1 (fun v15 => bd qv15.2 (fun z14 => ob (g_X5_without ev z14 th v15 (l5 + (2 : Int32))) (fun qv17 => bd qv17.1 (fun v17 => bd qv17.2 (fun z16 => bd (l5 + (6 : Int32)) (fun v18 => q_X5_find_23 ev th n v17 v18 z16)))))))) else (ck (¬ ((l5 + (2 : Int32)).toInt64) = 0) (if (jr64 l3 ((l5 + (2 : Int32)).toInt64)) = (0 : Int64) then (ob (g_X5_without ev z th l3 l5) (fun qv23 => bd qv23.1 (fun v23 => bd qv23.2 (fun z22 => ob (g_X5_without ev z22 th v23 (l5 + (2 : Int32))) (fun qv25 => bd qv25.1 (fun v25 => bd qv25.2 (fun z24 => bd (l5 + (6 : Int32)) (fun v26 => q_X5_find_23 ev th n v25 v26 z24)))))))) else (bd (l5 + (6 : Int32)) (fun v21 => q_X5_find_23 ev th n l3 v21 z)))))))
set_option maxRecDepth 20000 in
set_option maxHeartbeats 4000000 in
theorem w_X5_find_23 {ev : EV} {th : Nat} {p : Program} {l : Launch} {e : Env} {s : State} {m : MethodId} {args : Array Value} {below : List Frame} {meth : Method} {c : Code} {z9 : PS} (S : CallFix p m c cX5_find 6 s args gT RX5) (hr : meth.sig.returnType = none) (hlk : meth.locks = false) (E : EWF ev) (hK : KK ev s) (hX : pXt ev s) (hth : isK ev 3 th) : ∀ (n : Nat), ∀ (l3 : Int64) (l5 : Int32) (z : PS) (ls : Array Slot) (H : Heap) (locs : List Loc), q_X5_find_23 ev th n l3 l5 z = some z9 → lv_has ls 6 [(0, .ref th), (3, .long l3), (5, .int l5)] → Wd ev z H → SS ev s H locs → W p l e (pR 2 73) s m args below meth c H locs 0 0 (MQ below (pQv ev z9) args s 0 0 (eA ev)) (F0 m 23 ls []) := by
  intro n
  induction n with
  | zero => intro l3 l5 z ls H locs h; cases h
  | succ n ih =>
    intro l3 l5 z ls H locs h hl hP hS
    rw [q_X5_find_23] at h
    refine lv_iload S.1 S.2.1 dX5_find_23 (lv_at hl 2 rfl) ?_
    refine pm_ldc S mw_3_14 dX5_find_25 ?_
    refine lv_icmp_ge (tgt := 86) S.1 S.2.1 dX5_find_27 (by decide) (fun c6 => ?_) (fun c6 => ?_)
    · rw [if_pos c6] at h
      refine lv_lload_n S.1 S.2.1 dX5_find_86 rfl (lv_at hl 1 rfl) ?_
      refine lv_lconst (v := 1) S.1 S.2.1 dX5_find_87 (by decide) ?_
      refine pm_lle (tgt := 97) S dX5_find_88 dX5_find_89 (by decide) (fun c7 => ?_) (fun c7 => ?_)
      · rw [if_pos c7] at h
        exact pm_vretW S hr hlk hP hS (Option.some.inj h) dX5_find_97
      · rw [if_neg c7] at h
        refine lv_aload_n S.1 S.2.1 dX5_find_92 rfl (lv_at hl 0 rfl) ?_
        refine lv_lload_n S.1 S.2.1 dX5_find_93 rfl (lv_at hl 1 rfl) ?_
        obtain ⟨z8, ez8, h⟩ := ob_s h
        refine pm_cVv (As := [.long l3]) (rest := []) S hK hX hP hS (c_X5_add l ev z E hth th l3 z8 ez8) vm_X5_add mw_3_7 (rc_3 hK hP hth) ⟨⟨rfl, rfl⟩, by decide, by decide⟩ rfl hl.1 rfl (Nat.le_of_ble_eq_true rfl) ⟨Nat.zero_le _, Nat.zero_le _⟩ dX5_find_94 (fun H locs hP hS => ?_)
        exact pm_vretW S hr hlk hP hS (Option.some.inj h) dX5_find_97
    · rw [if_neg c6] at h
      refine lv_iload S.1 S.2.1 dX5_find_30 (lv_at hl 2 rfl) ?_
      refine lv_i2l S.1 S.2.1 dX5_find_32 rfl ?_
      refine lv_iload S.1 S.2.1 dX5_find_33 (lv_at hl 2 rfl) ?_
      refine lv_i2l S.1 S.2.1 dX5_find_35 rfl ?_
      refine lv_lmul S.1 S.2.1 dX5_find_36 ?_
      refine lv_lload_n S.1 S.2.1 dX5_find_37 rfl (lv_at hl 1 rfl) ?_
      refine pm_lgt (tgt := 86) S dX5_find_38 dX5_find_39 (by decide) (fun c9 => ?_) (fun c9 => ?_)
      · rw [if_pos c9] at h
        refine lv_lload_n S.1 S.2.1 dX5_find_86 rfl (lv_at hl 1 rfl) ?_
        refine lv_lconst (v := 1) S.1 S.2.1 dX5_find_87 (by decide) ?_
        refine pm_lle (tgt := 97) S dX5_find_88 dX5_find_89 (by decide) (fun c10 => ?_) (fun c10 => ?_)
        · rw [if_pos c10] at h
          exact pm_vretW S hr hlk hP hS (Option.some.inj h) dX5_find_97
        · rw [if_neg c10] at h
          refine lv_aload_n S.1 S.2.1 dX5_find_92 rfl (lv_at hl 0 rfl) ?_
          refine lv_lload_n S.1 S.2.1 dX5_find_93 rfl (lv_at hl 1 rfl) ?_
          obtain ⟨z11, ez11, h⟩ := ob_s h
          refine pm_cVv (As := [.long l3]) (rest := []) S hK hX hP hS (c_X5_add l ev z E hth th l3 z11 ez11) vm_X5_add mw_3_7 (rc_3 hK hP hth) ⟨⟨rfl, rfl⟩, by decide, by decide⟩ rfl hl.1 rfl (Nat.le_of_ble_eq_true rfl) ⟨Nat.zero_le _, Nat.zero_le _⟩ dX5_find_94 (fun H locs hP hS => ?_)
          exact pm_vretW S hr hlk hP hS (Option.some.inj h) dX5_find_97
      · rw [if_neg c9] at h
        refine lv_lload_n S.1 S.2.1 dX5_find_42 rfl (lv_at hl 1 rfl) ?_
        refine lv_iload S.1 S.2.1 dX5_find_43 (lv_at hl 2 rfl) ?_
        refine lv_i2l S.1 S.2.1 dX5_find_45 rfl ?_
        obtain ⟨hc12, h⟩ := ck_s h
        refine pm_lrem S hc12 dX5_find_46 ?_
        refine lv_lconst (v := 0) S.1 S.2.1 dX5_find_47 (by decide) ?_
        refine pm_leq (tgt := 64) S dX5_find_48 dX5_find_49 (by decide) (fun c13 => ?_) (fun c13 => ?_)
        · rw [if_pos c13] at h
          refine lv_aload_n S.1 S.2.1 dX5_find_64 rfl (lv_at hl 0 rfl) ?_
          refine lv_aload_n S.1 S.2.1 dX5_find_65 rfl (lv_at hl 0 rfl) ?_
          refine lv_lload_n S.1 S.2.1 dX5_find_66 rfl (lv_at hl 1 rfl) ?_
          refine lv_iload S.1 S.2.1 dX5_find_67 (lv_at hl 2 rfl) ?_
          obtain ⟨qv15, ev15, h⟩ := ob_s h
          obtain ⟨v15, fv15, h⟩ := bd_s h
          obtain ⟨z14, fz14, h⟩ := bd_s h
          have ev15 : g_X5_without ev z th l3 l5 = some (v15, z14) := by rw [fv15, fz14]; exact ev15
          refine pm_cVl (As := [.long l3, .int l5]) (rest := [.ref th]) S hK hX hP hS (c_X5_without l ev z E hth th l3 l5 v15 z14 ev15) vm_X5_without mw_3_2 (rc_3 hK hP hth) ⟨⟨rfl, rfl⟩, by decide, by decide⟩ rfl hl.1 rfl (Nat.le_of_ble_eq_true rfl) ⟨Nat.zero_le _, Nat.zero_le _⟩ dX5_find_69 (fun H locs hP hS => ?_)
          refine lv_iload S.1 S.2.1 dX5_find_72 (lv_at hl 2 rfl) ?_
          refine lv_iconst (v := 2) S.1 S.2.1 dX5_find_74 (by decide) ?_
          refine lv_iadd S.1 S.2.1 dX5_find_75 ?_
          obtain ⟨qv17, ev17, h⟩ := ob_s h
          obtain ⟨v17, fv17, h⟩ := bd_s h
          obtain ⟨z16, fz16, h⟩ := bd_s h
          have ev17 : g_X5_without ev z14 th v15 (l5 + (2 : Int32)) = some (v17, z16) := by rw [fv17, fz16]; exact ev17
          refine pm_cVl (As := [.long v15, .int (l5 + (2 : Int32))]) (rest := []) S hK hX hP hS (c_X5_without l ev z14 E hth th v15 (l5 + (2 : Int32)) v17 z16 ev17) vm_X5_without mw_3_2 (rc_3 hK hP hth) ⟨⟨rfl, rfl⟩, by decide, by decide⟩ rfl hl.1 rfl (Nat.le_of_ble_eq_true rfl) ⟨Nat.zero_le _, Nat.zero_le _⟩ dX5_find_76 (fun H locs hP hS => ?_)
          refine lv_lstore_n (lv' := [(3, .long v17), (0, .ref th), (5, .int l5)]) S.1 S.2.1 dX5_find_79 rfl hl (by decide) rfl (fun ls hl => ?_)
          obtain ⟨v18, ev18, h⟩ := bd_s h
          refine lv_iinc (v := v18) (lv' := [(5, .int v18), (3, .long v17), (0, .ref th)]) S.1 S.2.1 dX5_find_80 hl (k := 2) rfl (by rw [ev18]; rfl) (by decide) rfl (fun ls hl => ?_)
          refine lv_goto (tgt := 23) S.1 S.2.1 dX5_find_83 (by decide) ?_
          exact ih v17 v18 z16 ls _ _ h (lv_sub hl [2, 1, 0] rfl) hP hS
        · rw [if_neg c13] at h
          refine lv_lload_n S.1 S.2.1 dX5_find_52 rfl (lv_at hl 1 rfl) ?_
          refine lv_iload S.1 S.2.1 dX5_find_53 (lv_at hl 2 rfl) ?_
          refine lv_iconst (v := 2) S.1 S.2.1 dX5_find_55 (by decide) ?_
          refine lv_iadd S.1 S.2.1 dX5_find_56 ?_
          refine lv_i2l S.1 S.2.1 dX5_find_57 rfl ?_
          obtain ⟨hc19, h⟩ := ck_s h
          refine pm_lrem S hc19 dX5_find_58 ?_
          refine lv_lconst (v := 0) S.1 S.2.1 dX5_find_59 (by decide) ?_
          refine pm_lne (tgt := 80) S dX5_find_60 dX5_find_61 (by decide) (fun c20 => ?_) (fun c20 => ?_)
          · rw [if_neg c20] at h
            obtain ⟨v21, ev21, h⟩ := bd_s h
            refine lv_iinc (v := v21) (lv' := [(5, .int v21), (0, .ref th), (3, .long l3)]) S.1 S.2.1 dX5_find_80 hl (k := 2) rfl (by rw [ev21]; rfl) (by decide) rfl (fun ls hl => ?_)
            refine lv_goto (tgt := 23) S.1 S.2.1 dX5_find_83 (by decide) ?_
            exact ih l3 v21 z ls _ _ h (lv_sub hl [1, 2, 0] rfl) hP hS
          · rw [if_pos c20] at h
            refine lv_aload_n S.1 S.2.1 dX5_find_64 rfl (lv_at hl 0 rfl) ?_
            refine lv_aload_n S.1 S.2.1 dX5_find_65 rfl (lv_at hl 0 rfl) ?_
            refine lv_lload_n S.1 S.2.1 dX5_find_66 rfl (lv_at hl 1 rfl) ?_
            refine lv_iload S.1 S.2.1 dX5_find_67 (lv_at hl 2 rfl) ?_
            obtain ⟨qv23, ev23, h⟩ := ob_s h
            obtain ⟨v23, fv23, h⟩ := bd_s h
            obtain ⟨z22, fz22, h⟩ := bd_s h
            have ev23 : g_X5_without ev z th l3 l5 = some (v23, z22) := by rw [fv23, fz22]; exact ev23
            refine pm_cVl (As := [.long l3, .int l5]) (rest := [.ref th]) S hK hX hP hS (c_X5_without l ev z E hth th l3 l5 v23 z22 ev23) vm_X5_without mw_3_2 (rc_3 hK hP hth) ⟨⟨rfl, rfl⟩, by decide, by decide⟩ rfl hl.1 rfl (Nat.le_of_ble_eq_true rfl) ⟨Nat.zero_le _, Nat.zero_le _⟩ dX5_find_69 (fun H locs hP hS => ?_)
            refine lv_iload S.1 S.2.1 dX5_find_72 (lv_at hl 2 rfl) ?_
            refine lv_iconst (v := 2) S.1 S.2.1 dX5_find_74 (by decide) ?_
            refine lv_iadd S.1 S.2.1 dX5_find_75 ?_
            obtain ⟨qv25, ev25, h⟩ := ob_s h
            obtain ⟨v25, fv25, h⟩ := bd_s h
            obtain ⟨z24, fz24, h⟩ := bd_s h
            have ev25 : g_X5_without ev z22 th v23 (l5 + (2 : Int32)) = some (v25, z24) := by rw [fv25, fz24]; exact ev25
            refine pm_cVl (As := [.long v23, .int (l5 + (2 : Int32))]) (rest := []) S hK hX hP hS (c_X5_without l ev z22 E hth th v23 (l5 + (2 : Int32)) v25 z24 ev25) vm_X5_without mw_3_2 (rc_3 hK hP hth) ⟨⟨rfl, rfl⟩, by decide, by decide⟩ rfl hl.1 rfl (Nat.le_of_ble_eq_true rfl) ⟨Nat.zero_le _, Nat.zero_le _⟩ dX5_find_76 (fun H locs hP hS => ?_)
            refine lv_lstore_n (lv' := [(3, .long v25), (0, .ref th), (5, .int l5)]) S.1 S.2.1 dX5_find_79 rfl hl (by decide) rfl (fun ls hl => ?_)
            obtain ⟨v26, ev26, h⟩ := bd_s h
            refine lv_iinc (v := v26) (lv' := [(5, .int v26), (3, .long v25), (0, .ref th)]) S.1 S.2.1 dX5_find_80 hl (k := 2) rfl (by rw [ev26]; rfl) (by decide) rfl (fun ls hl => ?_)
            refine lv_goto (tgt := 23) S.1 S.2.1 dX5_find_83 (by decide) ?_
            exact ih v25 v26 z24 ls _ _ h (lv_sub hl [2, 1, 0] rfl) hP hS
def g_X5_find (ev : EV) (z : PS) (th : Nat) (l1 : Int64) : Option PS := bd (w32 z 61 th (0 : Int32)) (fun z1 => ob (g_X5_without ev z1 th (if 0 < l1 then l1 else -l1) (2 : Int32)) (fun qv3 => bd qv3.1 (fun v3 => bd qv3.2 (fun z2 => ob (g_X5_without ev z2 th v3 (3 : Int32)) (fun qv5 => bd qv5.1 (fun v5 => bd qv5.2 (fun z4 => q_X5_find_23 ev th FU v5 (5 : Int32) z4)))))))
set_option maxRecDepth 20000 in
set_option maxHeartbeats 4000000 in
theorem c_X5_find (l : Launch) (ev : EV) (z : PS) (E : EWF ev) {th : Nat} (hth : isK ev 3 th) (th_ : Nat) (l1 : Int64) (z9 : PS) (h : g_X5_find ev z th l1 = some z9) : Met l yX5_find (pWs yX5_find cX5_find 6 none) (pR 2 73) (va_Pc [.ref th, .long l1] (pPe ev z)) (pQv ev z9) 0 0 (eA ev) := by
  refine pm_of (by decide) (Nat.le_of_ble_eq_true rfl) ?_
  intro p e s m below meth c S hr hlk hv ls hl
  obtain ⟨hP, hK, hX⟩ := hv
  have hS : SS ev s s.heap [] := va_S.rf
  have hl : lv_has ls 6 [(0, .ref th), (1, .long l1)] := hl
  unfold g_X5_find at h
  refine lv_aload_n S.1 S.2.1 dX5_find_0 rfl (lv_at hl 0 rfl) ?_
  refine lv_iconst (v := 0) S.1 S.2.1 dX5_find_1 (by decide) ?_
  obtain ⟨z1, ez1, h⟩ := bd_s h
  refine pf_3_1 S E hK hP hS hth mw_1_97 dX5_find_2 (fun H locs hP hS => ?_)
  rw [← ez1] at hP
  refine lv_aload_n S.1 S.2.1 dX5_find_5 rfl (lv_at hl 0 rfl) ?_
  refine lv_aload_n S.1 S.2.1 dX5_find_6 rfl (lv_at hl 0 rfl) ?_
  refine lv_lload_n S.1 S.2.1 dX5_find_7 rfl (lv_at hl 1 rfl) ?_
  refine va_mabs_long S.1 S.2.1 (S.2.2.1.trans hl.1.symm) S.2.2.2.1 (S.2.2.2.2 _ mw_3_1) (S.2.2.2.2 _ mw_2_74) (S.2.2.2.2 _ mw_1_10) (S.2.2.2.2 _ mw_2_75) (by decide) (Nat.le_of_ble_eq_true rfl) (Nat.zero_le _) (Nat.zero_le _) dX5_find_8 ?_
  refine lv_iconst (v := 2) S.1 S.2.1 dX5_find_11 (by decide) ?_
  obtain ⟨qv3, ev3, h⟩ := ob_s h
  obtain ⟨v3, fv3, h⟩ := bd_s h
  obtain ⟨z2, fz2, h⟩ := bd_s h
  have ev3 : g_X5_without ev z1 th (if 0 < l1 then l1 else -l1) (2 : Int32) = some (v3, z2) := by rw [fv3, fz2]; exact ev3
  refine pm_cVl (As := [.long (if 0 < l1 then l1 else -l1), .int (2 : Int32)]) (rest := [.ref th]) S hK hX hP hS (c_X5_without l ev z1 E hth th (if 0 < l1 then l1 else -l1) (2 : Int32) v3 z2 ev3) vm_X5_without mw_3_2 (rc_3 hK hP hth) ⟨⟨rfl, rfl⟩, by decide, by decide⟩ rfl hl.1 rfl (Nat.le_of_ble_eq_true rfl) ⟨Nat.zero_le _, Nat.zero_le _⟩ dX5_find_12 (fun H locs hP hS => ?_)
  refine lv_iconst (v := 3) S.1 S.2.1 dX5_find_15 (by decide) ?_
  obtain ⟨qv5, ev5, h⟩ := ob_s h
  obtain ⟨v5, fv5, h⟩ := bd_s h
  obtain ⟨z4, fz4, h⟩ := bd_s h
  have ev5 : g_X5_without ev z2 th v3 (3 : Int32) = some (v5, z4) := by rw [fv5, fz4]; exact ev5
  refine pm_cVl (As := [.long v3, .int (3 : Int32)]) (rest := []) S hK hX hP hS (c_X5_without l ev z2 E hth th v3 (3 : Int32) v5 z4 ev5) vm_X5_without mw_3_2 (rc_3 hK hP hth) ⟨⟨rfl, rfl⟩, by decide, by decide⟩ rfl hl.1 rfl (Nat.le_of_ble_eq_true rfl) ⟨Nat.zero_le _, Nat.zero_le _⟩ dX5_find_16 (fun H locs hP hS => ?_)
  refine lv_lstore_n (lv' := [(3, .long v5), (0, .ref th), (1, .long l1)]) S.1 S.2.1 dX5_find_19 rfl hl (by decide) rfl (fun ls hl => ?_)
  refine lv_iconst (v := 5) S.1 S.2.1 dX5_find_20 (by decide) ?_
  refine lv_istore (lv' := [(5, .int (5 : Int32)), (3, .long v5), (0, .ref th), (1, .long l1)]) S.1 S.2.1 dX5_find_21 hl (by decide) rfl (fun ls hl => ?_)
  exact w_X5_find_23 S hr hlk E hK hX hth FU v5 (5 : Int32) z4 ls _ _ h (lv_sub hl [2, 1, 0] rfl) hP hS
theorem vm_X5_find : pm_Vm yX5_find cX5_find 6 none 1 := ⟨mw_3_0, mw_2_238, mw_2_239, mw_1_4, by decide, by decide⟩
def g_X2_primesOfDisc (ev : EV) (z : PS) (th : Nat) : Option PS := if (r32 z 44 th) = 0 then (ob (g_X5_find ev z (rf ev 43 th) (r64 z 11 (rf ev 40 th))) (fun z2 => bd (w32 z2 44 th (1 : Int32)) (fun z3 => some z3))) else (some z)
set_option maxRecDepth 20000 in
set_option maxHeartbeats 4000000 in
theorem c_X2_primesOfDisc (l : Launch) (ev : EV) (z : PS) (E : EWF ev) {th : Nat} (hth : isK ev 2 th) (th_ : Nat) (z9 : PS) (h : g_X2_primesOfDisc ev z th = some z9) : Met l yX2_primesOfDisc (pWs yX2_primesOfDisc cX2_primesOfDisc 1 (some (.object "CurveFalls$Primes"))) (pR 3 110) (va_Pc [.ref th] (pPe ev z)) (pQa ev (rf ev 43 th) z9) 0 0 (eA ev) := by
  refine pm_of (by decide) (Nat.le_of_ble_eq_true rfl) ?_
  intro p e s m below meth c S hr hlk hv ls hl
  obtain ⟨hP, hK, hX⟩ := hv
  have hS : SS ev s s.heap [] := va_S.rf
  have hl : lv_has ls 1 [(0, .ref th)] := hl
  unfold g_X2_primesOfDisc at h
  refine lv_aload_n S.1 S.2.1 dX2_primesOfDisc_0 rfl (lv_at hl 0 rfl) ?_
  refine gf_2_4 S hK hP hth mw_1_112 dX2_primesOfDisc_1 ?_
  refine lv_if_ne (tgt := 26) S.1 S.2.1 dX2_primesOfDisc_4 (by decide) (fun c1 => ?_) (fun c1 => ?_)
  · rw [if_neg c1] at h
    refine lv_aload_n S.1 S.2.1 dX2_primesOfDisc_26 rfl (lv_at hl 0 rfl) ?_
    refine gf_2_3 S hK hP hth mw_1_111 dX2_primesOfDisc_27 ?_
    exact pm_aretW S hr hlk hP hS rfl (Option.some.inj h) dX2_primesOfDisc_30
  · rw [if_pos c1] at h
    refine lv_aload_n S.1 S.2.1 dX2_primesOfDisc_7 rfl (lv_at hl 0 rfl) ?_
    refine gf_2_3 S hK hP hth mw_1_111 dX2_primesOfDisc_8 ?_
    refine lv_aload_n S.1 S.2.1 dX2_primesOfDisc_11 rfl (lv_at hl 0 rfl) ?_
    refine gf_2_0 S hK hP hth mw_1_105 dX2_primesOfDisc_12 ?_
    refine gf_0_11 S hK hP (E_2_0 E hth) mw_1_61 dX2_primesOfDisc_15 ?_
    obtain ⟨z2, ez2, h⟩ := ob_s h
    refine pm_cVv (As := [.long (r64 z 11 (rf ev 40 th))]) (rest := []) S hK hX hP hS (c_X5_find l ev z E (E_2_3 E hth) (rf ev 43 th) (r64 z 11 (rf ev 40 th)) z2 ez2) vm_X5_find mw_2_237 (rc_3 hK hP (E_2_3 E hth)) ⟨⟨rfl, rfl⟩, by decide, by decide⟩ rfl hl.1 rfl (Nat.le_of_ble_eq_true rfl) ⟨Nat.zero_le _, Nat.zero_le _⟩ dX2_primesOfDisc_18 (fun H locs hP hS => ?_)
    refine lv_aload_n S.1 S.2.1 dX2_primesOfDisc_21 rfl (lv_at hl 0 rfl) ?_
    refine lv_iconst (v := 1) S.1 S.2.1 dX2_primesOfDisc_22 (by decide) ?_
    obtain ⟨z3, ez3, h⟩ := bd_s h
    refine pf_2_4 S E hK hP hS hth (Or.inr rfl) mw_1_112 dX2_primesOfDisc_23 (fun H locs hP hS => ?_)
    rw [← ez3] at hP
    refine lv_aload_n S.1 S.2.1 dX2_primesOfDisc_26 rfl (lv_at hl 0 rfl) ?_
    refine gf_2_3 S hK hP hth mw_1_111 dX2_primesOfDisc_27 ?_
    exact pm_aretW S hr hlk hP hS rfl (Option.some.inj h) dX2_primesOfDisc_30
theorem vm_X2_primesOfDisc : pm_Vm yX2_primesOfDisc cX2_primesOfDisc 1 (some (.object "CurveFalls$Primes")) 0 := ⟨mw_2_236, mw_2_234, mw_2_235, mw_1_2, by decide, by decide⟩
def g_X5_get (ev : EV) (z : PS) (th : Nat) (l1 : Int32) : Option Int32 := if l1 < 0 then (some (-1 : Int32)) else (if (r32 z 61 th) ≤ l1 then (some (-1 : Int32)) else (ck (inB l1 16) (some (rI z (rf ev 60 th) l1.toNatClampNeg))))
set_option maxRecDepth 20000 in
set_option maxHeartbeats 4000000 in
theorem c_X5_get (l : Launch) (ev : EV) (z : PS) (E : EWF ev) {th : Nat} (hth : isK ev 3 th) (th_ : Nat) (l1 : Int32) (r : Int32) (h : g_X5_get ev z th l1 = some r) : Met l yX5_get (pWs yX5_get cX5_get 2 (some .int)) (pR 0 0) (va_Pc [.ref th, .int l1] (pPe ev z)) (k2_QcV (.int r)) 0 0 (fun _ => False) := by
  refine pm_of (by decide) (Nat.le_of_ble_eq_true rfl) ?_
  intro p e s m below meth c S hr hlk hv ls hl
  obtain ⟨hP, hK, hX⟩ := hv
  have hl : lv_has ls 2 [(0, .ref th), (1, .int l1)] := hl
  unfold g_X5_get at h
  refine lv_iload_n S.1 S.2.1 dX5_get_0 rfl (lv_at hl 1 rfl) ?_
  refine lv_if_lt (tgt := 21) S.1 S.2.1 dX5_get_1 (by decide) (fun c1 => ?_) (fun c1 => ?_)
  · rw [if_pos c1] at h
    refine lv_iconst (v := -1) S.1 S.2.1 dX5_get_21 (by decide) ?_
    exact pm_iretR S hr hlk (Option.some.inj h) dX5_get_22
  · rw [if_neg c1] at h
    refine lv_iload_n S.1 S.2.1 dX5_get_4 rfl (lv_at hl 1 rfl) ?_
    refine lv_aload_n S.1 S.2.1 dX5_get_5 rfl (lv_at hl 0 rfl) ?_
    refine gf_3_1 S hK hP hth mw_1_97 dX5_get_6 ?_
    refine lv_icmp_ge (tgt := 21) S.1 S.2.1 dX5_get_9 (by decide) (fun c2 => ?_) (fun c2 => ?_)
    · rw [if_pos c2] at h
      refine lv_iconst (v := -1) S.1 S.2.1 dX5_get_21 (by decide) ?_
      exact pm_iretR S hr hlk (Option.some.inj h) dX5_get_22
    · rw [if_neg c2] at h
      refine lv_aload_n S.1 S.2.1 dX5_get_12 rfl (lv_at hl 0 rfl) ?_
      refine gf_3_0 S hK hP hth mw_1_96 dX5_get_13 ?_
      refine lv_iload_n S.1 S.2.1 dX5_get_16 rfl (lv_at hl 1 rfl) ?_
      obtain ⟨hc3, h⟩ := ck_s h
      refine al_I S hK hP (E_3_0 E hth) (by rw [N_3_0 E hth]; exact hc3) dX5_get_17 ?_
      refine lv_goto (tgt := 22) S.1 S.2.1 dX5_get_18 (by decide) ?_
      exact pm_iretR S hr hlk (Option.some.inj h) dX5_get_22
theorem vm_X5_get : pm_Vm yX5_get cX5_get 2 (some .int) 1 := ⟨mw_3_18, mw_3_16, mw_3_17, mw_1_4, by decide, by decide⟩
def g_X7_prime (ev : EV) (z : PS) (th : Nat) (l1 : Int32) (l2 : Int32) : Option (Int32 × PS) := ob (g_X7_there ev z th l1) (fun v1 => if v1 = 0 then (some ((-1 : Int32), z)) else (ck (inB l1 16) (ob (g_X2_primesOfDisc ev z (rh ev (rf ev 100 th) l1.toNatClampNeg)) (fun z4 => if l2 = (-1 : Int32) then (some ((r32 z4 61 (rf ev 43 (rh ev (rf ev 100 th) l1.toNatClampNeg))), z4)) else (ob (g_X5_get ev z4 (rf ev 43 (rh ev (rf ev 100 th) l1.toNatClampNeg)) l2) (fun v6 => some (v6, z4)))))))
set_option maxRecDepth 20000 in
set_option maxHeartbeats 4000000 in
theorem c_X7_prime (l : Launch) (ev : EV) (z : PS) (E : EWF ev) {th : Nat} (hth : isK ev 5 th) (th_ : Nat) (l1 : Int32) (l2 : Int32) (r : Int32) (z9 : PS) (h : g_X7_prime ev z th l1 l2 = some (r, z9)) : Met l yX7_prime (pWs yX7_prime cX7_prime 4 (some .int)) (pR 4 142) (va_Pc [.ref th, .int l1, .int l2] (pPe ev z)) (pQi ev r z9) 0 0 (eA ev) := by
  refine pm_of (by decide) (Nat.le_of_ble_eq_true rfl) ?_
  intro p e s m below meth c S hr hlk hv ls hl
  obtain ⟨hP, hK, hX⟩ := hv
  have hS : SS ev s s.heap [] := va_S.rf
  have hl : lv_has ls 4 [(0, .ref th), (1, .int l1), (2, .int l2)] := hl
  unfold g_X7_prime at h
  refine lv_aload_n S.1 S.2.1 dX7_prime_0 rfl (lv_at hl 0 rfl) ?_
  refine lv_iload_n S.1 S.2.1 dX7_prime_1 rfl (lv_at hl 1 rfl) ?_
  obtain ⟨v1, ev1, h⟩ := ob_s h
  refine pm_cVr (As := [.int l1]) (rest := []) S hK hX hP hS (c_X7_there l ev z E hth th l1 v1 ev1) vm_X7_there mw_2_59 (rc_5 hK hP hth) ⟨⟨rfl, rfl⟩, by decide, by decide⟩ rfl hl.1 rfl (Nat.le_of_ble_eq_true rfl) ⟨Nat.zero_le _, Nat.zero_le _⟩ dX7_prime_2 ?_
  refine lv_if_ne (tgt := 10) S.1 S.2.1 dX7_prime_5 (by decide) (fun c2 => ?_) (fun c2 => ?_)
  · rw [if_neg c2] at h
    refine lv_aload_n S.1 S.2.1 dX7_prime_10 rfl (lv_at hl 0 rfl) ?_
    refine gf_5_0 S hK hP hth mw_1_185 dX7_prime_11 ?_
    refine lv_iload_n S.1 S.2.1 dX7_prime_14 rfl (lv_at hl 1 rfl) ?_
    obtain ⟨hc3, h⟩ := ck_s h
    refine al_H S hK hP (E_5_0 E hth) (by rw [N_5_0 E hth]; exact hc3) dX7_prime_15 ?_
    obtain ⟨z4, ez4, h⟩ := ob_s h
    refine pm_cVa (As := []) (rest := []) S hK hX hP hS (c_X2_primesOfDisc l ev z E (E_h E (E_5_0 E hth) (inB_lt hc3)) (rh ev (rf ev 100 th) l1.toNatClampNeg) z4 ez4) vm_X2_primesOfDisc mw_2_233 (rc_2 hK hP (E_h E (E_5_0 E hth) (inB_lt hc3))) ⟨⟨rfl, rfl⟩, by decide, by decide⟩ rfl hl.1 rfl (Nat.le_of_ble_eq_true rfl) ⟨Nat.zero_le _, Nat.zero_le _⟩ dX7_prime_16 (fun H locs hP hS => ?_)
    refine lv_astore_n (lv' := [(3, .ref (rf ev 43 (rh ev (rf ev 100 th) l1.toNatClampNeg))), (0, .ref th), (1, .int l1), (2, .int l2)]) S.1 S.2.1 dX7_prime_19 rfl hl (by decide) rfl (fun ls hl => ?_)
    refine lv_iload_n S.1 S.2.1 dX7_prime_20 rfl (lv_at hl 3 rfl) ?_
    refine lv_iconst (v := -1) S.1 S.2.1 dX7_prime_21 (by decide) ?_
    refine lv_icmp_ne (tgt := 32) S.1 S.2.1 dX7_prime_22 (by decide) (fun c5 => ?_) (fun c5 => ?_)
    · rw [if_neg c5] at h
      refine lv_aload_n S.1 S.2.1 dX7_prime_32 rfl (lv_at hl 0 rfl) ?_
      refine lv_iload_n S.1 S.2.1 dX7_prime_33 rfl (lv_at hl 3 rfl) ?_
      obtain ⟨v6, ev6, h⟩ := ob_s h
      refine pm_cVr (As := [.int l2]) (rest := []) S hK hX hP hS (c_X5_get l ev z4 E (E_2_3 E (E_h E (E_5_0 E hth) (inB_lt hc3))) (rf ev 43 (rh ev (rf ev 100 th) l1.toNatClampNeg)) l2 v6 ev6) vm_X5_get mw_3_15 (rc_3 hK hP (E_2_3 E (E_h E (E_5_0 E hth) (inB_lt hc3)))) ⟨⟨rfl, rfl⟩, by decide, by decide⟩ rfl hl.1 rfl (Nat.le_of_ble_eq_true rfl) ⟨Nat.zero_le _, Nat.zero_le _⟩ dX7_prime_34 ?_
      have h9 := Option.some.inj h
      exact pm_iretW S hr hlk hP hS (congrArg Prod.fst h9) (congrArg Prod.snd h9) dX7_prime_37
    · rw [if_pos c5] at h
      refine lv_aload_n S.1 S.2.1 dX7_prime_25 rfl (lv_at hl 0 rfl) ?_
      refine gf_3_1 S hK hP (E_2_3 E (E_h E (E_5_0 E hth) (inB_lt hc3))) mw_1_98 dX7_prime_26 ?_
      refine lv_goto (tgt := 37) S.1 S.2.1 dX7_prime_29 (by decide) ?_
      have h9 := Option.some.inj h
      exact pm_iretW S hr hlk hP hS (congrArg Prod.fst h9) (congrArg Prod.snd h9) dX7_prime_37
  · rw [if_pos c2] at h
    refine lv_iconst (v := -1) S.1 S.2.1 dX7_prime_8 (by decide) ?_
    have h9 := Option.some.inj h
    exact pm_iretW S hr hlk hP hS (congrArg Prod.fst h9) (congrArg Prod.snd h9) dX7_prime_9
theorem vm_X7_prime : pm_Vm yX7_prime cX7_prime 4 (some .int) 2 := ⟨mw_2_232, mw_2_230, mw_2_231, mw_1_1, by decide, by decide⟩
def q_X7_conductorOf_64 (ev : EV) (th : Nat) (l1 : Nat) (l2 : Nat) : Nat → Int64 → Int32 → PS → Option (Int64 × PS)
  | 0, _, _, _ => none
  | n + 1, l3, l5, z => if (r32 z 61 l2) ≤ l5 then (some (l3, z)) else (ob (g_X5_get ev z l2 l5) (fun v9 => if v9 ≤ (7 : Int32) then (bd (l5 + (1 : Int32)) (fun v11 => q_X7_conductorOf_64 ev th l1 l2 n l3 v11 z)) else (ob (g_X1_reckon ev z (rf ev 103 th) l1 v9) (fun z12 => ob (g_X4_power (v9.toInt64) (r32 z12 22 (rf ev 103 th))) (fun v13 => bd ((l3 * v13)) (fun v14 => bd (l5 + (1 : Int32)) (fun v15 => q_X7_conductorOf_64 ev th l1 l2 n v14 v15 z12)))))))
set_option maxRecDepth 20000 in
set_option maxHeartbeats 4000000 in
theorem w_X7_conductorOf_64 {ev : EV} {th : Nat} {l1 : Nat} {l2 : Nat} {p : Program} {l : Launch} {e : Env} {s : State} {m : MethodId} {args : Array Value} {below : List Frame} {meth : Method} {c : Code} {r : Int64} {z9 : PS} (S : CallFix p m c cX7_conductorOf 9 s args gT RX7) (hr : meth.sig.returnType = (some .long)) (hlk : meth.locks = false) (E : EWF ev) (hK : KK ev s) (hX : pXt ev s) (hth : isK ev 5 th) (hl1 : isK ev 0 l1) (hl2 : isK ev 3 l2) : ∀ (n : Nat), ∀ (l3 : Int64) (l5 : Int32) (z : PS) (ls : Array Slot) (H : Heap) (locs : List Loc), q_X7_conductorOf_64 ev th l1 l2 n l3 l5 z = some (r, z9) → lv_has ls 9 [(0, .ref th), (1, .ref l1), (2, .ref l2), (3, .long l3), (5, .int l5)] → Wd ev z H → SS ev s H locs → W p l e (pR 4 162) s m args below meth c H locs 0 0 (MQ below (pQl ev r z9) args s 0 0 (eA ev)) (F0 m 64 ls []) := by
  intro n
  induction n with
  | zero => intro l3 l5 z ls H locs h; cases h
  | succ n ih =>
    intro l3 l5 z ls H locs h hl hP hS
    rw [q_X7_conductorOf_64] at h
    refine lv_iload S.1 S.2.1 dX7_conductorOf_64 (lv_at hl 4 rfl) ?_
    refine lv_aload_n S.1 S.2.1 dX7_conductorOf_66 rfl (lv_at hl 2 rfl) ?_
    refine gf_3_1 S hK hP hl2 mw_1_98 dX7_conductorOf_67 ?_
    refine lv_icmp_ge (tgt := 120) S.1 S.2.1 dX7_conductorOf_70 (by decide) (fun c8 => ?_) (fun c8 => ?_)
    · rw [if_pos c8] at h
      refine lv_lload_n S.1 S.2.1 dX7_conductorOf_120 rfl (lv_at hl 3 rfl) ?_
      have h9 := Option.some.inj h
      exact pm_lretW S hr hlk hP hS (congrArg Prod.fst h9) (congrArg Prod.snd h9) dX7_conductorOf_121
    · rw [if_neg c8] at h
      refine lv_aload_n S.1 S.2.1 dX7_conductorOf_73 rfl (lv_at hl 2 rfl) ?_
      refine lv_iload S.1 S.2.1 dX7_conductorOf_74 (lv_at hl 4 rfl) ?_
      obtain ⟨v9, ev9, h⟩ := ob_s h
      refine pm_cVr (As := [.int l5]) (rest := []) S hK hX hP hS (c_X5_get l ev z E hl2 l2 l5 v9 ev9) vm_X5_get mw_3_15 (rc_3 hK hP hl2) ⟨⟨rfl, rfl⟩, by decide, by decide⟩ rfl hl.1 rfl (Nat.le_of_ble_eq_true rfl) ⟨Nat.zero_le _, Nat.zero_le _⟩ dX7_conductorOf_76 ?_
      refine lv_istore (lv' := [(6, .int v9), (0, .ref th), (1, .ref l1), (2, .ref l2), (3, .long l3), (5, .int l5)]) S.1 S.2.1 dX7_conductorOf_79 hl (by decide) rfl (fun ls hl => ?_)
      refine lv_iload S.1 S.2.1 dX7_conductorOf_81 (lv_at hl 0 rfl) ?_
      refine lv_bipush (v := 7) S.1 S.2.1 dX7_conductorOf_83 (by decide) ?_
      refine lv_icmp_le (tgt := 114) S.1 S.2.1 dX7_conductorOf_85 (by decide) (fun c10 => ?_) (fun c10 => ?_)
      · rw [if_pos c10] at h
        obtain ⟨v11, ev11, h⟩ := bd_s h
        refine lv_iinc (v := v11) (lv' := [(5, .int v11), (6, .int v9), (0, .ref th), (1, .ref l1), (2, .ref l2), (3, .long l3)]) S.1 S.2.1 dX7_conductorOf_114 hl (k := 5) rfl (by rw [ev11]; rfl) (by decide) rfl (fun ls hl => ?_)
        refine lv_goto (tgt := 64) S.1 S.2.1 dX7_conductorOf_117 (by decide) ?_
        exact ih l3 v11 z ls _ _ h (lv_sub hl [2, 3, 4, 5, 0] rfl) hP hS
      · rw [if_neg c10] at h
        refine lv_aload_n S.1 S.2.1 dX7_conductorOf_88 rfl (lv_at hl 1 rfl) ?_
        refine gf_5_3 S hK hP hth mw_1_188 dX7_conductorOf_89 ?_
        refine lv_aload_n S.1 S.2.1 dX7_conductorOf_92 rfl (lv_at hl 2 rfl) ?_
        refine lv_iload S.1 S.2.1 dX7_conductorOf_93 (lv_at hl 0 rfl) ?_
        obtain ⟨z12, ez12, h⟩ := ob_s h
        refine pm_cVv (As := [.ref l1, .int v9]) (rest := []) S hK hX hP hS (c_X1_reckon l ev z E (E_5_3 E hth) hl1 (rf ev 103 th) l1 v9 z12 ez12) vm_X1_reckon mw_2_134 (rc_1 hK hP (E_5_3 E hth)) ⟨⟨rfl, rfl⟩, by decide, by decide⟩ rfl hl.1 rfl (Nat.le_of_ble_eq_true rfl) ⟨Nat.zero_le _, Nat.zero_le _⟩ dX7_conductorOf_95 (fun H locs hP hS => ?_)
        refine lv_lload_n S.1 S.2.1 dX7_conductorOf_98 rfl (lv_at hl 4 rfl) ?_
        refine lv_iload S.1 S.2.1 dX7_conductorOf_99 (lv_at hl 0 rfl) ?_
        refine lv_i2l S.1 S.2.1 dX7_conductorOf_101 rfl ?_
        refine lv_aload_n S.1 S.2.1 dX7_conductorOf_102 rfl (lv_at hl 1 rfl) ?_
        refine gf_5_3 S hK hP hth mw_1_188 dX7_conductorOf_103 ?_
        refine gf_1_2 S hK hP (E_5_3 E hth) mw_1_138 dX7_conductorOf_106 ?_
        obtain ⟨v13, ev13, h⟩ := ob_s h
        refine pm_cS (As := [.long (v9.toInt64), .int (r32 z12 22 (rf ev 103 th))]) (rest := [.long l3]) S (c_X4_power l (v9.toInt64) (r32 z12 22 (rf ev 103 th)) v13 ev13) sm_X4_power mw_2_77 ⟨⟨rfl, rfl⟩, by decide, by decide⟩ rfl hl.1 rfl (Nat.le_of_ble_eq_true rfl) ⟨Nat.zero_le _, Nat.zero_le _⟩ dX7_conductorOf_109 ?_
        refine lv_lmul S.1 S.2.1 dX7_conductorOf_112 ?_
        obtain ⟨v14, ev14, h⟩ := bd_s h
        refine pm_nmL ev14 ?_
        refine lv_lstore_n (lv' := [(3, .long v14), (6, .int v9), (0, .ref th), (1, .ref l1), (2, .ref l2), (5, .int l5)]) S.1 S.2.1 dX7_conductorOf_113 rfl hl (by decide) rfl (fun ls hl => ?_)
        obtain ⟨v15, ev15, h⟩ := bd_s h
        refine lv_iinc (v := v15) (lv' := [(5, .int v15), (3, .long v14), (6, .int v9), (0, .ref th), (1, .ref l1), (2, .ref l2)]) S.1 S.2.1 dX7_conductorOf_114 hl (k := 5) rfl (by rw [ev15]; rfl) (by decide) rfl (fun ls hl => ?_)
        refine lv_goto (tgt := 64) S.1 S.2.1 dX7_conductorOf_117 (by decide) ?_
        exact ih v14 v15 z12 ls _ _ h (lv_sub hl [3, 4, 5, 1, 0] rfl) hP hS
def q_X7_conductorOf_15 (ev : EV) (th : Nat) (l1 : Nat) (l2 : Nat) : Nat → Int64 → Int32 → Int32 → PS → Option (Int64 × PS)
  | 0, _, _, _, _ => none
  | n + 1, l3, l6, l7, z => if l6 ≤ l7 then (q_X7_conductorOf_64 ev th l1 l2 FU l3 (0 : Int32) z) else (ck (inB l7 4) (bd ((tw2 l7.toNatClampNeg)) (fun v3 => ob (g_X1_reckon ev z (rf ev 103 th) l1 v3) (fun z4 => ob (g_X4_power (v3.toInt64) (r32 z4 22 (rf ev 103 th))) (fun v5 => bd ((l3 * v5)) (fun v6 => bd (l7 + (1 : Int32)) (fun v7 => q_X7_conductorOf_15 ev th l1 l2 n v6 l6 v7 z4)))))))
set_option maxRecDepth 20000 in
set_option maxHeartbeats 4000000 in
theorem w_X7_conductorOf_15 {ev : EV} {th : Nat} {l1 : Nat} {l2 : Nat} {p : Program} {l : Launch} {e : Env} {s : State} {m : MethodId} {args : Array Value} {below : List Frame} {meth : Method} {c : Code} {r : Int64} {z9 : PS} (S : CallFix p m c cX7_conductorOf 9 s args gT RX7) (hr : meth.sig.returnType = (some .long)) (hlk : meth.locks = false) (E : EWF ev) (hK : KK ev s) (hX : pXt ev s) (hth : isK ev 5 th) (hl1 : isK ev 0 l1) (hl2 : isK ev 3 l2) : ∀ (n : Nat), ∀ (l3 : Int64) (l6 : Int32) (l7 : Int32) (z : PS) (ls : Array Slot) (H : Heap) (locs : List Loc), q_X7_conductorOf_15 ev th l1 l2 n l3 l6 l7 z = some (r, z9) → lv_has ls 9 [(0, .ref th), (1, .ref l1), (2, .ref l2), (3, .long l3), (5, .ref (rf ev 901 0)), (6, .int l6), (7, .int l7)] → Wd ev z H → SS ev s H locs → W p l e (pR 4 162) s m args below meth c H locs 0 0 (MQ below (pQl ev r z9) args s 0 0 (eA ev)) (F0 m 15 ls []) := by
  intro n
  induction n with
  | zero => intro l3 l6 l7 z ls H locs h; cases h
  | succ n ih =>
    intro l3 l6 l7 z ls H locs h hl hP hS
    rw [q_X7_conductorOf_15] at h
    refine lv_iload S.1 S.2.1 dX7_conductorOf_15 (lv_at hl 6 rfl) ?_
    refine lv_iload S.1 S.2.1 dX7_conductorOf_17 (lv_at hl 5 rfl) ?_
    refine lv_icmp_ge (tgt := 61) S.1 S.2.1 dX7_conductorOf_19 (by decide) (fun c1 => ?_) (fun c1 => ?_)
    · rw [if_pos c1] at h
      refine lv_iconst (v := 0) S.1 S.2.1 dX7_conductorOf_61 (by decide) ?_
      refine lv_istore (lv' := [(5, .int (0 : Int32)), (0, .ref th), (1, .ref l1), (2, .ref l2), (3, .long l3), (6, .int l6), (7, .int l7)]) S.1 S.2.1 dX7_conductorOf_62 hl (by decide) rfl (fun ls hl => ?_)
      exact w_X7_conductorOf_64 S hr hlk E hK hX hth hl1 hl2 FU l3 (0 : Int32) z ls _ _ h (lv_sub hl [1, 2, 3, 4, 0] rfl) hP hS
    · rw [if_neg c1] at h
      refine lv_aload S.1 S.2.1 dX7_conductorOf_22 (lv_at hl 4 rfl) ?_
      refine lv_iload S.1 S.2.1 dX7_conductorOf_24 (lv_at hl 6 rfl) ?_
      obtain ⟨hc2, h⟩ := ck_s h
      refine va_ti S.1 S.2.1 hX.2.2.1.2 hS hc2 (v := .int (tw2 l7.toNatClampNeg)) rfl dX7_conductorOf_26 ?_
      obtain ⟨v3, ev3, h⟩ := bd_s h
      refine pm_nmI ev3 ?_
      refine lv_istore (lv' := [(8, .int v3), (0, .ref th), (1, .ref l1), (2, .ref l2), (3, .long l3), (5, .ref (rf ev 901 0)), (6, .int l6), (7, .int l7)]) S.1 S.2.1 dX7_conductorOf_27 hl (by decide) rfl (fun ls hl => ?_)
      refine lv_aload_n S.1 S.2.1 dX7_conductorOf_29 rfl (lv_at hl 1 rfl) ?_
      refine gf_5_3 S hK hP hth mw_1_188 dX7_conductorOf_30 ?_
      refine lv_aload_n S.1 S.2.1 dX7_conductorOf_33 rfl (lv_at hl 2 rfl) ?_
      refine lv_iload S.1 S.2.1 dX7_conductorOf_34 (lv_at hl 0 rfl) ?_
      obtain ⟨z4, ez4, h⟩ := ob_s h
      refine pm_cVv (As := [.ref l1, .int v3]) (rest := []) S hK hX hP hS (c_X1_reckon l ev z E (E_5_3 E hth) hl1 (rf ev 103 th) l1 v3 z4 ez4) vm_X1_reckon mw_2_134 (rc_1 hK hP (E_5_3 E hth)) ⟨⟨rfl, rfl⟩, by decide, by decide⟩ rfl hl.1 rfl (Nat.le_of_ble_eq_true rfl) ⟨Nat.zero_le _, Nat.zero_le _⟩ dX7_conductorOf_36 (fun H locs hP hS => ?_)
      refine lv_lload_n S.1 S.2.1 dX7_conductorOf_39 rfl (lv_at hl 4 rfl) ?_
      refine lv_iload S.1 S.2.1 dX7_conductorOf_40 (lv_at hl 0 rfl) ?_
      refine lv_i2l S.1 S.2.1 dX7_conductorOf_42 rfl ?_
      refine lv_aload_n S.1 S.2.1 dX7_conductorOf_43 rfl (lv_at hl 1 rfl) ?_
      refine gf_5_3 S hK hP hth mw_1_188 dX7_conductorOf_44 ?_
      refine gf_1_2 S hK hP (E_5_3 E hth) mw_1_138 dX7_conductorOf_47 ?_
      obtain ⟨v5, ev5, h⟩ := ob_s h
      refine pm_cS (As := [.long (v3.toInt64), .int (r32 z4 22 (rf ev 103 th))]) (rest := [.long l3]) S (c_X4_power l (v3.toInt64) (r32 z4 22 (rf ev 103 th)) v5 ev5) sm_X4_power mw_2_77 ⟨⟨rfl, rfl⟩, by decide, by decide⟩ rfl hl.1 rfl (Nat.le_of_ble_eq_true rfl) ⟨Nat.zero_le _, Nat.zero_le _⟩ dX7_conductorOf_50 ?_
      refine lv_lmul S.1 S.2.1 dX7_conductorOf_53 ?_
      obtain ⟨v6, ev6, h⟩ := bd_s h
      refine pm_nmL ev6 ?_
      refine lv_lstore_n (lv' := [(3, .long v6), (8, .int v3), (0, .ref th), (1, .ref l1), (2, .ref l2), (5, .ref (rf ev 901 0)), (6, .int l6), (7, .int l7)]) S.1 S.2.1 dX7_conductorOf_54 rfl hl (by decide) rfl (fun ls hl => ?_)
      obtain ⟨v7, ev7, h⟩ := bd_s h
      refine lv_iinc (v := v7) (lv' := [(7, .int v7), (3, .long v6), (8, .int v3), (0, .ref th), (1, .ref l1), (2, .ref l2), (5, .ref (rf ev 901 0)), (6, .int l6)]) S.1 S.2.1 dX7_conductorOf_55 hl (k := 7) rfl (by rw [ev7]; rfl) (by decide) rfl (fun ls hl => ?_)
      refine lv_goto (tgt := 15) S.1 S.2.1 dX7_conductorOf_58 (by decide) ?_
      exact ih v6 l6 v7 z4 ls _ _ h (lv_sub hl [3, 4, 5, 1, 6, 7, 0] rfl) hP hS
def g_X7_conductorOf (ev : EV) (z : PS) (th : Nat) (l1 : Nat) (l2 : Nat) : Option (Int64 × PS) := q_X7_conductorOf_15 ev th l1 l2 FU (1 : Int64) (4 : Int32) (0 : Int32) z
set_option maxRecDepth 20000 in
set_option maxHeartbeats 4000000 in
theorem c_X7_conductorOf (l : Launch) (ev : EV) (z : PS) (E : EWF ev) {th : Nat} (hth : isK ev 5 th) {l1 : Nat} (hl1 : isK ev 0 l1) {l2 : Nat} (hl2 : isK ev 3 l2) (th_ : Nat) (l1_ : Nat) (l2_ : Nat) (r : Int64) (z9 : PS) (h : g_X7_conductorOf ev z th l1 l2 = some (r, z9)) : Met l yX7_conductorOf (pWs yX7_conductorOf cX7_conductorOf 9 (some .long)) (pR 4 162) (va_Pc [.ref th, .ref l1, .ref l2] (pPe ev z)) (pQl ev r z9) 0 0 (eA ev) := by
  refine pm_of (by decide) (Nat.le_of_ble_eq_true rfl) ?_
  intro p e s m below meth c S hr hlk hv ls hl
  obtain ⟨hP, hK, hX⟩ := hv
  have hS : SS ev s s.heap [] := va_S.rf
  have hl : lv_has ls 9 [(0, .ref th), (1, .ref l1), (2, .ref l2)] := hl
  unfold g_X7_conductorOf at h
  refine lv_lconst (v := 1) S.1 S.2.1 dX7_conductorOf_0 (by decide) ?_
  refine lv_lstore_n (lv' := [(3, .long (1 : Int64)), (0, .ref th), (1, .ref l1), (2, .ref l2)]) S.1 S.2.1 dX7_conductorOf_1 rfl hl (by decide) rfl (fun ls hl => ?_)
  refine va_gets S.1 S.2.1 hX.2.2.1.1 hS S.2.2.2.1 (S.2.2.2.2 _ mw_3_27) (fun x h9 => h9) dX7_conductorOf_2 ?_
  refine lv_astore (lv' := [(5, .ref (rf ev 901 0)), (3, .long (1 : Int64)), (0, .ref th), (1, .ref l1), (2, .ref l2)]) S.1 S.2.1 dX7_conductorOf_5 hl (by decide) rfl (fun ls hl => ?_)
  refine lv_aload S.1 S.2.1 dX7_conductorOf_7 (lv_at hl 0 rfl) ?_
  refine va_tlen (v := 4) S.1 S.2.1 hX.2.2.1.2 hS (by decide) dX7_conductorOf_9 ?_
  refine lv_istore (lv' := [(6, .int (4 : Int32)), (5, .ref (rf ev 901 0)), (3, .long (1 : Int64)), (0, .ref th), (1, .ref l1), (2, .ref l2)]) S.1 S.2.1 dX7_conductorOf_10 hl (by decide) rfl (fun ls hl => ?_)
  refine lv_iconst (v := 0) S.1 S.2.1 dX7_conductorOf_12 (by decide) ?_
  refine lv_istore (lv' := [(7, .int (0 : Int32)), (6, .int (4 : Int32)), (5, .ref (rf ev 901 0)), (3, .long (1 : Int64)), (0, .ref th), (1, .ref l1), (2, .ref l2)]) S.1 S.2.1 dX7_conductorOf_13 hl (by decide) rfl (fun ls hl => ?_)
  exact w_X7_conductorOf_15 S hr hlk E hK hX hth hl1 hl2 FU (1 : Int64) (4 : Int32) (0 : Int32) z ls _ _ h (lv_sub hl [4, 5, 6, 3, 2, 1, 0] rfl) hP hS
theorem vm_X7_conductorOf : pm_Vm yX7_conductorOf cX7_conductorOf 9 (some .long) 2 := ⟨mw_3_26, mw_3_25, ms_349, mw_1_1, by decide, by decide⟩
def g_X7_conductor (ev : EV) (z : PS) (th : Nat) (l1 : Int32) : Option (Int64 × PS) := ob (g_X7_there ev z th l1) (fun v1 => if v1 = 0 then (some ((0 : Int64), z)) else (ck (inB l1 16) (ck (inB l1 16) (ob (g_X2_primesOfDisc ev z (rh ev (rf ev 100 th) l1.toNatClampNeg)) (fun z5 => ob (g_X7_conductorOf ev z5 th (rf ev 41 (rh ev (rf ev 100 th) l1.toNatClampNeg)) (rf ev 43 (rh ev (rf ev 100 th) l1.toNatClampNeg))) (fun qv7 => bd qv7.1 (fun v7 => bd qv7.2 (fun z6 => some (v7, z6)))))))))
set_option maxRecDepth 20000 in
set_option maxHeartbeats 4000000 in
theorem c_X7_conductor (l : Launch) (ev : EV) (z : PS) (E : EWF ev) {th : Nat} (hth : isK ev 5 th) (th_ : Nat) (l1 : Int32) (r : Int64) (z9 : PS) (h : g_X7_conductor ev z th l1 = some (r, z9)) : Met l yX7_conductor (pWs yX7_conductor cX7_conductor 2 (some .long)) (pR 5 202) (va_Pc [.ref th, .int l1] (pPe ev z)) (pQl ev r z9) 0 0 (eA ev) := by
  refine pm_of (by decide) (Nat.le_of_ble_eq_true rfl) ?_
  intro p e s m below meth c S hr hlk hv ls hl
  obtain ⟨hP, hK, hX⟩ := hv
  have hS : SS ev s s.heap [] := va_S.rf
  have hl : lv_has ls 2 [(0, .ref th), (1, .int l1)] := hl
  unfold g_X7_conductor at h
  refine lv_aload_n S.1 S.2.1 dX7_conductor_0 rfl (lv_at hl 0 rfl) ?_
  refine lv_iload_n S.1 S.2.1 dX7_conductor_1 rfl (lv_at hl 1 rfl) ?_
  obtain ⟨v1, ev1, h⟩ := ob_s h
  refine pm_cVr (As := [.int l1]) (rest := []) S hK hX hP hS (c_X7_there l ev z E hth th l1 v1 ev1) vm_X7_there mw_2_59 (rc_5 hK hP hth) ⟨⟨rfl, rfl⟩, by decide, by decide⟩ rfl hl.1 rfl (Nat.le_of_ble_eq_true rfl) ⟨Nat.zero_le _, Nat.zero_le _⟩ dX7_conductor_2 ?_
  refine lv_if_eq (tgt := 33) S.1 S.2.1 dX7_conductor_5 (by decide) (fun c2 => ?_) (fun c2 => ?_)
  · rw [if_pos c2] at h
    refine lv_lconst (v := 0) S.1 S.2.1 dX7_conductor_33 (by decide) ?_
    have h9 := Option.some.inj h
    exact pm_lretW S hr hlk hP hS (congrArg Prod.fst h9) (congrArg Prod.snd h9) dX7_conductor_34
  · rw [if_neg c2] at h
    refine lv_aload_n S.1 S.2.1 dX7_conductor_8 rfl (lv_at hl 0 rfl) ?_
    refine lv_aload_n S.1 S.2.1 dX7_conductor_9 rfl (lv_at hl 0 rfl) ?_
    refine gf_5_0 S hK hP hth mw_1_185 dX7_conductor_10 ?_
    refine lv_iload_n S.1 S.2.1 dX7_conductor_13 rfl (lv_at hl 1 rfl) ?_
    obtain ⟨hc3, h⟩ := ck_s h
    refine al_H S hK hP (E_5_0 E hth) (by rw [N_5_0 E hth]; exact hc3) dX7_conductor_14 ?_
    refine gf_2_1 S hK hP (E_h E (E_5_0 E hth) (inB_lt hc3)) mw_1_108 dX7_conductor_15 ?_
    refine lv_aload_n S.1 S.2.1 dX7_conductor_18 rfl (lv_at hl 0 rfl) ?_
    refine gf_5_0 S hK hP hth mw_1_185 dX7_conductor_19 ?_
    refine lv_iload_n S.1 S.2.1 dX7_conductor_22 rfl (lv_at hl 1 rfl) ?_
    obtain ⟨hc4, h⟩ := ck_s h
    refine al_H S hK hP (E_5_0 E hth) (by rw [N_5_0 E hth]; exact hc4) dX7_conductor_23 ?_
    obtain ⟨z5, ez5, h⟩ := ob_s h
    refine pm_cVa (As := []) (rest := [.ref (rf ev 41 (rh ev (rf ev 100 th) l1.toNatClampNeg)), .ref th]) S hK hX hP hS (c_X2_primesOfDisc l ev z E (E_h E (E_5_0 E hth) (inB_lt hc4)) (rh ev (rf ev 100 th) l1.toNatClampNeg) z5 ez5) vm_X2_primesOfDisc mw_2_233 (rc_2 hK hP (E_h E (E_5_0 E hth) (inB_lt hc4))) ⟨⟨rfl, rfl⟩, by decide, by decide⟩ rfl hl.1 rfl (Nat.le_of_ble_eq_true rfl) ⟨Nat.zero_le _, Nat.zero_le _⟩ dX7_conductor_24 (fun H locs hP hS => ?_)
    obtain ⟨qv7, ev7, h⟩ := ob_s h
    obtain ⟨v7, fv7, h⟩ := bd_s h
    obtain ⟨z6, fz6, h⟩ := bd_s h
    have ev7 : g_X7_conductorOf ev z5 th (rf ev 41 (rh ev (rf ev 100 th) l1.toNatClampNeg)) (rf ev 43 (rh ev (rf ev 100 th) l1.toNatClampNeg)) = some (v7, z6) := by rw [fv7, fz6]; exact ev7
    refine pm_cVl (As := [.ref (rf ev 41 (rh ev (rf ev 100 th) l1.toNatClampNeg)), .ref (rf ev 43 (rh ev (rf ev 100 th) l1.toNatClampNeg))]) (rest := []) S hK hX hP hS (c_X7_conductorOf l ev z5 E hth (E_2_1 E (E_h E (E_5_0 E hth) (inB_lt hc4))) (E_2_3 E (E_h E (E_5_0 E hth) (inB_lt hc4))) th (rf ev 41 (rh ev (rf ev 100 th) l1.toNatClampNeg)) (rf ev 43 (rh ev (rf ev 100 th) l1.toNatClampNeg)) v7 z6 ev7) vm_X7_conductorOf mw_3_23 (rc_5 hK hP hth) ⟨⟨rfl, rfl⟩, by decide, by decide⟩ rfl hl.1 rfl (Nat.le_of_ble_eq_true rfl) ⟨Nat.zero_le _, Nat.zero_le _⟩ dX7_conductor_27 (fun H locs hP hS => ?_)
    refine lv_goto (tgt := 34) S.1 S.2.1 dX7_conductor_30 (by decide) ?_
    have h9 := Option.some.inj h
    exact pm_lretW S hr hlk hP hS (congrArg Prod.fst h9) (congrArg Prod.snd h9) dX7_conductor_34
theorem vm_X7_conductor : pm_Vm yX7_conductor cX7_conductor 2 (some .long) 1 := ⟨mw_3_22, mw_3_20, mw_3_21, mw_1_1, by decide, by decide⟩
def g_X7_one (ev : EV) (z : PS) (th : Nat) (l1 : Int32) (l2 : Int32) : Option Int32 := ob (g_X7_there ev z th l1) (fun v1 => if v1 = 0 then (some (0 : Int32)) else (ob (g_X7_there ev z th l2) (fun v3 => if v3 = 0 then (some (0 : Int32)) else (ck (inB l1 16) (ck (inB l2 16) (ob (g_X0_isSameAs ev z (rf ev 41 (rh ev (rf ev 100 th) l1.toNatClampNeg)) (rf ev 41 (rh ev (rf ev 100 th) l2.toNatClampNeg))) (fun v7 => if v7 = 0 then (some (0 : Int32)) else (some (1 : Int32)))))))))
set_option maxRecDepth 20000 in
set_option maxHeartbeats 4000000 in
theorem c_X7_one (l : Launch) (ev : EV) (z : PS) (E : EWF ev) {th : Nat} (hth : isK ev 5 th) (th_ : Nat) (l1 : Int32) (l2 : Int32) (r : Int32) (h : g_X7_one ev z th l1 l2 = some r) : Met l yX7_one (pWs yX7_one cX7_one 3 (some .boolean)) (pR 1 33) (va_Pc [.ref th, .int l1, .int l2] (pPe ev z)) (k2_QcV (.int r)) 0 0 (fun _ => False) := by
  refine pm_of (by decide) (Nat.le_of_ble_eq_true rfl) ?_
  intro p e s m below meth c S hr hlk hv ls hl
  obtain ⟨hP, hK, hX⟩ := hv
  have hl : lv_has ls 3 [(0, .ref th), (1, .int l1), (2, .int l2)] := hl
  unfold g_X7_one at h
  refine lv_aload_n S.1 S.2.1 dX7_one_0 rfl (lv_at hl 0 rfl) ?_
  refine lv_iload_n S.1 S.2.1 dX7_one_1 rfl (lv_at hl 1 rfl) ?_
  obtain ⟨v1, ev1, h⟩ := ob_s h
  refine pm_cVr (As := [.int l1]) (rest := []) S hK hX hP va_S.rf (c_X7_there l ev z E hth th l1 v1 ev1) vm_X7_there mw_2_59 (rc_5 hK hP hth) ⟨⟨rfl, rfl⟩, by decide, by decide⟩ rfl hl.1 rfl (Nat.le_of_ble_eq_true rfl) ⟨Nat.zero_le _, Nat.zero_le _⟩ dX7_one_2 ?_
  refine lv_if_eq (tgt := 44) S.1 S.2.1 dX7_one_5 (by decide) (fun c2 => ?_) (fun c2 => ?_)
  · rw [if_pos c2] at h
    refine lv_iconst (v := 0) S.1 S.2.1 dX7_one_44 (by decide) ?_
    exact pm_zretR S hr hlk (Or.inl rfl) (Option.some.inj h) dX7_one_45
  · rw [if_neg c2] at h
    refine lv_aload_n S.1 S.2.1 dX7_one_8 rfl (lv_at hl 0 rfl) ?_
    refine lv_iload_n S.1 S.2.1 dX7_one_9 rfl (lv_at hl 2 rfl) ?_
    obtain ⟨v3, ev3, h⟩ := ob_s h
    refine pm_cVr (As := [.int l2]) (rest := []) S hK hX hP va_S.rf (c_X7_there l ev z E hth th l2 v3 ev3) vm_X7_there mw_2_59 (rc_5 hK hP hth) ⟨⟨rfl, rfl⟩, by decide, by decide⟩ rfl hl.1 rfl (Nat.le_of_ble_eq_true rfl) ⟨Nat.zero_le _, Nat.zero_le _⟩ dX7_one_10 ?_
    refine lv_if_eq (tgt := 44) S.1 S.2.1 dX7_one_13 (by decide) (fun c4 => ?_) (fun c4 => ?_)
    · rw [if_pos c4] at h
      refine lv_iconst (v := 0) S.1 S.2.1 dX7_one_44 (by decide) ?_
      exact pm_zretR S hr hlk (Or.inl rfl) (Option.some.inj h) dX7_one_45
    · rw [if_neg c4] at h
      refine lv_aload_n S.1 S.2.1 dX7_one_16 rfl (lv_at hl 0 rfl) ?_
      refine gf_5_0 S hK hP hth mw_1_185 dX7_one_17 ?_
      refine lv_iload_n S.1 S.2.1 dX7_one_20 rfl (lv_at hl 1 rfl) ?_
      obtain ⟨hc5, h⟩ := ck_s h
      refine al_H S hK hP (E_5_0 E hth) (by rw [N_5_0 E hth]; exact hc5) dX7_one_21 ?_
      refine gf_2_1 S hK hP (E_h E (E_5_0 E hth) (inB_lt hc5)) mw_1_108 dX7_one_22 ?_
      refine lv_aload_n S.1 S.2.1 dX7_one_25 rfl (lv_at hl 0 rfl) ?_
      refine gf_5_0 S hK hP hth mw_1_185 dX7_one_26 ?_
      refine lv_iload_n S.1 S.2.1 dX7_one_29 rfl (lv_at hl 2 rfl) ?_
      obtain ⟨hc6, h⟩ := ck_s h
      refine al_H S hK hP (E_5_0 E hth) (by rw [N_5_0 E hth]; exact hc6) dX7_one_30 ?_
      refine gf_2_1 S hK hP (E_h E (E_5_0 E hth) (inB_lt hc6)) mw_1_108 dX7_one_31 ?_
      obtain ⟨v7, ev7, h⟩ := ob_s h
      refine pm_cVr (As := [.ref (rf ev 41 (rh ev (rf ev 100 th) l2.toNatClampNeg))]) (rest := []) S hK hX hP va_S.rf (c_X0_isSameAs l ev z E (E_2_1 E (E_h E (E_5_0 E hth) (inB_lt hc5))) (E_2_1 E (E_h E (E_5_0 E hth) (inB_lt hc6))) (rf ev 41 (rh ev (rf ev 100 th) l1.toNatClampNeg)) (rf ev 41 (rh ev (rf ev 100 th) l2.toNatClampNeg)) v7 ev7) vm_X0_isSameAs mw_3_33 (rc_0 hK hP (E_2_1 E (E_h E (E_5_0 E hth) (inB_lt hc5)))) ⟨⟨rfl, rfl⟩, by decide, by decide⟩ rfl hl.1 rfl (Nat.le_of_ble_eq_true rfl) ⟨Nat.zero_le _, Nat.zero_le _⟩ dX7_one_34 ?_
      refine lv_if_eq (tgt := 44) S.1 S.2.1 dX7_one_37 (by decide) (fun c8 => ?_) (fun c8 => ?_)
      · rw [if_pos c8] at h
        refine lv_iconst (v := 0) S.1 S.2.1 dX7_one_44 (by decide) ?_
        exact pm_zretR S hr hlk (Or.inl rfl) (Option.some.inj h) dX7_one_45
      · rw [if_neg c8] at h
        refine lv_iconst (v := 1) S.1 S.2.1 dX7_one_40 (by decide) ?_
        refine lv_goto (tgt := 45) S.1 S.2.1 dX7_one_41 (by decide) ?_
        exact pm_zretR S hr hlk (Or.inr rfl) (Option.some.inj h) dX7_one_45
theorem vm_X7_one : pm_Vm yX7_one cX7_one 3 (some .boolean) 2 := ⟨mw_3_32, mw_3_30, mw_3_31, mw_1_1, by decide, by decide⟩
def q_X7_pointsAtTwo_11 (ev : EV) (z : PS) (l0 : Nat) (k4 : (Int32 → Int32 → Option Int32)) : Nat → Int32 → Int32 → Int32 → Option Int32
  | 0, _, _, _ => none
  | n + 1, l1, l2, l3 => if (2 : Int32) ≤ l3 then (bd (l2 + (1 : Int32)) (fun v3 => k4 l1 v3)) else (ob (g_X0_slopeAt ev z l0 (l2.toInt64)) (fun v4 => bd ((((l3 * l3).toInt64) + (v4 * (l3.toInt64)))) (fun v5 => ob (g_X0_rightAt ev z l0 (l2.toInt64)) (fun v6 => ob (g_X4_rest (v5 - v6) (2 : Int64)) (fun v7 => if v7 = (0 : Int64) then (bd (l1 + (1 : Int32)) (fun v10 => bd (l3 + (1 : Int32)) (fun v11 => q_X7_pointsAtTwo_11 ev z l0 k4 n v10 l2 v11))) else (bd (l3 + (1 : Int32)) (fun v9 => q_X7_pointsAtTwo_11 ev z l0 k4 n l1 l2 v9)))))))
set_option maxRecDepth 20000 in
set_option maxHeartbeats 4000000 in
theorem w_X7_pointsAtTwo_11 {ev : EV} {z : PS} {l0 : Nat} {p : Program} {l : Launch} {e : Env} {s : State} {m : MethodId} {args : Array Value} {below : List Frame} {meth : Method} {c : Code} {r : Int32} (S : CallFix p m c cX7_pointsAtTwo 6 s args gT RX7) (hr : meth.sig.returnType = (some .int)) (hlk : meth.locks = false) (E : EWF ev) (hK : KK ev s) (hX : pXt ev s) (hP : Wd ev z s.heap) (hl0 : isK ev 0 l0) (k4 : (Int32 → Int32 → Option Int32)) (hk4 : ∀ (l1 : Int32) (l2 : Int32) (ls : Array Slot), k4 l1 l2 = some r → lv_has ls 6 [(0, .ref l0), (1, .int l1), (2, .int l2)] → W p l e (pR 1 37) s m args below meth c s.heap [] 0 0 (MQ below (k2_QcV (.int r)) args s 0 0 (fun _ => False)) (F0 m 4 ls [])) : ∀ (n : Nat), ∀ (l1 : Int32) (l2 : Int32) (l3 : Int32) (ls : Array Slot), q_X7_pointsAtTwo_11 ev z l0 k4 n l1 l2 l3 = some r → lv_has ls 6 [(0, .ref l0), (1, .int l1), (2, .int l2), (3, .int l3)] → W p l e (pR 1 37) s m args below meth c s.heap [] 0 0 (MQ below (k2_QcV (.int r)) args s 0 0 (fun _ => False)) (F0 m 11 ls []) := by
  intro n
  induction n with
  | zero => intro l1 l2 l3 ls h; cases h
  | succ n ih =>
    intro l1 l2 l3 ls h hl
    rw [q_X7_pointsAtTwo_11] at h
    refine lv_iload_n S.1 S.2.1 dX7_pointsAtTwo_11 rfl (lv_at hl 3 rfl) ?_
    refine lv_iconst (v := 2) S.1 S.2.1 dX7_pointsAtTwo_12 (by decide) ?_
    refine lv_icmp_ge (tgt := 61) S.1 S.2.1 dX7_pointsAtTwo_13 (by decide) (fun c2 => ?_) (fun c2 => ?_)
    · rw [if_pos c2] at h
      obtain ⟨v3, ev3, h⟩ := bd_s h
      refine lv_iinc (v := v3) (lv' := [(2, .int v3), (0, .ref l0), (1, .int l1), (3, .int l3)]) S.1 S.2.1 dX7_pointsAtTwo_61 hl (k := 2) rfl (by rw [ev3]; rfl) (by decide) rfl (fun ls hl => ?_)
      refine lv_goto (tgt := 4) S.1 S.2.1 dX7_pointsAtTwo_64 (by decide) ?_
      exact hk4 l1 v3 ls h (lv_sub hl [1, 2, 0] rfl)
    · rw [if_neg c2] at h
      refine lv_iload_n S.1 S.2.1 dX7_pointsAtTwo_16 rfl (lv_at hl 3 rfl) ?_
      refine lv_iload_n S.1 S.2.1 dX7_pointsAtTwo_17 rfl (lv_at hl 3 rfl) ?_
      refine lv_imul S.1 S.2.1 dX7_pointsAtTwo_18 ?_
      refine lv_i2l S.1 S.2.1 dX7_pointsAtTwo_19 rfl ?_
      refine lv_aload_n S.1 S.2.1 dX7_pointsAtTwo_20 rfl (lv_at hl 0 rfl) ?_
      refine lv_iload_n S.1 S.2.1 dX7_pointsAtTwo_21 rfl (lv_at hl 2 rfl) ?_
      refine lv_i2l S.1 S.2.1 dX7_pointsAtTwo_22 rfl ?_
      obtain ⟨v4, ev4, h⟩ := ob_s h
      refine pm_cVr (As := [.long (l2.toInt64)]) (rest := [.long ((l3 * l3).toInt64)]) S hK hX hP va_S.rf (c_X0_slopeAt l ev z E hl0 l0 (l2.toInt64) v4 ev4) vm_X0_slopeAt mw_3_51 (rc_0 hK hP hl0) ⟨⟨rfl, rfl⟩, by decide, by decide⟩ rfl hl.1 rfl (Nat.le_of_ble_eq_true rfl) ⟨Nat.zero_le _, Nat.zero_le _⟩ dX7_pointsAtTwo_23 ?_
      refine lv_iload_n S.1 S.2.1 dX7_pointsAtTwo_26 rfl (lv_at hl 3 rfl) ?_
      refine lv_i2l S.1 S.2.1 dX7_pointsAtTwo_27 rfl ?_
      refine lv_lmul S.1 S.2.1 dX7_pointsAtTwo_28 ?_
      refine lv_ladd S.1 S.2.1 dX7_pointsAtTwo_29 ?_
      obtain ⟨v5, ev5, h⟩ := bd_s h
      refine pm_nmL ev5 ?_
      refine lv_lstore (lv' := [(4, .long v5), (0, .ref l0), (1, .int l1), (2, .int l2), (3, .int l3)]) S.1 S.2.1 dX7_pointsAtTwo_30 hl (by decide) rfl (fun ls hl => ?_)
      refine lv_lload S.1 S.2.1 dX7_pointsAtTwo_32 (lv_at hl 0 rfl) ?_
      refine lv_aload_n S.1 S.2.1 dX7_pointsAtTwo_34 rfl (lv_at hl 1 rfl) ?_
      refine lv_iload_n S.1 S.2.1 dX7_pointsAtTwo_35 rfl (lv_at hl 3 rfl) ?_
      refine lv_i2l S.1 S.2.1 dX7_pointsAtTwo_36 rfl ?_
      obtain ⟨v6, ev6, h⟩ := ob_s h
      refine pm_cVr (As := [.long (l2.toInt64)]) (rest := [.long v5]) S hK hX hP va_S.rf (c_X0_rightAt l ev z E hl0 l0 (l2.toInt64) v6 ev6) vm_X0_rightAt mw_3_52 (rc_0 hK hP hl0) ⟨⟨rfl, rfl⟩, by decide, by decide⟩ rfl hl.1 rfl (Nat.le_of_ble_eq_true rfl) ⟨Nat.zero_le _, Nat.zero_le _⟩ dX7_pointsAtTwo_37 ?_
      refine lv_lsub S.1 S.2.1 dX7_pointsAtTwo_40 ?_
      refine pm_ldc2 S mw_3_53 dX7_pointsAtTwo_41 ?_
      obtain ⟨v7, ev7, h⟩ := ob_s h
      refine pm_cS (As := [.long (v5 - v6), .long (2 : Int64)]) (rest := []) S (c_X4_rest l (v5 - v6) (2 : Int64) v7 ev7) sm_X4_rest mw_3_54 ⟨⟨rfl, rfl⟩, by decide, by decide⟩ rfl hl.1 rfl (Nat.le_of_ble_eq_true rfl) ⟨Nat.zero_le _, Nat.zero_le _⟩ dX7_pointsAtTwo_44 ?_
      refine lv_lconst (v := 0) S.1 S.2.1 dX7_pointsAtTwo_47 (by decide) ?_
      refine pm_lne (tgt := 55) S dX7_pointsAtTwo_48 dX7_pointsAtTwo_49 (by decide) (fun c8 => ?_) (fun c8 => ?_)
      · rw [if_neg c8] at h
        obtain ⟨v9, ev9, h⟩ := bd_s h
        refine lv_iinc (v := v9) (lv' := [(3, .int v9), (4, .long v5), (0, .ref l0), (1, .int l1), (2, .int l2)]) S.1 S.2.1 dX7_pointsAtTwo_55 hl (k := 4) rfl (by rw [ev9]; rfl) (by decide) rfl (fun ls hl => ?_)
        refine lv_goto (tgt := 11) S.1 S.2.1 dX7_pointsAtTwo_58 (by decide) ?_
        exact ih l1 l2 v9 ls h (lv_sub hl [2, 3, 4, 0] rfl)
      · rw [if_pos c8] at h
        obtain ⟨v10, ev10, h⟩ := bd_s h
        refine lv_iinc (v := v10) (lv' := [(1, .int v10), (4, .long v5), (0, .ref l0), (2, .int l2), (3, .int l3)]) S.1 S.2.1 dX7_pointsAtTwo_52 hl (k := 2) rfl (by rw [ev10]; rfl) (by decide) rfl (fun ls hl => ?_)
        obtain ⟨v11, ev11, h⟩ := bd_s h
        refine lv_iinc (v := v11) (lv' := [(3, .int v11), (1, .int v10), (4, .long v5), (0, .ref l0), (2, .int l2)]) S.1 S.2.1 dX7_pointsAtTwo_55 hl (k := 4) rfl (by rw [ev11]; rfl) (by decide) rfl (fun ls hl => ?_)
        refine lv_goto (tgt := 11) S.1 S.2.1 dX7_pointsAtTwo_58 (by decide) ?_
        exact ih v10 l2 v11 ls h (lv_sub hl [3, 1, 4, 0] rfl)
def q_X7_pointsAtTwo_4 (ev : EV) (z : PS) (l0 : Nat) : Nat → Int32 → Int32 → Option Int32
  | 0, _, _ => none
  | n + 1, l1, l2 => if (2 : Int32) ≤ l2 then (some l1) else (q_X7_pointsAtTwo_11 ev z l0 (q_X7_pointsAtTwo_4 ev z l0 n) FU l1 l2 (0 : Int32))
set_option maxRecDepth 20000 in
set_option maxHeartbeats 4000000 in
theorem w_X7_pointsAtTwo_4 {ev : EV} {z : PS} {l0 : Nat} {p : Program} {l : Launch} {e : Env} {s : State} {m : MethodId} {args : Array Value} {below : List Frame} {meth : Method} {c : Code} {r : Int32} (S : CallFix p m c cX7_pointsAtTwo 6 s args gT RX7) (hr : meth.sig.returnType = (some .int)) (hlk : meth.locks = false) (E : EWF ev) (hK : KK ev s) (hX : pXt ev s) (hP : Wd ev z s.heap) (hl0 : isK ev 0 l0) : ∀ (n : Nat), ∀ (l1 : Int32) (l2 : Int32) (ls : Array Slot), q_X7_pointsAtTwo_4 ev z l0 n l1 l2 = some r → lv_has ls 6 [(0, .ref l0), (1, .int l1), (2, .int l2)] → W p l e (pR 1 37) s m args below meth c s.heap [] 0 0 (MQ below (k2_QcV (.int r)) args s 0 0 (fun _ => False)) (F0 m 4 ls []) := by
  intro n
  induction n with
  | zero => intro l1 l2 ls h; cases h
  | succ n ih =>
    intro l1 l2 ls h hl
    rw [q_X7_pointsAtTwo_4] at h
    refine lv_iload_n S.1 S.2.1 dX7_pointsAtTwo_4 rfl (lv_at hl 2 rfl) ?_
    refine lv_iconst (v := 2) S.1 S.2.1 dX7_pointsAtTwo_5 (by decide) ?_
    refine lv_icmp_ge (tgt := 67) S.1 S.2.1 dX7_pointsAtTwo_6 (by decide) (fun c1 => ?_) (fun c1 => ?_)
    · rw [if_pos c1] at h
      refine lv_iload_n S.1 S.2.1 dX7_pointsAtTwo_67 rfl (lv_at hl 1 rfl) ?_
      exact pm_iretR S hr hlk (Option.some.inj h) dX7_pointsAtTwo_68
    · rw [if_neg c1] at h
      refine lv_iconst (v := 0) S.1 S.2.1 dX7_pointsAtTwo_9 (by decide) ?_
      refine lv_istore_n (lv' := [(3, .int (0 : Int32)), (0, .ref l0), (1, .int l1), (2, .int l2)]) S.1 S.2.1 dX7_pointsAtTwo_10 rfl hl (by decide) rfl (fun ls hl => ?_)
      exact w_X7_pointsAtTwo_11 S hr hlk E hK hX hP hl0 (q_X7_pointsAtTwo_4 ev z l0 n) ih FU l1 l2 (0 : Int32) ls h (lv_sub hl [1, 2, 3, 0] rfl)
def g_X7_pointsAtTwo (ev : EV) (z : PS) (l0 : Nat) : Option Int32 := q_X7_pointsAtTwo_4 ev z l0 FU (1 : Int32) (0 : Int32)
set_option maxRecDepth 20000 in
set_option maxHeartbeats 4000000 in
theorem c_X7_pointsAtTwo (l : Launch) (ev : EV) (z : PS) (E : EWF ev) {l0 : Nat} (hl0 : isK ev 0 l0) (l0_ : Nat) (r : Int32) (h : g_X7_pointsAtTwo ev z l0 = some r) : Met l yX7_pointsAtTwo (pWs yX7_pointsAtTwo cX7_pointsAtTwo 6 (some .int)) (pR 1 37) (va_Pc [.ref l0] (pPe ev z)) (k2_QcV (.int r)) 0 0 (fun _ => False) := by
  refine pm_of (by decide) (Nat.le_of_ble_eq_true rfl) ?_
  intro p e s m below meth c S hr hlk hv ls hl
  obtain ⟨hP, hK, hX⟩ := hv
  have hl : lv_has ls 6 [(0, .ref l0)] := hl
  unfold g_X7_pointsAtTwo at h
  refine lv_iconst (v := 1) S.1 S.2.1 dX7_pointsAtTwo_0 (by decide) ?_
  refine lv_istore_n (lv' := [(1, .int (1 : Int32)), (0, .ref l0)]) S.1 S.2.1 dX7_pointsAtTwo_1 rfl hl (by decide) rfl (fun ls hl => ?_)
  refine lv_iconst (v := 0) S.1 S.2.1 dX7_pointsAtTwo_2 (by decide) ?_
  refine lv_istore_n (lv' := [(2, .int (0 : Int32)), (1, .int (1 : Int32)), (0, .ref l0)]) S.1 S.2.1 dX7_pointsAtTwo_3 rfl hl (by decide) rfl (fun ls hl => ?_)
  exact w_X7_pointsAtTwo_4 S hr hlk E hK hX hP hl0 FU (1 : Int32) (0 : Int32) ls h (lv_sub hl [2, 1, 0] rfl)
theorem sm_X7_pointsAtTwo : pm_Sm yX7_pointsAtTwo cX7_pointsAtTwo 6 (some .int) 1 := ⟨mw_3_50, mw_3_49, mw_1_1, by decide, by decide⟩
def q_X7_pointsOn_68 (ev : EV) (th : Nat) (l1 : Nat) : Nat → Int32 → Int32 → Int32 → PS → Option (Int32 × PS)
  | 0, _, _, _, _ => none
  | n + 1, l2, l3, l4, z => if l2 ≤ l4 then (some (l3, z)) else (ob (g_X0_discriminantAt ev z l1 (l4.toInt64)) (fun v15 => ob (g_X4_rest v15 (l2.toInt64)) (fun v16 => ck (inB (v16.toInt32) 199) (bd ((l3 + (rI z (rf ev 106 th) (v16.toInt32).toNatClampNeg))) (fun v18 => bd (l4 + (1 : Int32)) (fun v19 => q_X7_pointsOn_68 ev th l1 n l2 v18 v19 z))))))
set_option maxRecDepth 20000 in
set_option maxHeartbeats 4000000 in
theorem w_X7_pointsOn_68 {ev : EV} {th : Nat} {l1 : Nat} {p : Program} {l : Launch} {e : Env} {s : State} {m : MethodId} {args : Array Value} {below : List Frame} {meth : Method} {c : Code} {r : Int32} {z9 : PS} (S : CallFix p m c cX7_pointsOn 5 s args gT RX7) (hr : meth.sig.returnType = (some .int)) (hlk : meth.locks = false) (E : EWF ev) (hK : KK ev s) (hX : pXt ev s) (hth : isK ev 5 th) (hl1 : isK ev 0 l1) : ∀ (n : Nat), ∀ (l2 : Int32) (l3 : Int32) (l4 : Int32) (z : PS) (ls : Array Slot) (H : Heap) (locs : List Loc), q_X7_pointsOn_68 ev th l1 n l2 l3 l4 z = some (r, z9) → lv_has ls 5 [(0, .ref th), (1, .ref l1), (2, .int l2), (3, .int l3), (4, .int l4)] → Wd ev z H → SS ev s H locs → W p l e (pR 2 74) s m args below meth c H locs 0 0 (MQ below (pQi ev r z9) args s 0 0 (eA ev)) (F0 m 68 ls []) := by
  intro n
  induction n with
  | zero => intro l2 l3 l4 z ls H locs h; cases h
  | succ n ih =>
    intro l2 l3 l4 z ls H locs h hl hP hS
    rw [q_X7_pointsOn_68] at h
    refine lv_iload S.1 S.2.1 dX7_pointsOn_68 (lv_at hl 4 rfl) ?_
    refine lv_iload_n S.1 S.2.1 dX7_pointsOn_70 rfl (lv_at hl 2 rfl) ?_
    refine lv_icmp_ge (tgt := 101) S.1 S.2.1 dX7_pointsOn_71 (by decide) (fun c14 => ?_) (fun c14 => ?_)
    · rw [if_pos c14] at h
      refine lv_iload_n S.1 S.2.1 dX7_pointsOn_101 rfl (lv_at hl 3 rfl) ?_
      have h9 := Option.some.inj h
      exact pm_iretW S hr hlk hP hS (congrArg Prod.fst h9) (congrArg Prod.snd h9) dX7_pointsOn_102
    · rw [if_neg c14] at h
      refine lv_iload_n S.1 S.2.1 dX7_pointsOn_74 rfl (lv_at hl 3 rfl) ?_
      refine lv_aload_n S.1 S.2.1 dX7_pointsOn_75 rfl (lv_at hl 0 rfl) ?_
      refine gf_5_6 S hK hP hth mw_1_191 dX7_pointsOn_76 ?_
      refine lv_aload_n S.1 S.2.1 dX7_pointsOn_79 rfl (lv_at hl 1 rfl) ?_
      refine lv_iload S.1 S.2.1 dX7_pointsOn_80 (lv_at hl 4 rfl) ?_
      refine lv_i2l S.1 S.2.1 dX7_pointsOn_82 rfl ?_
      obtain ⟨v15, ev15, h⟩ := ob_s h
      refine pm_cVr (As := [.long (l4.toInt64)]) (rest := [.ref (rf ev 106 th), .int l3]) S hK hX hP hS (c_X0_discriminantAt l ev z E hl1 l1 (l4.toInt64) v15 ev15) vm_X0_discriminantAt mw_3_55 (rc_0 hK hP hl1) ⟨⟨rfl, rfl⟩, by decide, by decide⟩ rfl hl.1 rfl (Nat.le_of_ble_eq_true rfl) ⟨Nat.zero_le _, Nat.zero_le _⟩ dX7_pointsOn_83 ?_
      refine lv_iload_n S.1 S.2.1 dX7_pointsOn_86 rfl (lv_at hl 2 rfl) ?_
      refine lv_i2l S.1 S.2.1 dX7_pointsOn_87 rfl ?_
      obtain ⟨v16, ev16, h⟩ := ob_s h
      refine pm_cS (As := [.long v15, .long (l2.toInt64)]) (rest := [.ref (rf ev 106 th), .int l3]) S (c_X4_rest l v15 (l2.toInt64) v16 ev16) sm_X4_rest mw_3_54 ⟨⟨rfl, rfl⟩, by decide, by decide⟩ rfl hl.1 rfl (Nat.le_of_ble_eq_true rfl) ⟨Nat.zero_le _, Nat.zero_le _⟩ dX7_pointsOn_88 ?_
      refine lv_l2i S.1 S.2.1 dX7_pointsOn_91 rfl ?_
      obtain ⟨hc17, h⟩ := ck_s h
      refine al_I S hK hP (E_5_6 E hth) (by rw [N_5_6 E hth]; exact hc17) dX7_pointsOn_92 ?_
      refine lv_iadd S.1 S.2.1 dX7_pointsOn_93 ?_
      obtain ⟨v18, ev18, h⟩ := bd_s h
      refine pm_nmI ev18 ?_
      refine lv_istore_n (lv' := [(3, .int v18), (0, .ref th), (1, .ref l1), (2, .int l2), (4, .int l4)]) S.1 S.2.1 dX7_pointsOn_94 rfl hl (by decide) rfl (fun ls hl => ?_)
      obtain ⟨v19, ev19, h⟩ := bd_s h
      refine lv_iinc (v := v19) (lv' := [(4, .int v19), (3, .int v18), (0, .ref th), (1, .ref l1), (2, .int l2)]) S.1 S.2.1 dX7_pointsOn_95 hl (k := 4) rfl (by rw [ev19]; rfl) (by decide) rfl (fun ls hl => ?_)
      refine lv_goto (tgt := 68) S.1 S.2.1 dX7_pointsOn_98 (by decide) ?_
      exact ih l2 v18 v19 z ls _ _ h (lv_sub hl [2, 3, 4, 1, 0] rfl) hP hS
def q_X7_pointsOn_32 (ev : EV) (th : Nat) (l1 : Nat) : Nat → Int32 → Int32 → PS → Option (Int32 × PS)
  | 0, _, _, _ => none
  | n + 1, l2, l3, z => if l2 ≤ l3 then (q_X7_pointsOn_68 ev th l1 FU l2 (1 : Int32) (0 : Int32) z) else (ob (g_X4_rest ((l3.toInt64) * (l3.toInt64)) (l2.toInt64)) (fun v8 => ck (inB (v8.toInt32) 199) (bd (((rI z (rf ev 106 th) (v8.toInt32).toNatClampNeg) + (1 : Int32))) (fun v10 => ck (inB (v8.toInt32) 199) (bd (wI z (rf ev 106 th) (v8.toInt32).toNatClampNeg v10) (fun z12 => bd (l3 + (1 : Int32)) (fun v13 => q_X7_pointsOn_32 ev th l1 n l2 v13 z12)))))))
set_option maxRecDepth 20000 in
set_option maxHeartbeats 4000000 in
theorem w_X7_pointsOn_32 {ev : EV} {th : Nat} {l1 : Nat} {p : Program} {l : Launch} {e : Env} {s : State} {m : MethodId} {args : Array Value} {below : List Frame} {meth : Method} {c : Code} {r : Int32} {z9 : PS} (S : CallFix p m c cX7_pointsOn 5 s args gT RX7) (hr : meth.sig.returnType = (some .int)) (hlk : meth.locks = false) (E : EWF ev) (hK : KK ev s) (hX : pXt ev s) (hth : isK ev 5 th) (hl1 : isK ev 0 l1) : ∀ (n : Nat), ∀ (l2 : Int32) (l3 : Int32) (z : PS) (ls : Array Slot) (H : Heap) (locs : List Loc), q_X7_pointsOn_32 ev th l1 n l2 l3 z = some (r, z9) → lv_has ls 5 [(0, .ref th), (1, .ref l1), (2, .int l2), (3, .int l3)] → Wd ev z H → SS ev s H locs → W p l e (pR 2 74) s m args below meth c H locs 0 0 (MQ below (pQi ev r z9) args s 0 0 (eA ev)) (F0 m 32 ls []) := by
  intro n
  induction n with
  | zero => intro l2 l3 z ls H locs h; cases h
  | succ n ih =>
    intro l2 l3 z ls H locs h hl hP hS
    rw [q_X7_pointsOn_32] at h
    refine lv_iload_n S.1 S.2.1 dX7_pointsOn_32 rfl (lv_at hl 3 rfl) ?_
    refine lv_iload_n S.1 S.2.1 dX7_pointsOn_33 rfl (lv_at hl 2 rfl) ?_
    refine lv_icmp_ge (tgt := 63) S.1 S.2.1 dX7_pointsOn_34 (by decide) (fun c7 => ?_) (fun c7 => ?_)
    · rw [if_pos c7] at h
      refine lv_iconst (v := 1) S.1 S.2.1 dX7_pointsOn_63 (by decide) ?_
      refine lv_istore_n (lv' := [(3, .int (1 : Int32)), (0, .ref th), (1, .ref l1), (2, .int l2)]) S.1 S.2.1 dX7_pointsOn_64 rfl hl (by decide) rfl (fun ls hl => ?_)
      refine lv_iconst (v := 0) S.1 S.2.1 dX7_pointsOn_65 (by decide) ?_
      refine lv_istore (lv' := [(4, .int (0 : Int32)), (3, .int (1 : Int32)), (0, .ref th), (1, .ref l1), (2, .int l2)]) S.1 S.2.1 dX7_pointsOn_66 hl (by decide) rfl (fun ls hl => ?_)
      exact w_X7_pointsOn_68 S hr hlk E hK hX hth hl1 FU l2 (1 : Int32) (0 : Int32) z ls _ _ h (lv_sub hl [2, 3, 4, 1, 0] rfl) hP hS
    · rw [if_neg c7] at h
      refine lv_aload_n S.1 S.2.1 dX7_pointsOn_37 rfl (lv_at hl 0 rfl) ?_
      refine gf_5_6 S hK hP hth mw_1_191 dX7_pointsOn_38 ?_
      refine lv_iload_n S.1 S.2.1 dX7_pointsOn_41 rfl (lv_at hl 3 rfl) ?_
      refine lv_i2l S.1 S.2.1 dX7_pointsOn_42 rfl ?_
      refine lv_iload_n S.1 S.2.1 dX7_pointsOn_43 rfl (lv_at hl 3 rfl) ?_
      refine lv_i2l S.1 S.2.1 dX7_pointsOn_44 rfl ?_
      refine lv_lmul S.1 S.2.1 dX7_pointsOn_45 ?_
      refine lv_iload_n S.1 S.2.1 dX7_pointsOn_46 rfl (lv_at hl 2 rfl) ?_
      refine lv_i2l S.1 S.2.1 dX7_pointsOn_47 rfl ?_
      obtain ⟨v8, ev8, h⟩ := ob_s h
      refine pm_cS (As := [.long ((l3.toInt64) * (l3.toInt64)), .long (l2.toInt64)]) (rest := [.ref (rf ev 106 th)]) S (c_X4_rest l ((l3.toInt64) * (l3.toInt64)) (l2.toInt64) v8 ev8) sm_X4_rest mw_3_54 ⟨⟨rfl, rfl⟩, by decide, by decide⟩ rfl hl.1 rfl (Nat.le_of_ble_eq_true rfl) ⟨Nat.zero_le _, Nat.zero_le _⟩ dX7_pointsOn_48 ?_
      refine lv_l2i S.1 S.2.1 dX7_pointsOn_51 rfl ?_
      refine lv_dup2_11 S.1 S.2.1 dX7_pointsOn_52 rfl rfl ?_
      obtain ⟨hc9, h⟩ := ck_s h
      refine al_I S hK hP (E_5_6 E hth) (by rw [N_5_6 E hth]; exact hc9) dX7_pointsOn_53 ?_
      refine lv_iconst (v := 1) S.1 S.2.1 dX7_pointsOn_54 (by decide) ?_
      refine lv_iadd S.1 S.2.1 dX7_pointsOn_55 ?_
      obtain ⟨v10, ev10, h⟩ := bd_s h
      refine pm_nmI ev10 ?_
      obtain ⟨hc11, h⟩ := ck_s h
      obtain ⟨z12, ez12, h⟩ := bd_s h
      refine as_I S E hK hP hS (E_5_6 E hth) (by rw [N_5_6 E hth]; exact hc11) dX7_pointsOn_56 (fun H locs hP hS => ?_)
      rw [← ez12] at hP
      obtain ⟨v13, ev13, h⟩ := bd_s h
      refine lv_iinc (v := v13) (lv' := [(3, .int v13), (0, .ref th), (1, .ref l1), (2, .int l2)]) S.1 S.2.1 dX7_pointsOn_57 hl (k := 3) rfl (by rw [ev13]; rfl) (by decide) rfl (fun ls hl => ?_)
      refine lv_goto (tgt := 32) S.1 S.2.1 dX7_pointsOn_60 (by decide) ?_
      exact ih l2 v13 z12 ls _ _ h (lv_sub hl [1, 2, 3, 0] rfl) hP hS
def q_X7_pointsOn_12 (ev : EV) (th : Nat) (l1 : Nat) : Nat → Int32 → Int32 → PS → Option (Int32 × PS)
  | 0, _, _, _ => none
  | n + 1, l2, l3, z => if l2 ≤ l3 then (q_X7_pointsOn_32 ev th l1 FU l2 (0 : Int32) z) else (ck (inB l3 199) (bd (wI z (rf ev 106 th) l3.toNatClampNeg (0 : Int32)) (fun z5 => bd (l3 + (1 : Int32)) (fun v6 => q_X7_pointsOn_12 ev th l1 n l2 v6 z5))))
set_option maxRecDepth 20000 in
set_option maxHeartbeats 4000000 in
theorem w_X7_pointsOn_12 {ev : EV} {th : Nat} {l1 : Nat} {p : Program} {l : Launch} {e : Env} {s : State} {m : MethodId} {args : Array Value} {below : List Frame} {meth : Method} {c : Code} {r : Int32} {z9 : PS} (S : CallFix p m c cX7_pointsOn 5 s args gT RX7) (hr : meth.sig.returnType = (some .int)) (hlk : meth.locks = false) (E : EWF ev) (hK : KK ev s) (hX : pXt ev s) (hth : isK ev 5 th) (hl1 : isK ev 0 l1) : ∀ (n : Nat), ∀ (l2 : Int32) (l3 : Int32) (z : PS) (ls : Array Slot) (H : Heap) (locs : List Loc), q_X7_pointsOn_12 ev th l1 n l2 l3 z = some (r, z9) → lv_has ls 5 [(0, .ref th), (1, .ref l1), (2, .int l2), (3, .int l3)] → Wd ev z H → SS ev s H locs → W p l e (pR 2 74) s m args below meth c H locs 0 0 (MQ below (pQi ev r z9) args s 0 0 (eA ev)) (F0 m 12 ls []) := by
  intro n
  induction n with
  | zero => intro l2 l3 z ls H locs h; cases h
  | succ n ih =>
    intro l2 l3 z ls H locs h hl hP hS
    rw [q_X7_pointsOn_12] at h
    refine lv_iload_n S.1 S.2.1 dX7_pointsOn_12 rfl (lv_at hl 3 rfl) ?_
    refine lv_iload_n S.1 S.2.1 dX7_pointsOn_13 rfl (lv_at hl 2 rfl) ?_
    refine lv_icmp_ge (tgt := 30) S.1 S.2.1 dX7_pointsOn_14 (by decide) (fun c3 => ?_) (fun c3 => ?_)
    · rw [if_pos c3] at h
      refine lv_iconst (v := 0) S.1 S.2.1 dX7_pointsOn_30 (by decide) ?_
      refine lv_istore_n (lv' := [(3, .int (0 : Int32)), (0, .ref th), (1, .ref l1), (2, .int l2)]) S.1 S.2.1 dX7_pointsOn_31 rfl hl (by decide) rfl (fun ls hl => ?_)
      exact w_X7_pointsOn_32 S hr hlk E hK hX hth hl1 FU l2 (0 : Int32) z ls _ _ h (lv_sub hl [1, 2, 3, 0] rfl) hP hS
    · rw [if_neg c3] at h
      refine lv_aload_n S.1 S.2.1 dX7_pointsOn_17 rfl (lv_at hl 0 rfl) ?_
      refine gf_5_6 S hK hP hth mw_1_191 dX7_pointsOn_18 ?_
      refine lv_iload_n S.1 S.2.1 dX7_pointsOn_21 rfl (lv_at hl 3 rfl) ?_
      refine lv_iconst (v := 0) S.1 S.2.1 dX7_pointsOn_22 (by decide) ?_
      obtain ⟨hc4, h⟩ := ck_s h
      obtain ⟨z5, ez5, h⟩ := bd_s h
      refine as_I S E hK hP hS (E_5_6 E hth) (by rw [N_5_6 E hth]; exact hc4) dX7_pointsOn_23 (fun H locs hP hS => ?_)
      rw [← ez5] at hP
      obtain ⟨v6, ev6, h⟩ := bd_s h
      refine lv_iinc (v := v6) (lv' := [(3, .int v6), (0, .ref th), (1, .ref l1), (2, .int l2)]) S.1 S.2.1 dX7_pointsOn_24 hl (k := 3) rfl (by rw [ev6]; rfl) (by decide) rfl (fun ls hl => ?_)
      refine lv_goto (tgt := 12) S.1 S.2.1 dX7_pointsOn_27 (by decide) ?_
      exact ih l2 v6 z5 ls _ _ h (lv_sub hl [1, 2, 3, 0] rfl) hP hS
def g_X7_pointsOn (ev : EV) (z : PS) (th : Nat) (l1 : Nat) (l2 : Int32) : Option (Int32 × PS) := if l2 = (2 : Int32) then (ob (g_X7_pointsAtTwo ev z l1) (fun v2 => some (v2, z))) else (q_X7_pointsOn_12 ev th l1 FU l2 (0 : Int32) z)
set_option maxRecDepth 20000 in
set_option maxHeartbeats 4000000 in
theorem c_X7_pointsOn (l : Launch) (ev : EV) (z : PS) (E : EWF ev) {th : Nat} (hth : isK ev 5 th) {l1 : Nat} (hl1 : isK ev 0 l1) (th_ : Nat) (l1_ : Nat) (l2 : Int32) (r : Int32) (z9 : PS) (h : g_X7_pointsOn ev z th l1 l2 = some (r, z9)) : Met l yX7_pointsOn (pWs yX7_pointsOn cX7_pointsOn 5 (some .int)) (pR 2 74) (va_Pc [.ref th, .ref l1, .int l2] (pPe ev z)) (pQi ev r z9) 0 0 (eA ev) := by
  refine pm_of (by decide) (Nat.le_of_ble_eq_true rfl) ?_
  intro p e s m below meth c S hr hlk hv ls hl
  obtain ⟨hP, hK, hX⟩ := hv
  have hS : SS ev s s.heap [] := va_S.rf
  have hl : lv_has ls 5 [(0, .ref th), (1, .ref l1), (2, .int l2)] := hl
  unfold g_X7_pointsOn at h
  refine lv_iload_n S.1 S.2.1 dX7_pointsOn_0 rfl (lv_at hl 2 rfl) ?_
  refine lv_iconst (v := 2) S.1 S.2.1 dX7_pointsOn_1 (by decide) ?_
  refine lv_icmp_ne (tgt := 10) S.1 S.2.1 dX7_pointsOn_2 (by decide) (fun c1 => ?_) (fun c1 => ?_)
  · rw [if_neg c1] at h
    refine lv_iconst (v := 0) S.1 S.2.1 dX7_pointsOn_10 (by decide) ?_
    refine lv_istore_n (lv' := [(3, .int (0 : Int32)), (0, .ref th), (1, .ref l1), (2, .int l2)]) S.1 S.2.1 dX7_pointsOn_11 rfl hl (by decide) rfl (fun ls hl => ?_)
    exact w_X7_pointsOn_12 S hr hlk E hK hX hth hl1 FU l2 (0 : Int32) z ls _ _ h (lv_sub hl [1, 2, 3, 0] rfl) hP hS
  · rw [if_pos c1] at h
    refine lv_aload_n S.1 S.2.1 dX7_pointsOn_5 rfl (lv_at hl 1 rfl) ?_
    obtain ⟨v2, ev2, h⟩ := ob_s h
    refine pm_cSr (As := [.ref l1]) (rest := []) S hK hX hP hS (c_X7_pointsAtTwo l ev z E hl1 l1 v2 ev2) sm_X7_pointsAtTwo mw_3_48 ⟨⟨rfl, rfl⟩, by decide, by decide⟩ rfl hl.1 rfl (Nat.le_of_ble_eq_true rfl) ⟨Nat.zero_le _, Nat.zero_le _⟩ dX7_pointsOn_6 ?_
    have h9 := Option.some.inj h
    exact pm_iretW S hr hlk hP hS (congrArg Prod.fst h9) (congrArg Prod.snd h9) dX7_pointsOn_9
theorem vm_X7_pointsOn : pm_Vm yX7_pointsOn cX7_pointsOn 5 (some .int) 2 := ⟨mw_3_47, mw_3_46, ms_379, mw_1_1, by decide, by decide⟩
def g_X7_points (ev : EV) (z : PS) (th : Nat) (l1 : Int32) (l2 : Int32) : Option (Int32 × PS) := ob (g_X7_there ev z th l1) (fun v1 => if v1 = 0 then (some ((-1 : Int32), z)) else (ob (g_X7_isCountedPrime l2) (fun v3 => if v3 = 0 then (some ((-1 : Int32), z)) else (ck (inB l1 16) (ob (g_X7_pointsOn ev z th (rf ev 40 (rh ev (rf ev 100 th) l1.toNatClampNeg)) l2) (fun qv7 => bd qv7.1 (fun v7 => bd qv7.2 (fun z6 => some (v7, z6)))))))))
set_option maxRecDepth 20000 in
set_option maxHeartbeats 4000000 in
theorem c_X7_points (l : Launch) (ev : EV) (z : PS) (E : EWF ev) {th : Nat} (hth : isK ev 5 th) (th_ : Nat) (l1 : Int32) (l2 : Int32) (r : Int32) (z9 : PS) (h : g_X7_points ev z th l1 l2 = some (r, z9)) : Met l yX7_points (pWs yX7_points cX7_points 3 (some .int)) (pR 3 110) (va_Pc [.ref th, .int l1, .int l2] (pPe ev z)) (pQi ev r z9) 0 0 (eA ev) := by
  refine pm_of (by decide) (Nat.le_of_ble_eq_true rfl) ?_
  intro p e s m below meth c S hr hlk hv ls hl
  obtain ⟨hP, hK, hX⟩ := hv
  have hS : SS ev s s.heap [] := va_S.rf
  have hl : lv_has ls 3 [(0, .ref th), (1, .int l1), (2, .int l2)] := hl
  unfold g_X7_points at h
  refine lv_aload_n S.1 S.2.1 dX7_points_0 rfl (lv_at hl 0 rfl) ?_
  refine lv_iload_n S.1 S.2.1 dX7_points_1 rfl (lv_at hl 1 rfl) ?_
  obtain ⟨v1, ev1, h⟩ := ob_s h
  refine pm_cVr (As := [.int l1]) (rest := []) S hK hX hP hS (c_X7_there l ev z E hth th l1 v1 ev1) vm_X7_there mw_2_59 (rc_5 hK hP hth) ⟨⟨rfl, rfl⟩, by decide, by decide⟩ rfl hl.1 rfl (Nat.le_of_ble_eq_true rfl) ⟨Nat.zero_le _, Nat.zero_le _⟩ dX7_points_2 ?_
  refine lv_if_eq (tgt := 15) S.1 S.2.1 dX7_points_5 (by decide) (fun c2 => ?_) (fun c2 => ?_)
  · rw [if_pos c2] at h
    refine lv_iconst (v := -1) S.1 S.2.1 dX7_points_15 (by decide) ?_
    have h9 := Option.some.inj h
    exact pm_iretW S hr hlk hP hS (congrArg Prod.fst h9) (congrArg Prod.snd h9) dX7_points_16
  · rw [if_neg c2] at h
    refine lv_iload_n S.1 S.2.1 dX7_points_8 rfl (lv_at hl 2 rfl) ?_
    obtain ⟨v3, ev3, h⟩ := ob_s h
    refine pm_cS (As := [.int l2]) (rest := []) S (c_X7_isCountedPrime l l2 v3 ev3) sm_X7_isCountedPrime mw_3_41 ⟨⟨rfl, rfl⟩, by decide, by decide⟩ rfl hl.1 rfl (Nat.le_of_ble_eq_true rfl) ⟨Nat.zero_le _, Nat.zero_le _⟩ dX7_points_9 ?_
    refine lv_if_ne (tgt := 17) S.1 S.2.1 dX7_points_12 (by decide) (fun c4 => ?_) (fun c4 => ?_)
    · rw [if_neg c4] at h
      refine lv_aload_n S.1 S.2.1 dX7_points_17 rfl (lv_at hl 0 rfl) ?_
      refine lv_aload_n S.1 S.2.1 dX7_points_18 rfl (lv_at hl 0 rfl) ?_
      refine gf_5_0 S hK hP hth mw_1_185 dX7_points_19 ?_
      refine lv_iload_n S.1 S.2.1 dX7_points_22 rfl (lv_at hl 1 rfl) ?_
      obtain ⟨hc5, h⟩ := ck_s h
      refine al_H S hK hP (E_5_0 E hth) (by rw [N_5_0 E hth]; exact hc5) dX7_points_23 ?_
      refine gf_2_0 S hK hP (E_h E (E_5_0 E hth) (inB_lt hc5)) mw_1_106 dX7_points_24 ?_
      refine lv_iload_n S.1 S.2.1 dX7_points_27 rfl (lv_at hl 2 rfl) ?_
      obtain ⟨qv7, ev7, h⟩ := ob_s h
      obtain ⟨v7, fv7, h⟩ := bd_s h
      obtain ⟨z6, fz6, h⟩ := bd_s h
      have ev7 : g_X7_pointsOn ev z th (rf ev 40 (rh ev (rf ev 100 th) l1.toNatClampNeg)) l2 = some (v7, z6) := by rw [fv7, fz6]; exact ev7
      refine pm_cVi (As := [.ref (rf ev 40 (rh ev (rf ev 100 th) l1.toNatClampNeg)), .int l2]) (rest := []) S hK hX hP hS (c_X7_pointsOn l ev z E hth (E_2_0 E (E_h E (E_5_0 E hth) (inB_lt hc5))) th (rf ev 40 (rh ev (rf ev 100 th) l1.toNatClampNeg)) l2 v7 z6 ev7) vm_X7_pointsOn mw_3_44 (rc_5 hK hP hth) ⟨⟨rfl, rfl⟩, by decide, by decide⟩ rfl hl.1 rfl (Nat.le_of_ble_eq_true rfl) ⟨Nat.zero_le _, Nat.zero_le _⟩ dX7_points_28 (fun H locs hP hS => ?_)
      have h9 := Option.some.inj h
      exact pm_iretW S hr hlk hP hS (congrArg Prod.fst h9) (congrArg Prod.snd h9) dX7_points_31
    · rw [if_pos c4] at h
      refine lv_iconst (v := -1) S.1 S.2.1 dX7_points_15 (by decide) ?_
      have h9 := Option.some.inj h
      exact pm_iretW S hr hlk hP hS (congrArg Prod.fst h9) (congrArg Prod.snd h9) dX7_points_16
theorem vm_X7_points : pm_Vm yX7_points cX7_points 3 (some .int) 2 := ⟨mw_3_40, mw_3_38, mw_3_39, mw_1_1, by decide, by decide⟩
def g_X7_trace (ev : EV) (z : PS) (th : Nat) (l1 : Int32) (l2 : Int32) : Option (Int32 × PS) := ob (g_X7_there ev z th l1) (fun v1 => if v1 = 0 then (some ((-1000 : Int32), z)) else (ob (g_X7_isCountedPrime l2) (fun v3 => if v3 = 0 then (some ((-1000 : Int32), z)) else (ck (inB l1 16) (ob (g_X1_reckon ev z (rf ev 103 th) (rf ev 41 (rh ev (rf ev 100 th) l1.toNatClampNeg)) l2) (fun z6 => if (r32 z6 20 (rf ev 103 th)) = 0 then (ob (g_X7_pointsOn ev z6 th (rf ev 41 (rh ev (rf ev 100 th) l1.toNatClampNeg)) l2) (fun qv11 => bd qv11.1 (fun v11 => bd qv11.2 (fun z10 => some (((l2 + (1 : Int32)) - v11), z10))))) else (if (r32 z6 20 (rf ev 103 th)) = (1 : Int32) then (if (r32 z6 26 (rf ev 103 th)) = 0 then (some ((-1 : Int32), z6)) else (some ((1 : Int32), z6))) else (some ((0 : Int32), z6)))))))))
set_option maxRecDepth 20000 in
set_option maxHeartbeats 4000000 in
theorem c_X7_trace (l : Launch) (ev : EV) (z : PS) (E : EWF ev) {th : Nat} (hth : isK ev 5 th) (th_ : Nat) (l1 : Int32) (l2 : Int32) (r : Int32) (z9 : PS) (h : g_X7_trace ev z th l1 l2 = some (r, z9)) : Met l yX7_trace (pWs yX7_trace cX7_trace 4 (some .int)) (pR 4 162) (va_Pc [.ref th, .int l1, .int l2] (pPe ev z)) (pQi ev r z9) 0 0 (eA ev) := by
  refine pm_of (by decide) (Nat.le_of_ble_eq_true rfl) ?_
  intro p e s m below meth c S hr hlk hv ls hl
  obtain ⟨hP, hK, hX⟩ := hv
  have hS : SS ev s s.heap [] := va_S.rf
  have hl : lv_has ls 4 [(0, .ref th), (1, .int l1), (2, .int l2)] := hl
  unfold g_X7_trace at h
  refine lv_aload_n S.1 S.2.1 dX7_trace_0 rfl (lv_at hl 0 rfl) ?_
  refine lv_iload_n S.1 S.2.1 dX7_trace_1 rfl (lv_at hl 1 rfl) ?_
  obtain ⟨v1, ev1, h⟩ := ob_s h
  refine pm_cVr (As := [.int l1]) (rest := []) S hK hX hP hS (c_X7_there l ev z E hth th l1 v1 ev1) vm_X7_there mw_2_59 (rc_5 hK hP hth) ⟨⟨rfl, rfl⟩, by decide, by decide⟩ rfl hl.1 rfl (Nat.le_of_ble_eq_true rfl) ⟨Nat.zero_le _, Nat.zero_le _⟩ dX7_trace_2 ?_
  refine lv_if_eq (tgt := 15) S.1 S.2.1 dX7_trace_5 (by decide) (fun c2 => ?_) (fun c2 => ?_)
  · rw [if_pos c2] at h
    refine lv_sipush (v := -1000) S.1 S.2.1 dX7_trace_15 (by decide) ?_
    have h9 := Option.some.inj h
    exact pm_iretW S hr hlk hP hS (congrArg Prod.fst h9) (congrArg Prod.snd h9) dX7_trace_18
  · rw [if_neg c2] at h
    refine lv_iload_n S.1 S.2.1 dX7_trace_8 rfl (lv_at hl 2 rfl) ?_
    obtain ⟨v3, ev3, h⟩ := ob_s h
    refine pm_cS (As := [.int l2]) (rest := []) S (c_X7_isCountedPrime l l2 v3 ev3) sm_X7_isCountedPrime mw_3_41 ⟨⟨rfl, rfl⟩, by decide, by decide⟩ rfl hl.1 rfl (Nat.le_of_ble_eq_true rfl) ⟨Nat.zero_le _, Nat.zero_le _⟩ dX7_trace_9 ?_
    refine lv_if_ne (tgt := 19) S.1 S.2.1 dX7_trace_12 (by decide) (fun c4 => ?_) (fun c4 => ?_)
    · rw [if_neg c4] at h
      refine lv_aload_n S.1 S.2.1 dX7_trace_19 rfl (lv_at hl 0 rfl) ?_
      refine gf_5_0 S hK hP hth mw_1_185 dX7_trace_20 ?_
      refine lv_iload_n S.1 S.2.1 dX7_trace_23 rfl (lv_at hl 1 rfl) ?_
      obtain ⟨hc5, h⟩ := ck_s h
      refine al_H S hK hP (E_5_0 E hth) (by rw [N_5_0 E hth]; exact hc5) dX7_trace_24 ?_
      refine gf_2_1 S hK hP (E_h E (E_5_0 E hth) (inB_lt hc5)) mw_1_108 dX7_trace_25 ?_
      refine lv_astore_n (lv' := [(3, .ref (rf ev 41 (rh ev (rf ev 100 th) l1.toNatClampNeg))), (0, .ref th), (1, .int l1), (2, .int l2)]) S.1 S.2.1 dX7_trace_28 rfl hl (by decide) rfl (fun ls hl => ?_)
      refine lv_aload_n S.1 S.2.1 dX7_trace_29 rfl (lv_at hl 1 rfl) ?_
      refine gf_5_3 S hK hP hth mw_1_188 dX7_trace_30 ?_
      refine lv_aload_n S.1 S.2.1 dX7_trace_33 rfl (lv_at hl 0 rfl) ?_
      refine lv_iload_n S.1 S.2.1 dX7_trace_34 rfl (lv_at hl 3 rfl) ?_
      obtain ⟨z6, ez6, h⟩ := ob_s h
      refine pm_cVv (As := [.ref (rf ev 41 (rh ev (rf ev 100 th) l1.toNatClampNeg)), .int l2]) (rest := []) S hK hX hP hS (c_X1_reckon l ev z E (E_5_3 E hth) (E_2_1 E (E_h E (E_5_0 E hth) (inB_lt hc5))) (rf ev 103 th) (rf ev 41 (rh ev (rf ev 100 th) l1.toNatClampNeg)) l2 z6 ez6) vm_X1_reckon mw_2_134 (rc_1 hK hP (E_5_3 E hth)) ⟨⟨rfl, rfl⟩, by decide, by decide⟩ rfl hl.1 rfl (Nat.le_of_ble_eq_true rfl) ⟨Nat.zero_le _, Nat.zero_le _⟩ dX7_trace_35 (fun H locs hP hS => ?_)
      refine lv_aload_n S.1 S.2.1 dX7_trace_38 rfl (lv_at hl 1 rfl) ?_
      refine gf_5_3 S hK hP hth mw_1_188 dX7_trace_39 ?_
      refine gf_1_0 S hK hP (E_5_3 E hth) mw_1_135 dX7_trace_42 ?_
      refine lv_if_ne (tgt := 59) S.1 S.2.1 dX7_trace_45 (by decide) (fun c7 => ?_) (fun c7 => ?_)
      · rw [if_neg c7] at h
        refine lv_aload_n S.1 S.2.1 dX7_trace_59 rfl (lv_at hl 1 rfl) ?_
        refine gf_5_3 S hK hP hth mw_1_188 dX7_trace_60 ?_
        refine gf_1_0 S hK hP (E_5_3 E hth) mw_1_135 dX7_trace_63 ?_
        refine lv_iconst (v := 1) S.1 S.2.1 dX7_trace_66 (by decide) ?_
        refine lv_icmp_ne (tgt := 86) S.1 S.2.1 dX7_trace_67 (by decide) (fun c8 => ?_) (fun c8 => ?_)
        · rw [if_neg c8] at h
          refine lv_iconst (v := 0) S.1 S.2.1 dX7_trace_86 (by decide) ?_
          have h9 := Option.some.inj h
          exact pm_iretW S hr hlk hP hS (congrArg Prod.fst h9) (congrArg Prod.snd h9) dX7_trace_87
        · rw [if_pos c8] at h
          refine lv_aload_n S.1 S.2.1 dX7_trace_70 rfl (lv_at hl 1 rfl) ?_
          refine gf_5_3 S hK hP hth mw_1_188 dX7_trace_71 ?_
          refine gf_1_6 S hK hP (E_5_3 E hth) mw_1_144 dX7_trace_74 ?_
          refine lv_if_eq (tgt := 84) S.1 S.2.1 dX7_trace_77 (by decide) (fun c9 => ?_) (fun c9 => ?_)
          · rw [if_pos c9] at h
            refine lv_iconst (v := -1) S.1 S.2.1 dX7_trace_84 (by decide) ?_
            have h9 := Option.some.inj h
            exact pm_iretW S hr hlk hP hS (congrArg Prod.fst h9) (congrArg Prod.snd h9) dX7_trace_85
          · rw [if_neg c9] at h
            refine lv_iconst (v := 1) S.1 S.2.1 dX7_trace_80 (by decide) ?_
            refine lv_goto (tgt := 85) S.1 S.2.1 dX7_trace_81 (by decide) ?_
            have h9 := Option.some.inj h
            exact pm_iretW S hr hlk hP hS (congrArg Prod.fst h9) (congrArg Prod.snd h9) dX7_trace_85
      · rw [if_pos c7] at h
        refine lv_iload_n S.1 S.2.1 dX7_trace_48 rfl (lv_at hl 3 rfl) ?_
        refine lv_iconst (v := 1) S.1 S.2.1 dX7_trace_49 (by decide) ?_
        refine lv_iadd S.1 S.2.1 dX7_trace_50 ?_
        refine lv_aload_n S.1 S.2.1 dX7_trace_51 rfl (lv_at hl 1 rfl) ?_
        refine lv_aload_n S.1 S.2.1 dX7_trace_52 rfl (lv_at hl 0 rfl) ?_
        refine lv_iload_n S.1 S.2.1 dX7_trace_53 rfl (lv_at hl 3 rfl) ?_
        obtain ⟨qv11, ev11, h⟩ := ob_s h
        obtain ⟨v11, fv11, h⟩ := bd_s h
        obtain ⟨z10, fz10, h⟩ := bd_s h
        have ev11 : g_X7_pointsOn ev z6 th (rf ev 41 (rh ev (rf ev 100 th) l1.toNatClampNeg)) l2 = some (v11, z10) := by rw [fv11, fz10]; exact ev11
        refine pm_cVi (As := [.ref (rf ev 41 (rh ev (rf ev 100 th) l1.toNatClampNeg)), .int l2]) (rest := [.int (l2 + (1 : Int32))]) S hK hX hP hS (c_X7_pointsOn l ev z6 E hth (E_2_1 E (E_h E (E_5_0 E hth) (inB_lt hc5))) th (rf ev 41 (rh ev (rf ev 100 th) l1.toNatClampNeg)) l2 v11 z10 ev11) vm_X7_pointsOn mw_3_44 (rc_5 hK hP hth) ⟨⟨rfl, rfl⟩, by decide, by decide⟩ rfl hl.1 rfl (Nat.le_of_ble_eq_true rfl) ⟨Nat.zero_le _, Nat.zero_le _⟩ dX7_trace_54 (fun H locs hP hS => ?_)
        refine lv_isub S.1 S.2.1 dX7_trace_57 ?_
        have h9 := Option.some.inj h
        exact pm_iretW S hr hlk hP hS (congrArg Prod.fst h9) (congrArg Prod.snd h9) dX7_trace_58
    · rw [if_pos c4] at h
      refine lv_sipush (v := -1000) S.1 S.2.1 dX7_trace_15 (by decide) ?_
      have h9 := Option.some.inj h
      exact pm_iretW S hr hlk hP hS (congrArg Prod.fst h9) (congrArg Prod.snd h9) dX7_trace_18
theorem vm_X7_trace : pm_Vm yX7_trace cX7_trace 4 (some .int) 2 := ⟨mw_3_64, mw_3_62, mw_3_63, mw_1_1, by decide, by decide⟩
def q_X7_own_27 (ev : EV) (th : Nat) : Nat → Int32 → Int64 → Int32 → PS → Option (Int64 × PS)
  | 0, _, _, _, _ => none
  | n + 1, l1, l3, l5, z => if (r32 z 61 (rf ev 43 (rh ev (rf ev 100 th) l1.toNatClampNeg))) ≤ l5 then (some (l3, z)) else (ck (inB l1 16) (ob (g_X5_get ev z (rf ev 43 (rh ev (rf ev 100 th) l1.toNatClampNeg)) l5) (fun v7 => ob (g_X1_reckon ev z (rf ev 103 th) (rf ev 41 (rh ev (rf ev 100 th) l1.toNatClampNeg)) v7) (fun z8 => bd ((l3 * ((r32 z8 24 (rf ev 103 th)).toInt64))) (fun v9 => bd (l5 + (1 : Int32)) (fun v10 => q_X7_own_27 ev th n l1 v9 v10 z8))))))
set_option maxRecDepth 20000 in
set_option maxHeartbeats 4000000 in
theorem w_X7_own_27 {ev : EV} {th : Nat} {p : Program} {l : Launch} {e : Env} {s : State} {m : MethodId} {args : Array Value} {below : List Frame} {meth : Method} {c : Code} {r : Int64} {z9 : PS} (S : CallFix p m c cX7_own 6 s args gT RX7) (hr : meth.sig.returnType = (some .long)) (hlk : meth.locks = false) (E : EWF ev) (hK : KK ev s) (hX : pXt ev s) (hth : isK ev 5 th) : ∀ (n : Nat), ∀ (l1 : Int32) (l3 : Int64) (l5 : Int32) (z : PS) (ls : Array Slot) (H : Heap) (locs : List Loc), q_X7_own_27 ev th n l1 l3 l5 z = some (r, z9) → lv_has ls 6 [(0, .ref th), (1, .int l1), (2, .ref (rf ev 43 (rh ev (rf ev 100 th) l1.toNatClampNeg))), (3, .long l3), (5, .int l5)] → isK ev 3 (rf ev 43 (rh ev (rf ev 100 th) l1.toNatClampNeg)) → Wd ev z H → SS ev s H locs → W p l e (pR 4 162) s m args below meth c H locs 0 0 (MQ below (pQl ev r z9) args s 0 0 (eA ev)) (F0 m 27 ls []) := by
  intro n
  induction n with
  | zero => intro l1 l3 l5 z ls H locs h; cases h
  | succ n ih =>
    intro l1 l3 l5 z ls H locs h hl hdy0 hP hS
    rw [q_X7_own_27] at h
    refine lv_iload S.1 S.2.1 dX7_own_27 (lv_at hl 4 rfl) ?_
    refine lv_aload_n S.1 S.2.1 dX7_own_29 rfl (lv_at hl 2 rfl) ?_
    refine gf_3_1 S hK hP hdy0 mw_1_98 dX7_own_30 ?_
    refine lv_icmp_ge (tgt := 75) S.1 S.2.1 dX7_own_33 (by decide) (fun c5 => ?_) (fun c5 => ?_)
    · rw [if_pos c5] at h
      refine lv_lload_n S.1 S.2.1 dX7_own_75 rfl (lv_at hl 3 rfl) ?_
      have h9 := Option.some.inj h
      exact pm_lretW S hr hlk hP hS (congrArg Prod.fst h9) (congrArg Prod.snd h9) dX7_own_76
    · rw [if_neg c5] at h
      refine lv_aload_n S.1 S.2.1 dX7_own_36 rfl (lv_at hl 0 rfl) ?_
      refine gf_5_3 S hK hP hth mw_1_188 dX7_own_37 ?_
      refine lv_aload_n S.1 S.2.1 dX7_own_40 rfl (lv_at hl 0 rfl) ?_
      refine gf_5_0 S hK hP hth mw_1_185 dX7_own_41 ?_
      refine lv_iload_n S.1 S.2.1 dX7_own_44 rfl (lv_at hl 1 rfl) ?_
      obtain ⟨hc6, h⟩ := ck_s h
      refine al_H S hK hP (E_5_0 E hth) (by rw [N_5_0 E hth]; exact hc6) dX7_own_45 ?_
      refine gf_2_1 S hK hP (E_h E (E_5_0 E hth) (inB_lt hc6)) mw_1_108 dX7_own_46 ?_
      refine lv_aload_n S.1 S.2.1 dX7_own_49 rfl (lv_at hl 2 rfl) ?_
      refine lv_iload S.1 S.2.1 dX7_own_50 (lv_at hl 4 rfl) ?_
      obtain ⟨v7, ev7, h⟩ := ob_s h
      refine pm_cVr (As := [.int l5]) (rest := [.ref (rf ev 41 (rh ev (rf ev 100 th) l1.toNatClampNeg)), .ref (rf ev 103 th)]) S hK hX hP hS (c_X5_get l ev z E hdy0 (rf ev 43 (rh ev (rf ev 100 th) l1.toNatClampNeg)) l5 v7 ev7) vm_X5_get mw_3_15 (rc_3 hK hP hdy0) ⟨⟨rfl, rfl⟩, by decide, by decide⟩ rfl hl.1 rfl (Nat.le_of_ble_eq_true rfl) ⟨Nat.zero_le _, Nat.zero_le _⟩ dX7_own_52 ?_
      obtain ⟨z8, ez8, h⟩ := ob_s h
      refine pm_cVv (As := [.ref (rf ev 41 (rh ev (rf ev 100 th) l1.toNatClampNeg)), .int v7]) (rest := []) S hK hX hP hS (c_X1_reckon l ev z E (E_5_3 E hth) (E_2_1 E (E_h E (E_5_0 E hth) (inB_lt hc6))) (rf ev 103 th) (rf ev 41 (rh ev (rf ev 100 th) l1.toNatClampNeg)) v7 z8 ez8) vm_X1_reckon mw_2_134 (rc_1 hK hP (E_5_3 E hth)) ⟨⟨rfl, rfl⟩, by decide, by decide⟩ rfl hl.1 rfl (Nat.le_of_ble_eq_true rfl) ⟨Nat.zero_le _, Nat.zero_le _⟩ dX7_own_55 (fun H locs hP hS => ?_)
      refine lv_lload_n S.1 S.2.1 dX7_own_58 rfl (lv_at hl 3 rfl) ?_
      refine lv_aload_n S.1 S.2.1 dX7_own_59 rfl (lv_at hl 0 rfl) ?_
      refine gf_5_3 S hK hP hth mw_1_188 dX7_own_60 ?_
      refine gf_1_4 S hK hP (E_5_3 E hth) mw_1_141 dX7_own_63 ?_
      refine lv_i2l S.1 S.2.1 dX7_own_66 rfl ?_
      refine lv_lmul S.1 S.2.1 dX7_own_67 ?_
      obtain ⟨v9, ev9, h⟩ := bd_s h
      refine pm_nmL ev9 ?_
      refine lv_lstore_n (lv' := [(3, .long v9), (0, .ref th), (1, .int l1), (2, .ref (rf ev 43 (rh ev (rf ev 100 th) l1.toNatClampNeg))), (5, .int l5)]) S.1 S.2.1 dX7_own_68 rfl hl (by decide) rfl (fun ls hl => ?_)
      obtain ⟨v10, ev10, h⟩ := bd_s h
      refine lv_iinc (v := v10) (lv' := [(5, .int v10), (3, .long v9), (0, .ref th), (1, .int l1), (2, .ref (rf ev 43 (rh ev (rf ev 100 th) l1.toNatClampNeg)))]) S.1 S.2.1 dX7_own_69 hl (k := 4) rfl (by rw [ev10]; rfl) (by decide) rfl (fun ls hl => ?_)
      refine lv_goto (tgt := 27) S.1 S.2.1 dX7_own_72 (by decide) ?_
      exact ih l1 v9 v10 z8 ls _ _ h (lv_sub hl [2, 3, 4, 1, 0] rfl) hdy0 hP hS
def g_X7_own (ev : EV) (z : PS) (th : Nat) (l1 : Int32) : Option (Int64 × PS) := ob (g_X7_there ev z th l1) (fun v1 => if v1 = 0 then (some ((-1 : Int64), z)) else (ck (inB l1 16) (ob (g_X2_primesOfDisc ev z (rh ev (rf ev 100 th) l1.toNatClampNeg)) (fun z4 => q_X7_own_27 ev th FU l1 (1 : Int64) (0 : Int32) z4))))
set_option maxRecDepth 20000 in
set_option maxHeartbeats 4000000 in
theorem c_X7_own (l : Launch) (ev : EV) (z : PS) (E : EWF ev) {th : Nat} (hth : isK ev 5 th) (th_ : Nat) (l1 : Int32) (r : Int64) (z9 : PS) (h : g_X7_own ev z th l1 = some (r, z9)) : Met l yX7_own (pWs yX7_own cX7_own 6 (some .long)) (pR 4 162) (va_Pc [.ref th, .int l1] (pPe ev z)) (pQl ev r z9) 0 0 (eA ev) := by
  refine pm_of (by decide) (Nat.le_of_ble_eq_true rfl) ?_
  intro p e s m below meth c S hr hlk hv ls hl
  obtain ⟨hP, hK, hX⟩ := hv
  have hS : SS ev s s.heap [] := va_S.rf
  have hl : lv_has ls 6 [(0, .ref th), (1, .int l1)] := hl
  unfold g_X7_own at h
  refine lv_aload_n S.1 S.2.1 dX7_own_0 rfl (lv_at hl 0 rfl) ?_
  refine lv_iload_n S.1 S.2.1 dX7_own_1 rfl (lv_at hl 1 rfl) ?_
  obtain ⟨v1, ev1, h⟩ := ob_s h
  refine pm_cVr (As := [.int l1]) (rest := []) S hK hX hP hS (c_X7_there l ev z E hth th l1 v1 ev1) vm_X7_there mw_2_59 (rc_5 hK hP hth) ⟨⟨rfl, rfl⟩, by decide, by decide⟩ rfl hl.1 rfl (Nat.le_of_ble_eq_true rfl) ⟨Nat.zero_le _, Nat.zero_le _⟩ dX7_own_2 ?_
  refine lv_if_ne (tgt := 12) S.1 S.2.1 dX7_own_5 (by decide) (fun c2 => ?_) (fun c2 => ?_)
  · rw [if_neg c2] at h
    refine lv_aload_n S.1 S.2.1 dX7_own_12 rfl (lv_at hl 0 rfl) ?_
    refine gf_5_0 S hK hP hth mw_1_185 dX7_own_13 ?_
    refine lv_iload_n S.1 S.2.1 dX7_own_16 rfl (lv_at hl 1 rfl) ?_
    obtain ⟨hc3, h⟩ := ck_s h
    refine al_H S hK hP (E_5_0 E hth) (by rw [N_5_0 E hth]; exact hc3) dX7_own_17 ?_
    obtain ⟨z4, ez4, h⟩ := ob_s h
    refine pm_cVa (As := []) (rest := []) S hK hX hP hS (c_X2_primesOfDisc l ev z E (E_h E (E_5_0 E hth) (inB_lt hc3)) (rh ev (rf ev 100 th) l1.toNatClampNeg) z4 ez4) vm_X2_primesOfDisc mw_2_233 (rc_2 hK hP (E_h E (E_5_0 E hth) (inB_lt hc3))) ⟨⟨rfl, rfl⟩, by decide, by decide⟩ rfl hl.1 rfl (Nat.le_of_ble_eq_true rfl) ⟨Nat.zero_le _, Nat.zero_le _⟩ dX7_own_18 (fun H locs hP hS => ?_)
    refine lv_astore_n (lv' := [(2, .ref (rf ev 43 (rh ev (rf ev 100 th) l1.toNatClampNeg))), (0, .ref th), (1, .int l1)]) S.1 S.2.1 dX7_own_21 rfl hl (by decide) rfl (fun ls hl => ?_)
    refine lv_lconst (v := 1) S.1 S.2.1 dX7_own_22 (by decide) ?_
    refine lv_lstore_n (lv' := [(3, .long (1 : Int64)), (2, .ref (rf ev 43 (rh ev (rf ev 100 th) l1.toNatClampNeg))), (0, .ref th), (1, .int l1)]) S.1 S.2.1 dX7_own_23 rfl hl (by decide) rfl (fun ls hl => ?_)
    refine lv_iconst (v := 0) S.1 S.2.1 dX7_own_24 (by decide) ?_
    refine lv_istore (lv' := [(5, .int (0 : Int32)), (3, .long (1 : Int64)), (2, .ref (rf ev 43 (rh ev (rf ev 100 th) l1.toNatClampNeg))), (0, .ref th), (1, .int l1)]) S.1 S.2.1 dX7_own_25 hl (by decide) rfl (fun ls hl => ?_)
    exact w_X7_own_27 S hr hlk E hK hX hth FU l1 (1 : Int64) (0 : Int32) z4 ls _ _ h (lv_sub hl [3, 4, 2, 1, 0] rfl) (E_2_3 E (E_h E (E_5_0 E hth) (inB_lt hc3))) hP hS
  · rw [if_pos c2] at h
    refine pm_ldc2 S mw_3_69 dX7_own_8 ?_
    have h9 := Option.some.inj h
    exact pm_lretW S hr hlk hP hS (congrArg Prod.fst h9) (congrArg Prod.snd h9) dX7_own_11
theorem vm_X7_own : pm_Vm yX7_own cX7_own 6 (some .long) 1 := ⟨mw_3_68, mw_3_66, mw_3_67, mw_1_1, by decide, by decide⟩
def g_X7_twistedConductor (ev : EV) (z : PS) (th : Nat) (l1 : Int32) (l2 : Int32) : Option (Int64 × PS) := if l2 = (1 : Int32) then (ck (inB l1 16) (ob (g_X0_take ev z (rf ev 102 th) (rf ev 41 (rh ev (rf ev 100 th) l1.toNatClampNeg))) (fun z8 => ck (inB l1 16) (ob (g_X2_primesOfDisc ev z8 (rh ev (rf ev 100 th) l1.toNatClampNeg)) (fun z10 => ob (g_X7_conductorOf ev z10 th (rf ev 102 th) (rf ev 43 (rh ev (rf ev 100 th) l1.toNatClampNeg))) (fun qv12 => bd qv12.1 (fun v12 => bd qv12.2 (fun z11 => some (v12, z11))))))))) else (ob (g_X7_draftTwist ev z th l1 l2) (fun z2 => ck (inB l1 16) (ob (g_X2_primesOfDisc ev z2 (rh ev (rf ev 100 th) l1.toNatClampNeg)) (fun z4 => ob (g_X7_conductorOf ev z4 th (rf ev 102 th) (rf ev 43 (rh ev (rf ev 100 th) l1.toNatClampNeg))) (fun qv6 => bd qv6.1 (fun v6 => bd qv6.2 (fun z5 => some (v6, z5))))))))
set_option maxRecDepth 20000 in
set_option maxHeartbeats 4000000 in
theorem c_X7_twistedConductor (l : Launch) (ev : EV) (z : PS) (E : EWF ev) {th : Nat} (hth : isK ev 5 th) (th_ : Nat) (l1 : Int32) (l2 : Int32) (r : Int64) (z9 : PS) (h : g_X7_twistedConductor ev z th l1 l2 = some (r, z9)) : Met l yX7_twistedConductor (pWs yX7_twistedConductor cX7_twistedConductor 3 (some .long)) (pR 5 202) (va_Pc [.ref th, .int l1, .int l2] (pPe ev z)) (pQl ev r z9) 0 0 (eA ev) := by
  refine pm_of (by decide) (Nat.le_of_ble_eq_true rfl) ?_
  intro p e s m below meth c S hr hlk hv ls hl
  obtain ⟨hP, hK, hX⟩ := hv
  have hS : SS ev s s.heap [] := va_S.rf
  have hl : lv_has ls 3 [(0, .ref th), (1, .int l1), (2, .int l2)] := hl
  unfold g_X7_twistedConductor at h
  refine lv_iload_n S.1 S.2.1 dX7_twistedConductor_0 rfl (lv_at hl 2 rfl) ?_
  refine lv_iconst (v := 1) S.1 S.2.1 dX7_twistedConductor_1 (by decide) ?_
  refine lv_icmp_ne (tgt := 24) S.1 S.2.1 dX7_twistedConductor_2 (by decide) (fun c1 => ?_) (fun c1 => ?_)
  · rw [if_neg c1] at h
    refine lv_aload_n S.1 S.2.1 dX7_twistedConductor_24 rfl (lv_at hl 0 rfl) ?_
    refine lv_iload_n S.1 S.2.1 dX7_twistedConductor_25 rfl (lv_at hl 1 rfl) ?_
    refine lv_iload_n S.1 S.2.1 dX7_twistedConductor_26 rfl (lv_at hl 2 rfl) ?_
    obtain ⟨z2, ez2, h⟩ := ob_s h
    refine pm_cVv (As := [.int l1, .int l2]) (rest := []) S hK hX hP hS (c_X7_draftTwist l ev z E hth th l1 l2 z2 ez2) vm_X7_draftTwist mw_2_112 (rc_5 hK hP hth) ⟨⟨rfl, rfl⟩, by decide, by decide⟩ rfl hl.1 rfl (Nat.le_of_ble_eq_true rfl) ⟨Nat.zero_le _, Nat.zero_le _⟩ dX7_twistedConductor_27 (fun H locs hP hS => ?_)
    refine lv_aload_n S.1 S.2.1 dX7_twistedConductor_30 rfl (lv_at hl 0 rfl) ?_
    refine lv_aload_n S.1 S.2.1 dX7_twistedConductor_31 rfl (lv_at hl 0 rfl) ?_
    refine gf_5_2 S hK hP hth mw_1_187 dX7_twistedConductor_32 ?_
    refine lv_aload_n S.1 S.2.1 dX7_twistedConductor_35 rfl (lv_at hl 0 rfl) ?_
    refine gf_5_0 S hK hP hth mw_1_185 dX7_twistedConductor_36 ?_
    refine lv_iload_n S.1 S.2.1 dX7_twistedConductor_39 rfl (lv_at hl 1 rfl) ?_
    obtain ⟨hc3, h⟩ := ck_s h
    refine al_H S hK hP (E_5_0 E hth) (by rw [N_5_0 E hth]; exact hc3) dX7_twistedConductor_40 ?_
    obtain ⟨z4, ez4, h⟩ := ob_s h
    refine pm_cVa (As := []) (rest := [.ref (rf ev 102 th), .ref th]) S hK hX hP hS (c_X2_primesOfDisc l ev z2 E (E_h E (E_5_0 E hth) (inB_lt hc3)) (rh ev (rf ev 100 th) l1.toNatClampNeg) z4 ez4) vm_X2_primesOfDisc mw_2_233 (rc_2 hK hP (E_h E (E_5_0 E hth) (inB_lt hc3))) ⟨⟨rfl, rfl⟩, by decide, by decide⟩ rfl hl.1 rfl (Nat.le_of_ble_eq_true rfl) ⟨Nat.zero_le _, Nat.zero_le _⟩ dX7_twistedConductor_41 (fun H locs hP hS => ?_)
    obtain ⟨qv6, ev6, h⟩ := ob_s h
    obtain ⟨v6, fv6, h⟩ := bd_s h
    obtain ⟨z5, fz5, h⟩ := bd_s h
    have ev6 : g_X7_conductorOf ev z4 th (rf ev 102 th) (rf ev 43 (rh ev (rf ev 100 th) l1.toNatClampNeg)) = some (v6, z5) := by rw [fv6, fz5]; exact ev6
    refine pm_cVl (As := [.ref (rf ev 102 th), .ref (rf ev 43 (rh ev (rf ev 100 th) l1.toNatClampNeg))]) (rest := []) S hK hX hP hS (c_X7_conductorOf l ev z4 E hth (E_5_2 E hth) (E_2_3 E (E_h E (E_5_0 E hth) (inB_lt hc3))) th (rf ev 102 th) (rf ev 43 (rh ev (rf ev 100 th) l1.toNatClampNeg)) v6 z5 ev6) vm_X7_conductorOf mw_3_23 (rc_5 hK hP hth) ⟨⟨rfl, rfl⟩, by decide, by decide⟩ rfl hl.1 rfl (Nat.le_of_ble_eq_true rfl) ⟨Nat.zero_le _, Nat.zero_le _⟩ dX7_twistedConductor_44 (fun H locs hP hS => ?_)
    have h9 := Option.some.inj h
    exact pm_lretW S hr hlk hP hS (congrArg Prod.fst h9) (congrArg Prod.snd h9) dX7_twistedConductor_47
  · rw [if_pos c1] at h
    refine lv_aload_n S.1 S.2.1 dX7_twistedConductor_5 rfl (lv_at hl 0 rfl) ?_
    refine gf_5_2 S hK hP hth mw_1_187 dX7_twistedConductor_6 ?_
    refine lv_aload_n S.1 S.2.1 dX7_twistedConductor_9 rfl (lv_at hl 0 rfl) ?_
    refine gf_5_0 S hK hP hth mw_1_185 dX7_twistedConductor_10 ?_
    refine lv_iload_n S.1 S.2.1 dX7_twistedConductor_13 rfl (lv_at hl 1 rfl) ?_
    obtain ⟨hc7, h⟩ := ck_s h
    refine al_H S hK hP (E_5_0 E hth) (by rw [N_5_0 E hth]; exact hc7) dX7_twistedConductor_14 ?_
    refine gf_2_1 S hK hP (E_h E (E_5_0 E hth) (inB_lt hc7)) mw_1_108 dX7_twistedConductor_15 ?_
    obtain ⟨z8, ez8, h⟩ := ob_s h
    refine pm_cVv (As := [.ref (rf ev 41 (rh ev (rf ev 100 th) l1.toNatClampNeg))]) (rest := []) S hK hX hP hS (c_X0_take l ev z E (E_5_2 E hth) (E_2_1 E (E_h E (E_5_0 E hth) (inB_lt hc7))) (rf ev 102 th) (rf ev 41 (rh ev (rf ev 100 th) l1.toNatClampNeg)) z8 ez8) vm_X0_take mw_2_63 (rc_0 hK hP (E_5_2 E hth)) ⟨⟨rfl, rfl⟩, by decide, by decide⟩ rfl hl.1 rfl (Nat.le_of_ble_eq_true rfl) ⟨Nat.zero_le _, Nat.zero_le _⟩ dX7_twistedConductor_18 (fun H locs hP hS => ?_)
    refine lv_goto (tgt := 30) S.1 S.2.1 dX7_twistedConductor_21 (by decide) ?_
    refine lv_aload_n S.1 S.2.1 dX7_twistedConductor_30 rfl (lv_at hl 0 rfl) ?_
    refine lv_aload_n S.1 S.2.1 dX7_twistedConductor_31 rfl (lv_at hl 0 rfl) ?_
    refine gf_5_2 S hK hP hth mw_1_187 dX7_twistedConductor_32 ?_
    refine lv_aload_n S.1 S.2.1 dX7_twistedConductor_35 rfl (lv_at hl 0 rfl) ?_
    refine gf_5_0 S hK hP hth mw_1_185 dX7_twistedConductor_36 ?_
    refine lv_iload_n S.1 S.2.1 dX7_twistedConductor_39 rfl (lv_at hl 1 rfl) ?_
    obtain ⟨hc9, h⟩ := ck_s h
    refine al_H S hK hP (E_5_0 E hth) (by rw [N_5_0 E hth]; exact hc9) dX7_twistedConductor_40 ?_
    obtain ⟨z10, ez10, h⟩ := ob_s h
    refine pm_cVa (As := []) (rest := [.ref (rf ev 102 th), .ref th]) S hK hX hP hS (c_X2_primesOfDisc l ev z8 E (E_h E (E_5_0 E hth) (inB_lt hc9)) (rh ev (rf ev 100 th) l1.toNatClampNeg) z10 ez10) vm_X2_primesOfDisc mw_2_233 (rc_2 hK hP (E_h E (E_5_0 E hth) (inB_lt hc9))) ⟨⟨rfl, rfl⟩, by decide, by decide⟩ rfl hl.1 rfl (Nat.le_of_ble_eq_true rfl) ⟨Nat.zero_le _, Nat.zero_le _⟩ dX7_twistedConductor_41 (fun H locs hP hS => ?_)
    obtain ⟨qv12, ev12, h⟩ := ob_s h
    obtain ⟨v12, fv12, h⟩ := bd_s h
    obtain ⟨z11, fz11, h⟩ := bd_s h
    have ev12 : g_X7_conductorOf ev z10 th (rf ev 102 th) (rf ev 43 (rh ev (rf ev 100 th) l1.toNatClampNeg)) = some (v12, z11) := by rw [fv12, fz11]; exact ev12
    refine pm_cVl (As := [.ref (rf ev 102 th), .ref (rf ev 43 (rh ev (rf ev 100 th) l1.toNatClampNeg))]) (rest := []) S hK hX hP hS (c_X7_conductorOf l ev z10 E hth (E_5_2 E hth) (E_2_3 E (E_h E (E_5_0 E hth) (inB_lt hc9))) th (rf ev 102 th) (rf ev 43 (rh ev (rf ev 100 th) l1.toNatClampNeg)) v12 z11 ev12) vm_X7_conductorOf mw_3_23 (rc_5 hK hP hth) ⟨⟨rfl, rfl⟩, by decide, by decide⟩ rfl hl.1 rfl (Nat.le_of_ble_eq_true rfl) ⟨Nat.zero_le _, Nat.zero_le _⟩ dX7_twistedConductor_44 (fun H locs hP hS => ?_)
    have h9 := Option.some.inj h
    exact pm_lretW S hr hlk hP hS (congrArg Prod.fst h9) (congrArg Prod.snd h9) dX7_twistedConductor_47
theorem vm_X7_twistedConductor : pm_Vm yX7_twistedConductor cX7_twistedConductor 3 (some .long) 2 := ⟨mw_3_77, mw_3_76, ms_397, mw_1_1, by decide, by decide⟩
def q_X7_best_35 (ev : EV) (th : Nat) : Nat → Int32 → Int32 → Int64 → Int32 → Int32 → PS → Option (Int32 × PS)
  | 0, _, _, _, _, _, _ => none
  | n + 1, l1, l2, l3, l6, l7, z => if l6 ≤ l7 then (some (l2, z)) else (ck (inB l7 14) (bd ((tw1 l7.toNatClampNeg)) (fun v7 => ob (g_X7_twistedConductor ev z th l1 v7) (fun qv9 => bd qv9.1 (fun v9 => bd qv9.2 (fun z8 => if l2 = 0 then (bd (l7 + (1 : Int32)) (fun v11 => q_X7_best_35 ev th n l1 v7 v9 l6 v11 z8)) else (if l3 ≤ v9 then (bd (l7 + (1 : Int32)) (fun v13 => q_X7_best_35 ev th n l1 l2 l3 l6 v13 z8)) else (bd (l7 + (1 : Int32)) (fun v14 => q_X7_best_35 ev th n l1 v7 v9 l6 v14 z8)))))))))
set_option maxRecDepth 20000 in
set_option maxHeartbeats 4000000 in
theorem w_X7_best_35 {ev : EV} {th : Nat} {p : Program} {l : Launch} {e : Env} {s : State} {m : MethodId} {args : Array Value} {below : List Frame} {meth : Method} {c : Code} {r : Int32} {z9 : PS} (S : CallFix p m c cX7_best 11 s args gT RX7) (hr : meth.sig.returnType = (some .int)) (hlk : meth.locks = false) (E : EWF ev) (hK : KK ev s) (hX : pXt ev s) (hth : isK ev 5 th) : ∀ (n : Nat), ∀ (l1 : Int32) (l2 : Int32) (l3 : Int64) (l6 : Int32) (l7 : Int32) (z : PS) (ls : Array Slot) (H : Heap) (locs : List Loc), q_X7_best_35 ev th n l1 l2 l3 l6 l7 z = some (r, z9) → lv_has ls 11 [(0, .ref th), (1, .int l1), (2, .int l2), (3, .long l3), (5, .ref (rf ev 900 0)), (6, .int l6), (7, .int l7)] → Wd ev z H → SS ev s H locs → W p l e (pR 6 236) s m args below meth c H locs 0 0 (MQ below (pQi ev r z9) args s 0 0 (eA ev)) (F0 m 35 ls []) := by
  intro n
  induction n with
  | zero => intro l1 l2 l3 l6 l7 z ls H locs h; cases h
  | succ n ih =>
    intro l1 l2 l3 l6 l7 z ls H locs h hl hP hS
    rw [q_X7_best_35] at h
    refine lv_iload S.1 S.2.1 dX7_best_35 (lv_at hl 6 rfl) ?_
    refine lv_iload S.1 S.2.1 dX7_best_37 (lv_at hl 5 rfl) ?_
    refine lv_icmp_ge (tgt := 81) S.1 S.2.1 dX7_best_39 (by decide) (fun c5 => ?_) (fun c5 => ?_)
    · rw [if_pos c5] at h
      refine lv_iload_n S.1 S.2.1 dX7_best_81 rfl (lv_at hl 2 rfl) ?_
      have h9 := Option.some.inj h
      exact pm_iretW S hr hlk hP hS (congrArg Prod.fst h9) (congrArg Prod.snd h9) dX7_best_82
    · rw [if_neg c5] at h
      refine lv_aload S.1 S.2.1 dX7_best_42 (lv_at hl 4 rfl) ?_
      refine lv_iload S.1 S.2.1 dX7_best_44 (lv_at hl 6 rfl) ?_
      obtain ⟨hc6, h⟩ := ck_s h
      refine va_ti S.1 S.2.1 hX.2.1.2 hS hc6 (v := .int (tw1 l7.toNatClampNeg)) rfl dX7_best_46 ?_
      obtain ⟨v7, ev7, h⟩ := bd_s h
      refine pm_nmI ev7 ?_
      refine lv_istore (lv' := [(8, .int v7), (0, .ref th), (1, .int l1), (2, .int l2), (3, .long l3), (5, .ref (rf ev 900 0)), (6, .int l6), (7, .int l7)]) S.1 S.2.1 dX7_best_47 hl (by decide) rfl (fun ls hl => ?_)
      refine lv_aload_n S.1 S.2.1 dX7_best_49 rfl (lv_at hl 1 rfl) ?_
      refine lv_iload_n S.1 S.2.1 dX7_best_50 rfl (lv_at hl 2 rfl) ?_
      refine lv_iload S.1 S.2.1 dX7_best_51 (lv_at hl 0 rfl) ?_
      obtain ⟨qv9, ev9, h⟩ := ob_s h
      obtain ⟨v9, fv9, h⟩ := bd_s h
      obtain ⟨z8, fz8, h⟩ := bd_s h
      have ev9 : g_X7_twistedConductor ev z th l1 v7 = some (v9, z8) := by rw [fv9, fz8]; exact ev9
      refine pm_cVl (As := [.int l1, .int v7]) (rest := []) S hK hX hP hS (c_X7_twistedConductor l ev z E hth th l1 v7 v9 z8 ev9) vm_X7_twistedConductor mw_3_74 (rc_5 hK hP hth) ⟨⟨rfl, rfl⟩, by decide, by decide⟩ rfl hl.1 rfl (Nat.le_of_ble_eq_true rfl) ⟨Nat.zero_le _, Nat.zero_le _⟩ dX7_best_53 (fun H locs hP hS => ?_)
      refine lv_lstore (lv' := [(9, .long v9), (8, .int v7), (0, .ref th), (1, .int l1), (2, .int l2), (3, .long l3), (5, .ref (rf ev 900 0)), (6, .int l6), (7, .int l7)]) S.1 S.2.1 dX7_best_56 hl (by decide) rfl (fun ls hl => ?_)
      refine lv_iload_n S.1 S.2.1 dX7_best_58 rfl (lv_at hl 4 rfl) ?_
      refine lv_if_eq (tgt := 69) S.1 S.2.1 dX7_best_59 (by decide) (fun c10 => ?_) (fun c10 => ?_)
      · rw [if_pos c10] at h
        refine lv_iload S.1 S.2.1 dX7_best_69 (lv_at hl 1 rfl) ?_
        refine lv_istore_n (lv' := [(2, .int v7), (9, .long v9), (8, .int v7), (0, .ref th), (1, .int l1), (3, .long l3), (5, .ref (rf ev 900 0)), (6, .int l6), (7, .int l7)]) S.1 S.2.1 dX7_best_71 rfl hl (by decide) rfl (fun ls hl => ?_)
        refine lv_lload S.1 S.2.1 dX7_best_72 (lv_at hl 1 rfl) ?_
        refine lv_lstore_n (lv' := [(3, .long v9), (2, .int v7), (9, .long v9), (8, .int v7), (0, .ref th), (1, .int l1), (5, .ref (rf ev 900 0)), (6, .int l6), (7, .int l7)]) S.1 S.2.1 dX7_best_74 rfl hl (by decide) rfl (fun ls hl => ?_)
        obtain ⟨v11, ev11, h⟩ := bd_s h
        refine lv_iinc (v := v11) (lv' := [(7, .int v11), (3, .long v9), (2, .int v7), (9, .long v9), (8, .int v7), (0, .ref th), (1, .int l1), (5, .ref (rf ev 900 0)), (6, .int l6)]) S.1 S.2.1 dX7_best_75 hl (k := 8) rfl (by rw [ev11]; rfl) (by decide) rfl (fun ls hl => ?_)
        refine lv_goto (tgt := 35) S.1 S.2.1 dX7_best_78 (by decide) ?_
        exact ih l1 v7 v9 l6 v11 z8 ls _ _ h (lv_sub hl [5, 6, 2, 1, 7, 8, 0] rfl) hP hS
      · rw [if_neg c10] at h
        refine lv_lload S.1 S.2.1 dX7_best_62 (lv_at hl 0 rfl) ?_
        refine lv_lload_n S.1 S.2.1 dX7_best_64 rfl (lv_at hl 5 rfl) ?_
        refine pm_lge (tgt := 75) S dX7_best_65 dX7_best_66 (by decide) (fun c12 => ?_) (fun c12 => ?_)
        · rw [if_pos c12] at h
          obtain ⟨v13, ev13, h⟩ := bd_s h
          refine lv_iinc (v := v13) (lv' := [(7, .int v13), (9, .long v9), (8, .int v7), (0, .ref th), (1, .int l1), (2, .int l2), (3, .long l3), (5, .ref (rf ev 900 0)), (6, .int l6)]) S.1 S.2.1 dX7_best_75 hl (k := 8) rfl (by rw [ev13]; rfl) (by decide) rfl (fun ls hl => ?_)
          refine lv_goto (tgt := 35) S.1 S.2.1 dX7_best_78 (by decide) ?_
          exact ih l1 l2 l3 l6 v13 z8 ls _ _ h (lv_sub hl [3, 4, 5, 6, 7, 8, 0] rfl) hP hS
        · rw [if_neg c12] at h
          refine lv_iload S.1 S.2.1 dX7_best_69 (lv_at hl 1 rfl) ?_
          refine lv_istore_n (lv' := [(2, .int v7), (9, .long v9), (8, .int v7), (0, .ref th), (1, .int l1), (3, .long l3), (5, .ref (rf ev 900 0)), (6, .int l6), (7, .int l7)]) S.1 S.2.1 dX7_best_71 rfl hl (by decide) rfl (fun ls hl => ?_)
          refine lv_lload S.1 S.2.1 dX7_best_72 (lv_at hl 1 rfl) ?_
          refine lv_lstore_n (lv' := [(3, .long v9), (2, .int v7), (9, .long v9), (8, .int v7), (0, .ref th), (1, .int l1), (5, .ref (rf ev 900 0)), (6, .int l6), (7, .int l7)]) S.1 S.2.1 dX7_best_74 rfl hl (by decide) rfl (fun ls hl => ?_)
          obtain ⟨v14, ev14, h⟩ := bd_s h
          refine lv_iinc (v := v14) (lv' := [(7, .int v14), (3, .long v9), (2, .int v7), (9, .long v9), (8, .int v7), (0, .ref th), (1, .int l1), (5, .ref (rf ev 900 0)), (6, .int l6)]) S.1 S.2.1 dX7_best_75 hl (k := 8) rfl (by rw [ev14]; rfl) (by decide) rfl (fun ls hl => ?_)
          refine lv_goto (tgt := 35) S.1 S.2.1 dX7_best_78 (by decide) ?_
          exact ih l1 v7 v9 l6 v14 z8 ls _ _ h (lv_sub hl [5, 6, 2, 1, 7, 8, 0] rfl) hP hS
def g_X7_best (ev : EV) (z : PS) (th : Nat) (l1 : Int32) : Option (Int32 × PS) := ob (g_X7_there ev z th l1) (fun v1 => if v1 = 0 then (some ((0 : Int32), z)) else (ob (g_X7_hasTwists ev z th l1) (fun v3 => if v3 = 0 then (some ((0 : Int32), z)) else (q_X7_best_35 ev th FU l1 (0 : Int32) (0 : Int64) (14 : Int32) (0 : Int32) z))))
set_option maxRecDepth 20000 in
set_option maxHeartbeats 4000000 in
theorem c_X7_best (l : Launch) (ev : EV) (z : PS) (E : EWF ev) {th : Nat} (hth : isK ev 5 th) (th_ : Nat) (l1 : Int32) (r : Int32) (z9 : PS) (h : g_X7_best ev z th l1 = some (r, z9)) : Met l yX7_best (pWs yX7_best cX7_best 11 (some .int)) (pR 6 236) (va_Pc [.ref th, .int l1] (pPe ev z)) (pQi ev r z9) 0 0 (eA ev) := by
  refine pm_of (by decide) (Nat.le_of_ble_eq_true rfl) ?_
  intro p e s m below meth c S hr hlk hv ls hl
  obtain ⟨hP, hK, hX⟩ := hv
  have hS : SS ev s s.heap [] := va_S.rf
  have hl : lv_has ls 11 [(0, .ref th), (1, .int l1)] := hl
  unfold g_X7_best at h
  refine lv_aload_n S.1 S.2.1 dX7_best_0 rfl (lv_at hl 0 rfl) ?_
  refine lv_iload_n S.1 S.2.1 dX7_best_1 rfl (lv_at hl 1 rfl) ?_
  obtain ⟨v1, ev1, h⟩ := ob_s h
  refine pm_cVr (As := [.int l1]) (rest := []) S hK hX hP hS (c_X7_there l ev z E hth th l1 v1 ev1) vm_X7_there mw_2_59 (rc_5 hK hP hth) ⟨⟨rfl, rfl⟩, by decide, by decide⟩ rfl hl.1 rfl (Nat.le_of_ble_eq_true rfl) ⟨Nat.zero_le _, Nat.zero_le _⟩ dX7_best_2 ?_
  refine lv_if_eq (tgt := 16) S.1 S.2.1 dX7_best_5 (by decide) (fun c2 => ?_) (fun c2 => ?_)
  · rw [if_pos c2] at h
    refine lv_iconst (v := 0) S.1 S.2.1 dX7_best_16 (by decide) ?_
    have h9 := Option.some.inj h
    exact pm_iretW S hr hlk hP hS (congrArg Prod.fst h9) (congrArg Prod.snd h9) dX7_best_17
  · rw [if_neg c2] at h
    refine lv_aload_n S.1 S.2.1 dX7_best_8 rfl (lv_at hl 0 rfl) ?_
    refine lv_iload_n S.1 S.2.1 dX7_best_9 rfl (lv_at hl 1 rfl) ?_
    obtain ⟨v3, ev3, h⟩ := ob_s h
    refine pm_cVr (As := [.int l1]) (rest := []) S hK hX hP hS (c_X7_hasTwists l ev z E hth th l1 v3 ev3) vm_X7_hasTwists mw_2_107 (rc_5 hK hP hth) ⟨⟨rfl, rfl⟩, by decide, by decide⟩ rfl hl.1 rfl (Nat.le_of_ble_eq_true rfl) ⟨Nat.zero_le _, Nat.zero_le _⟩ dX7_best_10 ?_
    refine lv_if_ne (tgt := 18) S.1 S.2.1 dX7_best_13 (by decide) (fun c4 => ?_) (fun c4 => ?_)
    · rw [if_neg c4] at h
      refine lv_iconst (v := 0) S.1 S.2.1 dX7_best_18 (by decide) ?_
      refine lv_istore_n (lv' := [(2, .int (0 : Int32)), (0, .ref th), (1, .int l1)]) S.1 S.2.1 dX7_best_19 rfl hl (by decide) rfl (fun ls hl => ?_)
      refine lv_lconst (v := 0) S.1 S.2.1 dX7_best_20 (by decide) ?_
      refine lv_lstore_n (lv' := [(3, .long (0 : Int64)), (2, .int (0 : Int32)), (0, .ref th), (1, .int l1)]) S.1 S.2.1 dX7_best_21 rfl hl (by decide) rfl (fun ls hl => ?_)
      refine va_gets S.1 S.2.1 hX.2.1.1 hS S.2.2.2.1 (S.2.2.2.2 _ mw_2_105) (fun x h9 => h9) dX7_best_22 ?_
      refine lv_astore (lv' := [(5, .ref (rf ev 900 0)), (3, .long (0 : Int64)), (2, .int (0 : Int32)), (0, .ref th), (1, .int l1)]) S.1 S.2.1 dX7_best_25 hl (by decide) rfl (fun ls hl => ?_)
      refine lv_aload S.1 S.2.1 dX7_best_27 (lv_at hl 0 rfl) ?_
      refine va_tlen (v := 14) S.1 S.2.1 hX.2.1.2 hS (by decide) dX7_best_29 ?_
      refine lv_istore (lv' := [(6, .int (14 : Int32)), (5, .ref (rf ev 900 0)), (3, .long (0 : Int64)), (2, .int (0 : Int32)), (0, .ref th), (1, .int l1)]) S.1 S.2.1 dX7_best_30 hl (by decide) rfl (fun ls hl => ?_)
      refine lv_iconst (v := 0) S.1 S.2.1 dX7_best_32 (by decide) ?_
      refine lv_istore (lv' := [(7, .int (0 : Int32)), (6, .int (14 : Int32)), (5, .ref (rf ev 900 0)), (3, .long (0 : Int64)), (2, .int (0 : Int32)), (0, .ref th), (1, .int l1)]) S.1 S.2.1 dX7_best_33 hl (by decide) rfl (fun ls hl => ?_)
      exact w_X7_best_35 S hr hlk E hK hX hth FU l1 (0 : Int32) (0 : Int64) (14 : Int32) (0 : Int32) z ls _ _ h (lv_sub hl [5, 6, 4, 3, 2, 1, 0] rfl) hP hS
    · rw [if_pos c4] at h
      refine lv_iconst (v := 0) S.1 S.2.1 dX7_best_16 (by decide) ?_
      have h9 := Option.some.inj h
      exact pm_iretW S hr hlk hP hS (congrArg Prod.fst h9) (congrArg Prod.snd h9) dX7_best_17
theorem vm_X7_best : pm_Vm yX7_best cX7_best 11 (some .int) 1 := ⟨mw_3_73, mw_3_71, mw_3_72, mw_1_1, by decide, by decide⟩
def g_X7_twisted (ev : EV) (z : PS) (th : Nat) (l1 : Int32) (l2 : Int32) : Option (Int64 × PS) := ob (g_X7_there ev z th l1) (fun v1 => if v1 = 0 then (some ((0 : Int64), z)) else (ob (g_X7_hasTwists ev z th l1) (fun v3 => if v3 = 0 then (some ((0 : Int64), z)) else (if l2 = (1 : Int32) then (ob (g_X7_twistedConductor ev z th l1 l2) (fun qv7 => bd qv7.1 (fun v7 => bd qv7.2 (fun z6 => some (v7, z6))))) else (ob (g_X7_isTwister ev z l2) (fun v8 => if v8 = 0 then (some ((0 : Int64), z)) else (ob (g_X7_twistedConductor ev z th l1 l2) (fun qv11 => bd qv11.1 (fun v11 => bd qv11.2 (fun z10 => some (v11, z10)))))))))))
set_option maxRecDepth 20000 in
set_option maxHeartbeats 4000000 in
theorem c_X7_twisted (l : Launch) (ev : EV) (z : PS) (E : EWF ev) {th : Nat} (hth : isK ev 5 th) (th_ : Nat) (l1 : Int32) (l2 : Int32) (r : Int64) (z9 : PS) (h : g_X7_twisted ev z th l1 l2 = some (r, z9)) : Met l yX7_twisted (pWs yX7_twisted cX7_twisted 3 (some .long)) (pR 6 236) (va_Pc [.ref th, .int l1, .int l2] (pPe ev z)) (pQl ev r z9) 0 0 (eA ev) := by
  refine pm_of (by decide) (Nat.le_of_ble_eq_true rfl) ?_
  intro p e s m below meth c S hr hlk hv ls hl
  obtain ⟨hP, hK, hX⟩ := hv
  have hS : SS ev s s.heap [] := va_S.rf
  have hl : lv_has ls 3 [(0, .ref th), (1, .int l1), (2, .int l2)] := hl
  unfold g_X7_twisted at h
  refine lv_aload_n S.1 S.2.1 dX7_twisted_0 rfl (lv_at hl 0 rfl) ?_
  refine lv_iload_n S.1 S.2.1 dX7_twisted_1 rfl (lv_at hl 1 rfl) ?_
  obtain ⟨v1, ev1, h⟩ := ob_s h
  refine pm_cVr (As := [.int l1]) (rest := []) S hK hX hP hS (c_X7_there l ev z E hth th l1 v1 ev1) vm_X7_there mw_2_59 (rc_5 hK hP hth) ⟨⟨rfl, rfl⟩, by decide, by decide⟩ rfl hl.1 rfl (Nat.le_of_ble_eq_true rfl) ⟨Nat.zero_le _, Nat.zero_le _⟩ dX7_twisted_2 ?_
  refine lv_if_eq (tgt := 28) S.1 S.2.1 dX7_twisted_5 (by decide) (fun c2 => ?_) (fun c2 => ?_)
  · rw [if_pos c2] at h
    refine lv_lconst (v := 0) S.1 S.2.1 dX7_twisted_28 (by decide) ?_
    have h9 := Option.some.inj h
    exact pm_lretW S hr hlk hP hS (congrArg Prod.fst h9) (congrArg Prod.snd h9) dX7_twisted_29
  · rw [if_neg c2] at h
    refine lv_aload_n S.1 S.2.1 dX7_twisted_8 rfl (lv_at hl 0 rfl) ?_
    refine lv_iload_n S.1 S.2.1 dX7_twisted_9 rfl (lv_at hl 1 rfl) ?_
    obtain ⟨v3, ev3, h⟩ := ob_s h
    refine pm_cVr (As := [.int l1]) (rest := []) S hK hX hP hS (c_X7_hasTwists l ev z E hth th l1 v3 ev3) vm_X7_hasTwists mw_2_107 (rc_5 hK hP hth) ⟨⟨rfl, rfl⟩, by decide, by decide⟩ rfl hl.1 rfl (Nat.le_of_ble_eq_true rfl) ⟨Nat.zero_le _, Nat.zero_le _⟩ dX7_twisted_10 ?_
    refine lv_if_eq (tgt := 28) S.1 S.2.1 dX7_twisted_13 (by decide) (fun c4 => ?_) (fun c4 => ?_)
    · rw [if_pos c4] at h
      refine lv_lconst (v := 0) S.1 S.2.1 dX7_twisted_28 (by decide) ?_
      have h9 := Option.some.inj h
      exact pm_lretW S hr hlk hP hS (congrArg Prod.fst h9) (congrArg Prod.snd h9) dX7_twisted_29
    · rw [if_neg c4] at h
      refine lv_iload_n S.1 S.2.1 dX7_twisted_16 rfl (lv_at hl 2 rfl) ?_
      refine lv_iconst (v := 1) S.1 S.2.1 dX7_twisted_17 (by decide) ?_
      refine lv_icmp_eq (tgt := 30) S.1 S.2.1 dX7_twisted_18 (by decide) (fun c5 => ?_) (fun c5 => ?_)
      · rw [if_pos c5] at h
        refine lv_aload_n S.1 S.2.1 dX7_twisted_30 rfl (lv_at hl 0 rfl) ?_
        refine lv_iload_n S.1 S.2.1 dX7_twisted_31 rfl (lv_at hl 1 rfl) ?_
        refine lv_iload_n S.1 S.2.1 dX7_twisted_32 rfl (lv_at hl 2 rfl) ?_
        obtain ⟨qv7, ev7, h⟩ := ob_s h
        obtain ⟨v7, fv7, h⟩ := bd_s h
        obtain ⟨z6, fz6, h⟩ := bd_s h
        have ev7 : g_X7_twistedConductor ev z th l1 l2 = some (v7, z6) := by rw [fv7, fz6]; exact ev7
        refine pm_cVl (As := [.int l1, .int l2]) (rest := []) S hK hX hP hS (c_X7_twistedConductor l ev z E hth th l1 l2 v7 z6 ev7) vm_X7_twistedConductor mw_3_74 (rc_5 hK hP hth) ⟨⟨rfl, rfl⟩, by decide, by decide⟩ rfl hl.1 rfl (Nat.le_of_ble_eq_true rfl) ⟨Nat.zero_le _, Nat.zero_le _⟩ dX7_twisted_33 (fun H locs hP hS => ?_)
        have h9 := Option.some.inj h
        exact pm_lretW S hr hlk hP hS (congrArg Prod.fst h9) (congrArg Prod.snd h9) dX7_twisted_36
      · rw [if_neg c5] at h
        refine lv_iload_n S.1 S.2.1 dX7_twisted_21 rfl (lv_at hl 2 rfl) ?_
        obtain ⟨v8, ev8, h⟩ := ob_s h
        refine pm_cSr (As := [.int l2]) (rest := []) S hK hX hP hS (c_X7_isTwister l ev z E l2 v8 ev8) sm_X7_isTwister mw_2_102 ⟨⟨rfl, rfl⟩, by decide, by decide⟩ rfl hl.1 rfl (Nat.le_of_ble_eq_true rfl) ⟨Nat.zero_le _, Nat.zero_le _⟩ dX7_twisted_22 ?_
        refine lv_if_ne (tgt := 30) S.1 S.2.1 dX7_twisted_25 (by decide) (fun c9 => ?_) (fun c9 => ?_)
        · rw [if_neg c9] at h
          refine lv_aload_n S.1 S.2.1 dX7_twisted_30 rfl (lv_at hl 0 rfl) ?_
          refine lv_iload_n S.1 S.2.1 dX7_twisted_31 rfl (lv_at hl 1 rfl) ?_
          refine lv_iload_n S.1 S.2.1 dX7_twisted_32 rfl (lv_at hl 2 rfl) ?_
          obtain ⟨qv11, ev11, h⟩ := ob_s h
          obtain ⟨v11, fv11, h⟩ := bd_s h
          obtain ⟨z10, fz10, h⟩ := bd_s h
          have ev11 : g_X7_twistedConductor ev z th l1 l2 = some (v11, z10) := by rw [fv11, fz10]; exact ev11
          refine pm_cVl (As := [.int l1, .int l2]) (rest := []) S hK hX hP hS (c_X7_twistedConductor l ev z E hth th l1 l2 v11 z10 ev11) vm_X7_twistedConductor mw_3_74 (rc_5 hK hP hth) ⟨⟨rfl, rfl⟩, by decide, by decide⟩ rfl hl.1 rfl (Nat.le_of_ble_eq_true rfl) ⟨Nat.zero_le _, Nat.zero_le _⟩ dX7_twisted_33 (fun H locs hP hS => ?_)
          have h9 := Option.some.inj h
          exact pm_lretW S hr hlk hP hS (congrArg Prod.fst h9) (congrArg Prod.snd h9) dX7_twisted_36
        · rw [if_pos c9] at h
          refine lv_lconst (v := 0) S.1 S.2.1 dX7_twisted_28 (by decide) ?_
          have h9 := Option.some.inj h
          exact pm_lretW S hr hlk hP hS (congrArg Prod.fst h9) (congrArg Prod.snd h9) dX7_twisted_29
theorem vm_X7_twisted : pm_Vm yX7_twisted cX7_twisted 3 (some .long) 2 := ⟨mw_3_81, mw_3_79, mw_3_80, mw_1_1, by decide, by decide⟩
def g_X6_add (ev : EV) (z : PS) (th : Nat) (l1 : Int32) (l2 : Int64) : Option PS := if (242 : Int32) ≤ (r32 z 82 th) then (some z) else (ck (inB (r32 z 82 th) 242) (bd (wI z (rf ev 80 th) (r32 z 82 th).toNatClampNeg l1) (fun z3 => bd ((l2.toInt32)) (fun v4 => ck (inB (r32 z3 82 th) 242) (bd (wI z3 (rf ev 81 th) (r32 z3 82 th).toNatClampNeg v4) (fun z6 => bd (((r32 z6 82 th) + (1 : Int32))) (fun v7 => bd (w32 z6 82 th v7) (fun z8 => some z8))))))))
set_option maxRecDepth 20000 in
set_option maxHeartbeats 4000000 in
theorem c_X6_add (l : Launch) (ev : EV) (z : PS) (E : EWF ev) {th : Nat} (hth : isK ev 4 th) (th_ : Nat) (l1 : Int32) (l2 : Int64) (z9 : PS) (h : g_X6_add ev z th l1 l2 = some z9) : Met l yX6_add (pWs yX6_add cX6_add 4 none) (pR 0 0) (va_Pc [.ref th, .int l1, .long l2] (pPe ev z)) (pQv ev z9) 0 0 (eA ev) := by
  refine pm_of (by decide) (Nat.le_of_ble_eq_true rfl) ?_
  intro p e s m below meth c S hr hlk hv ls hl
  obtain ⟨hP, hK, hX⟩ := hv
  have hS : SS ev s s.heap [] := va_S.rf
  have hl : lv_has ls 4 [(0, .ref th), (1, .int l1), (2, .long l2)] := hl
  unfold g_X6_add at h
  refine lv_aload_n S.1 S.2.1 dX6_add_0 rfl (lv_at hl 0 rfl) ?_
  refine gf_4_2 S hK hP hth mw_1_176 dX6_add_1 ?_
  refine lv_aload_n S.1 S.2.1 dX6_add_4 rfl (lv_at hl 0 rfl) ?_
  refine gf_4_0 S hK hP hth mw_1_172 dX6_add_5 ?_
  refine al_n7 S hK hP (E_4_0 E hth) (N_4_0 E hth) dX6_add_8 ?_
  refine pm_nmI (v := 242) (by decide) ?_
  refine lv_icmp_ge (tgt := 43) S.1 S.2.1 dX6_add_9 (by decide) (fun c1 => ?_) (fun c1 => ?_)
  · rw [if_pos c1] at h
    exact pm_vretW S hr hlk hP hS (Option.some.inj h) dX6_add_43
  · rw [if_neg c1] at h
    refine lv_aload_n S.1 S.2.1 dX6_add_12 rfl (lv_at hl 0 rfl) ?_
    refine gf_4_0 S hK hP hth mw_1_172 dX6_add_13 ?_
    refine lv_aload_n S.1 S.2.1 dX6_add_16 rfl (lv_at hl 0 rfl) ?_
    refine gf_4_2 S hK hP hth mw_1_176 dX6_add_17 ?_
    refine lv_iload_n S.1 S.2.1 dX6_add_20 rfl (lv_at hl 1 rfl) ?_
    obtain ⟨hc2, h⟩ := ck_s h
    obtain ⟨z3, ez3, h⟩ := bd_s h
    refine as_I S E hK hP hS (E_4_0 E hth) (by rw [N_4_0 E hth]; exact hc2) dX6_add_21 (fun H locs hP hS => ?_)
    rw [← ez3] at hP
    refine lv_aload_n S.1 S.2.1 dX6_add_22 rfl (lv_at hl 0 rfl) ?_
    refine gf_4_1 S hK hP hth mw_1_174 dX6_add_23 ?_
    refine lv_aload_n S.1 S.2.1 dX6_add_26 rfl (lv_at hl 0 rfl) ?_
    refine gf_4_2 S hK hP hth mw_1_176 dX6_add_27 ?_
    refine lv_lload_n S.1 S.2.1 dX6_add_30 rfl (lv_at hl 2 rfl) ?_
    refine lv_l2i S.1 S.2.1 dX6_add_31 rfl ?_
    obtain ⟨v4, ev4, h⟩ := bd_s h
    refine pm_nmI ev4 ?_
    obtain ⟨hc5, h⟩ := ck_s h
    obtain ⟨z6, ez6, h⟩ := bd_s h
    refine as_I S E hK hP hS (E_4_1 E hth) (by rw [N_4_1 E hth]; exact hc5) dX6_add_32 (fun H locs hP hS => ?_)
    rw [← ez6] at hP
    refine lv_aload_n S.1 S.2.1 dX6_add_33 rfl (lv_at hl 0 rfl) ?_
    refine lv_dup S.1 S.2.1 dX6_add_34 rfl ?_
    refine gf_4_2 S hK hP hth mw_1_176 dX6_add_35 ?_
    refine lv_iconst (v := 1) S.1 S.2.1 dX6_add_38 (by decide) ?_
    refine lv_iadd S.1 S.2.1 dX6_add_39 ?_
    obtain ⟨v7, ev7, h⟩ := bd_s h
    refine pm_nmI ev7 ?_
    obtain ⟨z8, ez8, h⟩ := bd_s h
    refine pf_4_2 S E hK hP hS hth mw_1_176 dX6_add_40 (fun H locs hP hS => ?_)
    rw [← ez8] at hP
    exact pm_vretW S hr hlk hP hS (Option.some.inj h) dX6_add_43
theorem vm_X6_add : pm_Vm yX6_add cX6_add 4 none 2 := ⟨mw_3_103, mw_3_102, ms_413, mw_1_6, by decide, by decide⟩
def q_X6_find_8 (ev : EV) (th : Nat) (l1 : Nat) : Nat → Int32 → PS → Option PS
  | 0, _, _ => none
  | n + 1, l2, z => if (60 : Int32) < l2 then (some z) else (ob (g_X0_discriminantAt ev z l1 (l2.toInt64)) (fun v3 => ob (g_X4_squareRoot v3) (fun v4 => if v3 < (0 : Int64) then (bd (l2 + (1 : Int32)) (fun v6 => q_X6_find_8 ev th l1 n v6 z)) else (if (v4 * v4) = v3 then (ob (g_X0_slopeAt ev z l1 (l2.toInt64)) (fun v9 => ob (g_X6_add ev z th l2 (((-v9) - v4) >>> (((1 : Int32)).toInt64 &&& 63))) (fun z10 => if v4 = (0 : Int64) then (bd (l2 + (1 : Int32)) (fun v12 => q_X6_find_8 ev th l1 n v12 z10)) else (ob (g_X6_add ev z10 th l2 (((-v9) + v4) >>> (((1 : Int32)).toInt64 &&& 63))) (fun z13 => bd (l2 + (1 : Int32)) (fun v14 => q_X6_find_8 ev th l1 n v14 z13)))))) else (bd (l2 + (1 : Int32)) (fun v8 => q_X6_find_8 ev th l1 n v8 z))))))
set_option maxRecDepth 20000 in
set_option maxHeartbeats 4000000 in
theorem w_X6_find_8 {ev : EV} {th : Nat} {l1 : Nat} {p : Program} {l : Launch} {e : Env} {s : State} {m : MethodId} {args : Array Value} {below : List Frame} {meth : Method} {c : Code} {z9 : PS} (S : CallFix p m c cX6_find 9 s args gT RX6) (hr : meth.sig.returnType = none) (hlk : meth.locks = false) (E : EWF ev) (hK : KK ev s) (hX : pXt ev s) (hth : isK ev 4 th) (hl1 : isK ev 0 l1) : ∀ (n : Nat), ∀ (l2 : Int32) (z : PS) (ls : Array Slot) (H : Heap) (locs : List Loc), q_X6_find_8 ev th l1 n l2 z = some z9 → lv_has ls 9 [(0, .ref th), (1, .ref l1), (2, .int l2)] → Wd ev z H → SS ev s H locs → W p l e (pR 2 68) s m args below meth c H locs 0 0 (MQ below (pQv ev z9) args s 0 0 (eA ev)) (F0 m 8 ls []) := by
  intro n
  induction n with
  | zero => intro l2 z ls H locs h; cases h
  | succ n ih =>
    intro l2 z ls H locs h hl hP hS
    rw [q_X6_find_8] at h
    refine lv_iload_n S.1 S.2.1 dX6_find_8 rfl (lv_at hl 2 rfl) ?_
    refine lv_bipush (v := 60) S.1 S.2.1 dX6_find_9 (by decide) ?_
    refine lv_icmp_gt (tgt := 90) S.1 S.2.1 dX6_find_11 (by decide) (fun c2 => ?_) (fun c2 => ?_)
    · rw [if_pos c2] at h
      exact pm_vretW S hr hlk hP hS (Option.some.inj h) dX6_find_90
    · rw [if_neg c2] at h
      refine lv_aload_n S.1 S.2.1 dX6_find_14 rfl (lv_at hl 1 rfl) ?_
      refine lv_iload_n S.1 S.2.1 dX6_find_15 rfl (lv_at hl 2 rfl) ?_
      refine lv_i2l S.1 S.2.1 dX6_find_16 rfl ?_
      obtain ⟨v3, ev3, h⟩ := ob_s h
      refine pm_cVr (As := [.long (l2.toInt64)]) (rest := []) S hK hX hP hS (c_X0_discriminantAt l ev z E hl1 l1 (l2.toInt64) v3 ev3) vm_X0_discriminantAt mw_3_94 (rc_0 hK hP hl1) ⟨⟨rfl, rfl⟩, by decide, by decide⟩ rfl hl.1 rfl (Nat.le_of_ble_eq_true rfl) ⟨Nat.zero_le _, Nat.zero_le _⟩ dX6_find_17 ?_
      refine lv_lstore_n (lv' := [(3, .long v3), (0, .ref th), (1, .ref l1), (2, .int l2)]) S.1 S.2.1 dX6_find_20 rfl hl (by decide) rfl (fun ls hl => ?_)
      refine lv_lload_n S.1 S.2.1 dX6_find_21 rfl (lv_at hl 0 rfl) ?_
      obtain ⟨v4, ev4, h⟩ := ob_s h
      refine pm_cS (As := [.long v3]) (rest := []) S (c_X4_squareRoot l v3 v4 ev4) sm_X4_squareRoot mw_3_95 ⟨⟨rfl, rfl⟩, by decide, by decide⟩ rfl hl.1 rfl (Nat.le_of_ble_eq_true rfl) ⟨Nat.zero_le _, Nat.zero_le _⟩ dX6_find_22 ?_
      refine lv_lstore (lv' := [(5, .long v4), (3, .long v3), (0, .ref th), (1, .ref l1), (2, .int l2)]) S.1 S.2.1 dX6_find_25 hl (by decide) rfl (fun ls hl => ?_)
      refine lv_lload_n S.1 S.2.1 dX6_find_27 rfl (lv_at hl 1 rfl) ?_
      refine lv_lconst (v := 0) S.1 S.2.1 dX6_find_28 (by decide) ?_
      refine pm_llt (tgt := 84) S dX6_find_29 dX6_find_30 (by decide) (fun c5 => ?_) (fun c5 => ?_)
      · rw [if_pos c5] at h
        obtain ⟨v6, ev6, h⟩ := bd_s h
        refine lv_iinc (v := v6) (lv' := [(2, .int v6), (5, .long v4), (3, .long v3), (0, .ref th), (1, .ref l1)]) S.1 S.2.1 dX6_find_84 hl (k := 4) rfl (by rw [ev6]; rfl) (by decide) rfl (fun ls hl => ?_)
        refine lv_goto (tgt := 8) S.1 S.2.1 dX6_find_87 (by decide) ?_
        exact ih v6 z ls _ _ h (lv_sub hl [3, 4, 0] rfl) hP hS
      · rw [if_neg c5] at h
        refine lv_lload S.1 S.2.1 dX6_find_33 (lv_at hl 0 rfl) ?_
        refine lv_lload S.1 S.2.1 dX6_find_35 (lv_at hl 0 rfl) ?_
        refine lv_lmul S.1 S.2.1 dX6_find_37 ?_
        refine lv_lload_n S.1 S.2.1 dX6_find_38 rfl (lv_at hl 1 rfl) ?_
        refine pm_lne (tgt := 84) S dX6_find_39 dX6_find_40 (by decide) (fun c7 => ?_) (fun c7 => ?_)
        · rw [if_neg c7] at h
          obtain ⟨v8, ev8, h⟩ := bd_s h
          refine lv_iinc (v := v8) (lv' := [(2, .int v8), (5, .long v4), (3, .long v3), (0, .ref th), (1, .ref l1)]) S.1 S.2.1 dX6_find_84 hl (k := 4) rfl (by rw [ev8]; rfl) (by decide) rfl (fun ls hl => ?_)
          refine lv_goto (tgt := 8) S.1 S.2.1 dX6_find_87 (by decide) ?_
          exact ih v8 z ls _ _ h (lv_sub hl [3, 4, 0] rfl) hP hS
        · rw [if_pos c7] at h
          refine lv_aload_n S.1 S.2.1 dX6_find_43 rfl (lv_at hl 3 rfl) ?_
          refine lv_iload_n S.1 S.2.1 dX6_find_44 rfl (lv_at hl 4 rfl) ?_
          refine lv_i2l S.1 S.2.1 dX6_find_45 rfl ?_
          obtain ⟨v9, ev9, h⟩ := ob_s h
          refine pm_cVr (As := [.long (l2.toInt64)]) (rest := []) S hK hX hP hS (c_X0_slopeAt l ev z E hl1 l1 (l2.toInt64) v9 ev9) vm_X0_slopeAt mw_3_99 (rc_0 hK hP hl1) ⟨⟨rfl, rfl⟩, by decide, by decide⟩ rfl hl.1 rfl (Nat.le_of_ble_eq_true rfl) ⟨Nat.zero_le _, Nat.zero_le _⟩ dX6_find_46 ?_
          refine lv_lstore (lv' := [(7, .long v9), (5, .long v4), (3, .long v3), (0, .ref th), (1, .ref l1), (2, .int l2)]) S.1 S.2.1 dX6_find_49 hl (by decide) rfl (fun ls hl => ?_)
          refine lv_aload_n S.1 S.2.1 dX6_find_51 rfl (lv_at hl 3 rfl) ?_
          refine lv_iload_n S.1 S.2.1 dX6_find_52 rfl (lv_at hl 5 rfl) ?_
          refine lv_lload S.1 S.2.1 dX6_find_53 (lv_at hl 0 rfl) ?_
          refine lv_lneg S.1 S.2.1 dX6_find_55 ?_
          refine lv_lload S.1 S.2.1 dX6_find_56 (lv_at hl 1 rfl) ?_
          refine lv_lsub S.1 S.2.1 dX6_find_58 ?_
          refine lv_iconst (v := 1) S.1 S.2.1 dX6_find_59 (by decide) ?_
          refine lv_lshr S.1 S.2.1 dX6_find_60 rfl ?_
          obtain ⟨z10, ez10, h⟩ := ob_s h
          refine pm_cVv (As := [.int l2, .long (((-v9) - v4) >>> (((1 : Int32)).toInt64 &&& 63))]) (rest := []) S hK hX hP hS (c_X6_add l ev z E hth th l2 (((-v9) - v4) >>> (((1 : Int32)).toInt64 &&& 63)) z10 ez10) vm_X6_add mw_3_100 (rc_4 hK hP hth) ⟨⟨rfl, rfl⟩, by decide, by decide⟩ rfl hl.1 rfl (Nat.le_of_ble_eq_true rfl) ⟨Nat.zero_le _, Nat.zero_le _⟩ dX6_find_61 (fun H locs hP hS => ?_)
          refine lv_lload S.1 S.2.1 dX6_find_64 (lv_at hl 1 rfl) ?_
          refine lv_lconst (v := 0) S.1 S.2.1 dX6_find_66 (by decide) ?_
          refine pm_leq (tgt := 84) S dX6_find_67 dX6_find_68 (by decide) (fun c11 => ?_) (fun c11 => ?_)
          · rw [if_pos c11] at h
            obtain ⟨v12, ev12, h⟩ := bd_s h
            refine lv_iinc (v := v12) (lv' := [(2, .int v12), (7, .long v9), (5, .long v4), (3, .long v3), (0, .ref th), (1, .ref l1)]) S.1 S.2.1 dX6_find_84 hl (k := 5) rfl (by rw [ev12]; rfl) (by decide) rfl (fun ls hl => ?_)
            refine lv_goto (tgt := 8) S.1 S.2.1 dX6_find_87 (by decide) ?_
            exact ih v12 z10 ls _ _ h (lv_sub hl [4, 5, 0] rfl) hP hS
          · rw [if_neg c11] at h
            refine lv_aload_n S.1 S.2.1 dX6_find_71 rfl (lv_at hl 3 rfl) ?_
            refine lv_iload_n S.1 S.2.1 dX6_find_72 rfl (lv_at hl 5 rfl) ?_
            refine lv_lload S.1 S.2.1 dX6_find_73 (lv_at hl 0 rfl) ?_
            refine lv_lneg S.1 S.2.1 dX6_find_75 ?_
            refine lv_lload S.1 S.2.1 dX6_find_76 (lv_at hl 1 rfl) ?_
            refine lv_ladd S.1 S.2.1 dX6_find_78 ?_
            refine lv_iconst (v := 1) S.1 S.2.1 dX6_find_79 (by decide) ?_
            refine lv_lshr S.1 S.2.1 dX6_find_80 rfl ?_
            obtain ⟨z13, ez13, h⟩ := ob_s h
            refine pm_cVv (As := [.int l2, .long (((-v9) + v4) >>> (((1 : Int32)).toInt64 &&& 63))]) (rest := []) S hK hX hP hS (c_X6_add l ev z10 E hth th l2 (((-v9) + v4) >>> (((1 : Int32)).toInt64 &&& 63)) z13 ez13) vm_X6_add mw_3_100 (rc_4 hK hP hth) ⟨⟨rfl, rfl⟩, by decide, by decide⟩ rfl hl.1 rfl (Nat.le_of_ble_eq_true rfl) ⟨Nat.zero_le _, Nat.zero_le _⟩ dX6_find_81 (fun H locs hP hS => ?_)
            obtain ⟨v14, ev14, h⟩ := bd_s h
            refine lv_iinc (v := v14) (lv' := [(2, .int v14), (7, .long v9), (5, .long v4), (3, .long v3), (0, .ref th), (1, .ref l1)]) S.1 S.2.1 dX6_find_84 hl (k := 5) rfl (by rw [ev14]; rfl) (by decide) rfl (fun ls hl => ?_)
            refine lv_goto (tgt := 8) S.1 S.2.1 dX6_find_87 (by decide) ?_
            exact ih v14 z13 ls _ _ h (lv_sub hl [4, 5, 0] rfl) hP hS
def g_X6_find (ev : EV) (z : PS) (th : Nat) (l1 : Nat) : Option PS := bd (w32 z 82 th (0 : Int32)) (fun z1 => q_X6_find_8 ev th l1 FU (-60 : Int32) z1)
set_option maxRecDepth 20000 in
set_option maxHeartbeats 4000000 in
theorem c_X6_find (l : Launch) (ev : EV) (z : PS) (E : EWF ev) {th : Nat} (hth : isK ev 4 th) {l1 : Nat} (hl1 : isK ev 0 l1) (th_ : Nat) (l1_ : Nat) (z9 : PS) (h : g_X6_find ev z th l1 = some z9) : Met l yX6_find (pWs yX6_find cX6_find 9 none) (pR 2 68) (va_Pc [.ref th, .ref l1] (pPe ev z)) (pQv ev z9) 0 0 (eA ev) := by
  refine pm_of (by decide) (Nat.le_of_ble_eq_true rfl) ?_
  intro p e s m below meth c S hr hlk hv ls hl
  obtain ⟨hP, hK, hX⟩ := hv
  have hS : SS ev s s.heap [] := va_S.rf
  have hl : lv_has ls 9 [(0, .ref th), (1, .ref l1)] := hl
  unfold g_X6_find at h
  refine lv_aload_n S.1 S.2.1 dX6_find_0 rfl (lv_at hl 0 rfl) ?_
  refine lv_iconst (v := 0) S.1 S.2.1 dX6_find_1 (by decide) ?_
  obtain ⟨z1, ez1, h⟩ := bd_s h
  refine pf_4_2 S E hK hP hS hth mw_1_176 dX6_find_2 (fun H locs hP hS => ?_)
  rw [← ez1] at hP
  refine lv_bipush (v := -60) S.1 S.2.1 dX6_find_5 (by decide) ?_
  refine lv_istore_n (lv' := [(2, .int (-60 : Int32)), (0, .ref th), (1, .ref l1)]) S.1 S.2.1 dX6_find_7 rfl hl (by decide) rfl (fun ls hl => ?_)
  exact w_X6_find_8 S hr hlk E hK hX hth hl1 FU (-60 : Int32) z1 ls _ _ h (lv_sub hl [1, 2, 0] rfl) hP hS
theorem vm_X6_find : pm_Vm yX6_find cX6_find 9 none 1 := ⟨mw_3_93, mw_3_91, mw_3_92, mw_1_6, by decide, by decide⟩
def g_X7_findSmallPoints (ev : EV) (z : PS) (th : Nat) (l1 : Int32) : Option PS := if (r32 z 105 th) = l1 then (some z) else (ck (inB l1 16) (ob (g_X6_find ev z (rf ev 104 th) (rf ev 40 (rh ev (rf ev 100 th) l1.toNatClampNeg))) (fun z3 => bd (w32 z3 105 th l1) (fun z4 => some z4))))
set_option maxRecDepth 20000 in
set_option maxHeartbeats 4000000 in
theorem c_X7_findSmallPoints (l : Launch) (ev : EV) (z : PS) (E : EWF ev) {th : Nat} (hth : isK ev 5 th) (th_ : Nat) (l1 : Int32) (z9 : PS) (h : g_X7_findSmallPoints ev z th l1 = some z9) : Met l yX7_findSmallPoints (pWs yX7_findSmallPoints cX7_findSmallPoints 2 none) (pR 3 108) (va_Pc [.ref th, .int l1] (pPe ev z)) (pQv ev z9) 0 0 (eA ev) := by
  refine pm_of (by decide) (Nat.le_of_ble_eq_true rfl) ?_
  intro p e s m below meth c S hr hlk hv ls hl
  obtain ⟨hP, hK, hX⟩ := hv
  have hS : SS ev s s.heap [] := va_S.rf
  have hl : lv_has ls 2 [(0, .ref th), (1, .int l1)] := hl
  unfold g_X7_findSmallPoints at h
  refine lv_aload_n S.1 S.2.1 dX7_findSmallPoints_0 rfl (lv_at hl 0 rfl) ?_
  refine gf_5_5 S hK hP hth mw_1_190 dX7_findSmallPoints_1 ?_
  refine lv_iload_n S.1 S.2.1 dX7_findSmallPoints_4 rfl (lv_at hl 1 rfl) ?_
  refine lv_icmp_eq (tgt := 29) S.1 S.2.1 dX7_findSmallPoints_5 (by decide) (fun c1 => ?_) (fun c1 => ?_)
  · rw [if_pos c1] at h
    exact pm_vretW S hr hlk hP hS (Option.some.inj h) dX7_findSmallPoints_29
  · rw [if_neg c1] at h
    refine lv_aload_n S.1 S.2.1 dX7_findSmallPoints_8 rfl (lv_at hl 0 rfl) ?_
    refine gf_5_4 S hK hP hth mw_1_189 dX7_findSmallPoints_9 ?_
    refine lv_aload_n S.1 S.2.1 dX7_findSmallPoints_12 rfl (lv_at hl 0 rfl) ?_
    refine gf_5_0 S hK hP hth mw_1_185 dX7_findSmallPoints_13 ?_
    refine lv_iload_n S.1 S.2.1 dX7_findSmallPoints_16 rfl (lv_at hl 1 rfl) ?_
    obtain ⟨hc2, h⟩ := ck_s h
    refine al_H S hK hP (E_5_0 E hth) (by rw [N_5_0 E hth]; exact hc2) dX7_findSmallPoints_17 ?_
    refine gf_2_0 S hK hP (E_h E (E_5_0 E hth) (inB_lt hc2)) mw_1_106 dX7_findSmallPoints_18 ?_
    obtain ⟨z3, ez3, h⟩ := ob_s h
    refine pm_cVv (As := [.ref (rf ev 40 (rh ev (rf ev 100 th) l1.toNatClampNeg))]) (rest := []) S hK hX hP hS (c_X6_find l ev z E (E_5_4 E hth) (E_2_0 E (E_h E (E_5_0 E hth) (inB_lt hc2))) (rf ev 104 th) (rf ev 40 (rh ev (rf ev 100 th) l1.toNatClampNeg)) z3 ez3) vm_X6_find mw_3_90 (rc_4 hK hP (E_5_4 E hth)) ⟨⟨rfl, rfl⟩, by decide, by decide⟩ rfl hl.1 rfl (Nat.le_of_ble_eq_true rfl) ⟨Nat.zero_le _, Nat.zero_le _⟩ dX7_findSmallPoints_21 (fun H locs hP hS => ?_)
    refine lv_aload_n S.1 S.2.1 dX7_findSmallPoints_24 rfl (lv_at hl 0 rfl) ?_
    refine lv_iload_n S.1 S.2.1 dX7_findSmallPoints_25 rfl (lv_at hl 1 rfl) ?_
    obtain ⟨z4, ez4, h⟩ := bd_s h
    refine pf_5_5 S E hK hP hS hth mw_1_190 dX7_findSmallPoints_26 (fun H locs hP hS => ?_)
    rw [← ez4] at hP
    exact pm_vretW S hr hlk hP hS (Option.some.inj h) dX7_findSmallPoints_29
theorem vm_X7_findSmallPoints : pm_Vm yX7_findSmallPoints cX7_findSmallPoints 2 none 1 := ⟨mw_3_89, mw_3_88, ms_426, mw_1_1, by decide, by decide⟩
def g_X7_small (ev : EV) (z : PS) (th : Nat) (l1 : Int32) : Option (Int32 × PS) := ob (g_X7_there ev z th l1) (fun v1 => if v1 = 0 then (some ((-1 : Int32), z)) else (ob (g_X7_findSmallPoints ev z th l1) (fun z3 => some ((r32 z3 82 (rf ev 104 th)), z3))))
set_option maxRecDepth 20000 in
set_option maxHeartbeats 4000000 in
theorem c_X7_small (l : Launch) (ev : EV) (z : PS) (E : EWF ev) {th : Nat} (hth : isK ev 5 th) (th_ : Nat) (l1 : Int32) (r : Int32) (z9 : PS) (h : g_X7_small ev z th l1 = some (r, z9)) : Met l yX7_small (pWs yX7_small cX7_small 2 (some .int)) (pR 4 141) (va_Pc [.ref th, .int l1] (pPe ev z)) (pQi ev r z9) 0 0 (eA ev) := by
  refine pm_of (by decide) (Nat.le_of_ble_eq_true rfl) ?_
  intro p e s m below meth c S hr hlk hv ls hl
  obtain ⟨hP, hK, hX⟩ := hv
  have hS : SS ev s s.heap [] := va_S.rf
  have hl : lv_has ls 2 [(0, .ref th), (1, .int l1)] := hl
  unfold g_X7_small at h
  refine lv_aload_n S.1 S.2.1 dX7_small_0 rfl (lv_at hl 0 rfl) ?_
  refine lv_iload_n S.1 S.2.1 dX7_small_1 rfl (lv_at hl 1 rfl) ?_
  obtain ⟨v1, ev1, h⟩ := ob_s h
  refine pm_cVr (As := [.int l1]) (rest := []) S hK hX hP hS (c_X7_there l ev z E hth th l1 v1 ev1) vm_X7_there mw_2_59 (rc_5 hK hP hth) ⟨⟨rfl, rfl⟩, by decide, by decide⟩ rfl hl.1 rfl (Nat.le_of_ble_eq_true rfl) ⟨Nat.zero_le _, Nat.zero_le _⟩ dX7_small_2 ?_
  refine lv_if_ne (tgt := 10) S.1 S.2.1 dX7_small_5 (by decide) (fun c2 => ?_) (fun c2 => ?_)
  · rw [if_neg c2] at h
    refine lv_aload_n S.1 S.2.1 dX7_small_10 rfl (lv_at hl 0 rfl) ?_
    refine lv_iload_n S.1 S.2.1 dX7_small_11 rfl (lv_at hl 1 rfl) ?_
    obtain ⟨z3, ez3, h⟩ := ob_s h
    refine pm_cVv (As := [.int l1]) (rest := []) S hK hX hP hS (c_X7_findSmallPoints l ev z E hth th l1 z3 ez3) vm_X7_findSmallPoints mw_3_86 (rc_5 hK hP hth) ⟨⟨rfl, rfl⟩, by decide, by decide⟩ rfl hl.1 rfl (Nat.le_of_ble_eq_true rfl) ⟨Nat.zero_le _, Nat.zero_le _⟩ dX7_small_12 (fun H locs hP hS => ?_)
    refine lv_aload_n S.1 S.2.1 dX7_small_15 rfl (lv_at hl 0 rfl) ?_
    refine gf_5_4 S hK hP hth mw_1_189 dX7_small_16 ?_
    refine gf_4_2 S hK hP (E_5_4 E hth) mw_1_177 dX7_small_19 ?_
    have h9 := Option.some.inj h
    exact pm_iretW S hr hlk hP hS (congrArg Prod.fst h9) (congrArg Prod.snd h9) dX7_small_22
  · rw [if_pos c2] at h
    refine lv_iconst (v := -1) S.1 S.2.1 dX7_small_8 (by decide) ?_
    have h9 := Option.some.inj h
    exact pm_iretW S hr hlk hP hS (congrArg Prod.fst h9) (congrArg Prod.snd h9) dX7_small_9
theorem vm_X7_small : pm_Vm yX7_small cX7_small 2 (some .int) 1 := ⟨mw_3_85, mw_3_83, mw_3_84, mw_1_1, by decide, by decide⟩
def g_X7_hasSmallPoint (ev : EV) (z : PS) (th : Nat) (l1 : Int32) (l2 : Int32) : Option (Int32 × PS) := ob (g_X7_there ev z th l1) (fun v1 => if v1 = 0 then (some ((0 : Int32), z)) else (ob (g_X7_findSmallPoints ev z th l1) (fun z3 => if l2 < 0 then (some ((0 : Int32), z3)) else (if (r32 z3 82 (rf ev 104 th)) ≤ l2 then (some ((0 : Int32), z3)) else (some ((1 : Int32), z3))))))
set_option maxRecDepth 20000 in
set_option maxHeartbeats 4000000 in
theorem c_X7_hasSmallPoint (l : Launch) (ev : EV) (z : PS) (E : EWF ev) {th : Nat} (hth : isK ev 5 th) (th_ : Nat) (l1 : Int32) (l2 : Int32) (r : Int32) (z9 : PS) (h : g_X7_hasSmallPoint ev z th l1 l2 = some (r, z9)) : Met l yX7_hasSmallPoint (pWs yX7_hasSmallPoint cX7_hasSmallPoint 3 (some .boolean)) (pR 4 141) (va_Pc [.ref th, .int l1, .int l2] (pPe ev z)) (pQi ev r z9) 0 0 (eA ev) := by
  refine pm_of (by decide) (Nat.le_of_ble_eq_true rfl) ?_
  intro p e s m below meth c S hr hlk hv ls hl
  obtain ⟨hP, hK, hX⟩ := hv
  have hS : SS ev s s.heap [] := va_S.rf
  have hl : lv_has ls 3 [(0, .ref th), (1, .int l1), (2, .int l2)] := hl
  unfold g_X7_hasSmallPoint at h
  refine lv_aload_n S.1 S.2.1 dX7_hasSmallPoint_0 rfl (lv_at hl 0 rfl) ?_
  refine lv_iload_n S.1 S.2.1 dX7_hasSmallPoint_1 rfl (lv_at hl 1 rfl) ?_
  obtain ⟨v1, ev1, h⟩ := ob_s h
  refine pm_cVr (As := [.int l1]) (rest := []) S hK hX hP hS (c_X7_there l ev z E hth th l1 v1 ev1) vm_X7_there mw_2_59 (rc_5 hK hP hth) ⟨⟨rfl, rfl⟩, by decide, by decide⟩ rfl hl.1 rfl (Nat.le_of_ble_eq_true rfl) ⟨Nat.zero_le _, Nat.zero_le _⟩ dX7_hasSmallPoint_2 ?_
  refine lv_if_ne (tgt := 10) S.1 S.2.1 dX7_hasSmallPoint_5 (by decide) (fun c2 => ?_) (fun c2 => ?_)
  · rw [if_neg c2] at h
    refine lv_aload_n S.1 S.2.1 dX7_hasSmallPoint_10 rfl (lv_at hl 0 rfl) ?_
    refine lv_iload_n S.1 S.2.1 dX7_hasSmallPoint_11 rfl (lv_at hl 1 rfl) ?_
    obtain ⟨z3, ez3, h⟩ := ob_s h
    refine pm_cVv (As := [.int l1]) (rest := []) S hK hX hP hS (c_X7_findSmallPoints l ev z E hth th l1 z3 ez3) vm_X7_findSmallPoints mw_3_86 (rc_5 hK hP hth) ⟨⟨rfl, rfl⟩, by decide, by decide⟩ rfl hl.1 rfl (Nat.le_of_ble_eq_true rfl) ⟨Nat.zero_le _, Nat.zero_le _⟩ dX7_hasSmallPoint_12 (fun H locs hP hS => ?_)
    refine lv_iload_n S.1 S.2.1 dX7_hasSmallPoint_15 rfl (lv_at hl 2 rfl) ?_
    refine lv_if_lt (tgt := 34) S.1 S.2.1 dX7_hasSmallPoint_16 (by decide) (fun c4 => ?_) (fun c4 => ?_)
    · rw [if_pos c4] at h
      refine lv_iconst (v := 0) S.1 S.2.1 dX7_hasSmallPoint_34 (by decide) ?_
      have h9 := Option.some.inj h
      exact pm_zretW S hr hlk (Or.inl rfl) hP hS (congrArg Prod.fst h9) (congrArg Prod.snd h9) dX7_hasSmallPoint_35
    · rw [if_neg c4] at h
      refine lv_iload_n S.1 S.2.1 dX7_hasSmallPoint_19 rfl (lv_at hl 2 rfl) ?_
      refine lv_aload_n S.1 S.2.1 dX7_hasSmallPoint_20 rfl (lv_at hl 0 rfl) ?_
      refine gf_5_4 S hK hP hth mw_1_189 dX7_hasSmallPoint_21 ?_
      refine gf_4_2 S hK hP (E_5_4 E hth) mw_1_177 dX7_hasSmallPoint_24 ?_
      refine lv_icmp_ge (tgt := 34) S.1 S.2.1 dX7_hasSmallPoint_27 (by decide) (fun c5 => ?_) (fun c5 => ?_)
      · rw [if_pos c5] at h
        refine lv_iconst (v := 0) S.1 S.2.1 dX7_hasSmallPoint_34 (by decide) ?_
        have h9 := Option.some.inj h
        exact pm_zretW S hr hlk (Or.inl rfl) hP hS (congrArg Prod.fst h9) (congrArg Prod.snd h9) dX7_hasSmallPoint_35
      · rw [if_neg c5] at h
        refine lv_iconst (v := 1) S.1 S.2.1 dX7_hasSmallPoint_30 (by decide) ?_
        refine lv_goto (tgt := 35) S.1 S.2.1 dX7_hasSmallPoint_31 (by decide) ?_
        have h9 := Option.some.inj h
        exact pm_zretW S hr hlk (Or.inr rfl) hP hS (congrArg Prod.fst h9) (congrArg Prod.snd h9) dX7_hasSmallPoint_35
  · rw [if_pos c2] at h
    refine lv_iconst (v := 0) S.1 S.2.1 dX7_hasSmallPoint_8 (by decide) ?_
    have h9 := Option.some.inj h
    exact pm_zretW S hr hlk (Or.inl rfl) hP hS (congrArg Prod.fst h9) (congrArg Prod.snd h9) dX7_hasSmallPoint_9
theorem vm_X7_hasSmallPoint : pm_Vm yX7_hasSmallPoint cX7_hasSmallPoint 3 (some .boolean) 2 := ⟨mw_3_111, mw_3_110, ms_434, mw_1_1, by decide, by decide⟩
def q_X6_opposite_38 (ev : EV) (z : PS) (th : Nat) (l1 : Nat) : Nat → Int32 → Int64 → Int32 → Option Int32
  | 0, _, _, _ => none
  | n + 1, l2, l3, l5 => if (r32 z 82 th) ≤ l5 then (some (-1 : Int32)) else (ck (inB l5 242) (ck (inB l2 242) (if (rI z (rf ev 80 th) l5.toNatClampNeg) = (rI z (rf ev 80 th) l2.toNatClampNeg) then (ck (inB l5 242) (if ((rI z (rf ev 81 th) l5.toNatClampNeg).toInt64) = l3 then (some l5) else (bd (l5 + (1 : Int32)) (fun v14 => q_X6_opposite_38 ev z th l1 n l2 l3 v14)))) else (bd (l5 + (1 : Int32)) (fun v11 => q_X6_opposite_38 ev z th l1 n l2 l3 v11)))))
set_option maxRecDepth 20000 in
set_option maxHeartbeats 4000000 in
theorem w_X6_opposite_38 {ev : EV} {z : PS} {th : Nat} {l1 : Nat} {p : Program} {l : Launch} {e : Env} {s : State} {m : MethodId} {args : Array Value} {below : List Frame} {meth : Method} {c : Code} {r : Int32} (S : CallFix p m c cX6_opposite 6 s args gT RX6) (hr : meth.sig.returnType = (some .int)) (hlk : meth.locks = false) (E : EWF ev) (hK : KK ev s) (hX : pXt ev s) (hP : Wd ev z s.heap) (hth : isK ev 4 th) (hl1 : isK ev 0 l1) : ∀ (n : Nat), ∀ (l2 : Int32) (l3 : Int64) (l5 : Int32) (ls : Array Slot), q_X6_opposite_38 ev z th l1 n l2 l3 l5 = some r → lv_has ls 6 [(0, .ref th), (2, .int l2), (3, .long l3), (5, .int l5)] → W p l e (pR 1 34) s m args below meth c s.heap [] 0 0 (MQ below (k2_QcV (.int r)) args s 0 0 (fun _ => False)) (F0 m 38 ls []) := by
  intro n
  induction n with
  | zero => intro l2 l3 l5 ls h; cases h
  | succ n ih =>
    intro l2 l3 l5 ls h hl
    rw [q_X6_opposite_38] at h
    refine lv_iload S.1 S.2.1 dX6_opposite_38 (lv_at hl 3 rfl) ?_
    refine lv_aload_n S.1 S.2.1 dX6_opposite_40 rfl (lv_at hl 0 rfl) ?_
    refine gf_4_2 S hK hP hth mw_1_176 dX6_opposite_41 ?_
    refine lv_icmp_ge (tgt := 85) S.1 S.2.1 dX6_opposite_44 (by decide) (fun c7 => ?_) (fun c7 => ?_)
    · rw [if_pos c7] at h
      refine lv_iconst (v := -1) S.1 S.2.1 dX6_opposite_85 (by decide) ?_
      exact pm_iretR S hr hlk (Option.some.inj h) dX6_opposite_86
    · rw [if_neg c7] at h
      refine lv_aload_n S.1 S.2.1 dX6_opposite_47 rfl (lv_at hl 0 rfl) ?_
      refine gf_4_0 S hK hP hth mw_1_172 dX6_opposite_48 ?_
      refine lv_iload S.1 S.2.1 dX6_opposite_51 (lv_at hl 3 rfl) ?_
      obtain ⟨hc8, h⟩ := ck_s h
      refine al_I S hK hP (E_4_0 E hth) (by rw [N_4_0 E hth]; exact hc8) dX6_opposite_53 ?_
      refine lv_aload_n S.1 S.2.1 dX6_opposite_54 rfl (lv_at hl 0 rfl) ?_
      refine gf_4_0 S hK hP hth mw_1_172 dX6_opposite_55 ?_
      refine lv_iload_n S.1 S.2.1 dX6_opposite_58 rfl (lv_at hl 1 rfl) ?_
      obtain ⟨hc9, h⟩ := ck_s h
      refine al_I S hK hP (E_4_0 E hth) (by rw [N_4_0 E hth]; exact hc9) dX6_opposite_59 ?_
      refine lv_icmp_ne (tgt := 79) S.1 S.2.1 dX6_opposite_60 (by decide) (fun c10 => ?_) (fun c10 => ?_)
      · rw [if_neg c10] at h
        obtain ⟨v11, ev11, h⟩ := bd_s h
        refine lv_iinc (v := v11) (lv' := [(5, .int v11), (0, .ref th), (2, .int l2), (3, .long l3)]) S.1 S.2.1 dX6_opposite_79 hl (k := 3) rfl (by rw [ev11]; rfl) (by decide) rfl (fun ls hl => ?_)
        refine lv_goto (tgt := 38) S.1 S.2.1 dX6_opposite_82 (by decide) ?_
        exact ih l2 l3 v11 ls h (lv_sub hl [1, 2, 3, 0] rfl)
      · rw [if_pos c10] at h
        refine lv_aload_n S.1 S.2.1 dX6_opposite_63 rfl (lv_at hl 0 rfl) ?_
        refine gf_4_1 S hK hP hth mw_1_174 dX6_opposite_64 ?_
        refine lv_iload S.1 S.2.1 dX6_opposite_67 (lv_at hl 3 rfl) ?_
        obtain ⟨hc12, h⟩ := ck_s h
        refine al_I S hK hP (E_4_1 E hth) (by rw [N_4_1 E hth]; exact hc12) dX6_opposite_69 ?_
        refine lv_i2l S.1 S.2.1 dX6_opposite_70 rfl ?_
        refine lv_lload_n S.1 S.2.1 dX6_opposite_71 rfl (lv_at hl 2 rfl) ?_
        refine pm_lne (tgt := 79) S dX6_opposite_72 dX6_opposite_73 (by decide) (fun c13 => ?_) (fun c13 => ?_)
        · rw [if_neg c13] at h
          obtain ⟨v14, ev14, h⟩ := bd_s h
          refine lv_iinc (v := v14) (lv' := [(5, .int v14), (0, .ref th), (2, .int l2), (3, .long l3)]) S.1 S.2.1 dX6_opposite_79 hl (k := 3) rfl (by rw [ev14]; rfl) (by decide) rfl (fun ls hl => ?_)
          refine lv_goto (tgt := 38) S.1 S.2.1 dX6_opposite_82 (by decide) ?_
          exact ih l2 l3 v14 ls h (lv_sub hl [1, 2, 3, 0] rfl)
        · rw [if_pos c13] at h
          refine lv_iload S.1 S.2.1 dX6_opposite_76 (lv_at hl 3 rfl) ?_
          exact pm_iretR S hr hlk (Option.some.inj h) dX6_opposite_78
def g_X6_opposite (ev : EV) (z : PS) (th : Nat) (l1 : Nat) (l2 : Int32) : Option Int32 := if l2 < 0 then (some (-1 : Int32)) else (if l2 < (r32 z 82 th) then (ck (inB l2 242) (ck (inB l2 242) (ob (g_X0_slopeAt ev z l1 ((rI z (rf ev 80 th) l2.toNatClampNeg).toInt64)) (fun v5 => bd ((((-(rI z (rf ev 81 th) l2.toNatClampNeg)).toInt64) - v5)) (fun v6 => q_X6_opposite_38 ev z th l1 FU l2 v6 (0 : Int32)))))) else (some (-1 : Int32)))
set_option maxRecDepth 20000 in
set_option maxHeartbeats 4000000 in
theorem c_X6_opposite (l : Launch) (ev : EV) (z : PS) (E : EWF ev) {th : Nat} (hth : isK ev 4 th) {l1 : Nat} (hl1 : isK ev 0 l1) (th_ : Nat) (l1_ : Nat) (l2 : Int32) (r : Int32) (h : g_X6_opposite ev z th l1 l2 = some r) : Met l yX6_opposite (pWs yX6_opposite cX6_opposite 6 (some .int)) (pR 1 34) (va_Pc [.ref th, .ref l1, .int l2] (pPe ev z)) (k2_QcV (.int r)) 0 0 (fun _ => False) := by
  refine pm_of (by decide) (Nat.le_of_ble_eq_true rfl) ?_
  intro p e s m below meth c S hr hlk hv ls hl
  obtain ⟨hP, hK, hX⟩ := hv
  have hl : lv_has ls 6 [(0, .ref th), (1, .ref l1), (2, .int l2)] := hl
  unfold g_X6_opposite at h
  refine lv_iload_n S.1 S.2.1 dX6_opposite_0 rfl (lv_at hl 2 rfl) ?_
  refine lv_if_lt (tgt := 12) S.1 S.2.1 dX6_opposite_1 (by decide) (fun c1 => ?_) (fun c1 => ?_)
  · rw [if_pos c1] at h
    refine lv_iconst (v := -1) S.1 S.2.1 dX6_opposite_12 (by decide) ?_
    exact pm_iretR S hr hlk (Option.some.inj h) dX6_opposite_13
  · rw [if_neg c1] at h
    refine lv_iload_n S.1 S.2.1 dX6_opposite_4 rfl (lv_at hl 2 rfl) ?_
    refine lv_aload_n S.1 S.2.1 dX6_opposite_5 rfl (lv_at hl 0 rfl) ?_
    refine gf_4_2 S hK hP hth mw_1_176 dX6_opposite_6 ?_
    refine lv_icmp_lt (tgt := 14) S.1 S.2.1 dX6_opposite_9 (by decide) (fun c2 => ?_) (fun c2 => ?_)
    · rw [if_pos c2] at h
      refine lv_aload_n S.1 S.2.1 dX6_opposite_14 rfl (lv_at hl 0 rfl) ?_
      refine gf_4_1 S hK hP hth mw_1_174 dX6_opposite_15 ?_
      refine lv_iload_n S.1 S.2.1 dX6_opposite_18 rfl (lv_at hl 2 rfl) ?_
      obtain ⟨hc3, h⟩ := ck_s h
      refine al_I S hK hP (E_4_1 E hth) (by rw [N_4_1 E hth]; exact hc3) dX6_opposite_19 ?_
      refine lv_ineg S.1 S.2.1 dX6_opposite_20 ?_
      refine lv_i2l S.1 S.2.1 dX6_opposite_21 rfl ?_
      refine lv_aload_n S.1 S.2.1 dX6_opposite_22 rfl (lv_at hl 1 rfl) ?_
      refine lv_aload_n S.1 S.2.1 dX6_opposite_23 rfl (lv_at hl 0 rfl) ?_
      refine gf_4_0 S hK hP hth mw_1_172 dX6_opposite_24 ?_
      refine lv_iload_n S.1 S.2.1 dX6_opposite_27 rfl (lv_at hl 2 rfl) ?_
      obtain ⟨hc4, h⟩ := ck_s h
      refine al_I S hK hP (E_4_0 E hth) (by rw [N_4_0 E hth]; exact hc4) dX6_opposite_28 ?_
      refine lv_i2l S.1 S.2.1 dX6_opposite_29 rfl ?_
      obtain ⟨v5, ev5, h⟩ := ob_s h
      refine pm_cVr (As := [.long ((rI z (rf ev 80 th) l2.toNatClampNeg).toInt64)]) (rest := [.long ((-(rI z (rf ev 81 th) l2.toNatClampNeg)).toInt64)]) S hK hX hP va_S.rf (c_X0_slopeAt l ev z E hl1 l1 ((rI z (rf ev 80 th) l2.toNatClampNeg).toInt64) v5 ev5) vm_X0_slopeAt mw_3_99 (rc_0 hK hP hl1) ⟨⟨rfl, rfl⟩, by decide, by decide⟩ rfl hl.1 rfl (Nat.le_of_ble_eq_true rfl) ⟨Nat.zero_le _, Nat.zero_le _⟩ dX6_opposite_30 ?_
      refine lv_lsub S.1 S.2.1 dX6_opposite_33 ?_
      obtain ⟨v6, ev6, h⟩ := bd_s h
      refine pm_nmL ev6 ?_
      refine lv_lstore_n (lv' := [(3, .long v6), (0, .ref th), (1, .ref l1), (2, .int l2)]) S.1 S.2.1 dX6_opposite_34 rfl hl (by decide) rfl (fun ls hl => ?_)
      refine lv_iconst (v := 0) S.1 S.2.1 dX6_opposite_35 (by decide) ?_
      refine lv_istore (lv' := [(5, .int (0 : Int32)), (3, .long v6), (0, .ref th), (1, .ref l1), (2, .int l2)]) S.1 S.2.1 dX6_opposite_36 hl (by decide) rfl (fun ls hl => ?_)
      exact w_X6_opposite_38 S hr hlk E hK hX hP hth hl1 FU l2 v6 (0 : Int32) ls h (lv_sub hl [2, 4, 1, 0] rfl)
    · rw [if_neg c2] at h
      refine lv_iconst (v := -1) S.1 S.2.1 dX6_opposite_12 (by decide) ?_
      exact pm_iretR S hr hlk (Option.some.inj h) dX6_opposite_13
theorem vm_X6_opposite : pm_Vm yX6_opposite cX6_opposite 6 (some .int) 2 := ⟨mw_3_115, mw_3_113, mw_3_114, mw_1_6, by decide, by decide⟩
def g_X7_minus (ev : EV) (z : PS) (th : Nat) (l1 : Int32) (l2 : Int32) : Option (Int32 × PS) := ob (g_X7_hasSmallPoint ev z th l1 l2) (fun qv2 => bd qv2.1 (fun v2 => bd qv2.2 (fun z1 => if v2 = 0 then (some ((-1 : Int32), z1)) else (ck (inB l1 16) (ob (g_X6_opposite ev z1 (rf ev 104 th) (rf ev 40 (rh ev (rf ev 100 th) l1.toNatClampNeg)) l2) (fun v5 => some (v5, z1)))))))
set_option maxRecDepth 20000 in
set_option maxHeartbeats 4000000 in
theorem c_X7_minus (l : Launch) (ev : EV) (z : PS) (E : EWF ev) {th : Nat} (hth : isK ev 5 th) (th_ : Nat) (l1 : Int32) (l2 : Int32) (r : Int32) (z9 : PS) (h : g_X7_minus ev z th l1 l2 = some (r, z9)) : Met l yX7_minus (pWs yX7_minus cX7_minus 3 (some .int)) (pR 5 175) (va_Pc [.ref th, .int l1, .int l2] (pPe ev z)) (pQi ev r z9) 0 0 (eA ev) := by
  refine pm_of (by decide) (Nat.le_of_ble_eq_true rfl) ?_
  intro p e s m below meth c S hr hlk hv ls hl
  obtain ⟨hP, hK, hX⟩ := hv
  have hS : SS ev s s.heap [] := va_S.rf
  have hl : lv_has ls 3 [(0, .ref th), (1, .int l1), (2, .int l2)] := hl
  unfold g_X7_minus at h
  refine lv_aload_n S.1 S.2.1 dX7_minus_0 rfl (lv_at hl 0 rfl) ?_
  refine lv_iload_n S.1 S.2.1 dX7_minus_1 rfl (lv_at hl 1 rfl) ?_
  refine lv_iload_n S.1 S.2.1 dX7_minus_2 rfl (lv_at hl 2 rfl) ?_
  obtain ⟨qv2, ev2, h⟩ := ob_s h
  obtain ⟨v2, fv2, h⟩ := bd_s h
  obtain ⟨z1, fz1, h⟩ := bd_s h
  have ev2 : g_X7_hasSmallPoint ev z th l1 l2 = some (v2, z1) := by rw [fv2, fz1]; exact ev2
  refine pm_cVi (As := [.int l1, .int l2]) (rest := []) S hK hX hP hS (c_X7_hasSmallPoint l ev z E hth th l1 l2 v2 z1 ev2) vm_X7_hasSmallPoint mw_3_108 (rc_5 hK hP hth) ⟨⟨rfl, rfl⟩, by decide, by decide⟩ rfl hl.1 rfl (Nat.le_of_ble_eq_true rfl) ⟨Nat.zero_le _, Nat.zero_le _⟩ dX7_minus_3 (fun H locs hP hS => ?_)
  refine lv_if_eq (tgt := 29) S.1 S.2.1 dX7_minus_6 (by decide) (fun c3 => ?_) (fun c3 => ?_)
  · rw [if_pos c3] at h
    refine lv_iconst (v := -1) S.1 S.2.1 dX7_minus_29 (by decide) ?_
    have h9 := Option.some.inj h
    exact pm_iretW S hr hlk hP hS (congrArg Prod.fst h9) (congrArg Prod.snd h9) dX7_minus_30
  · rw [if_neg c3] at h
    refine lv_aload_n S.1 S.2.1 dX7_minus_9 rfl (lv_at hl 0 rfl) ?_
    refine gf_5_4 S hK hP hth mw_1_189 dX7_minus_10 ?_
    refine lv_aload_n S.1 S.2.1 dX7_minus_13 rfl (lv_at hl 0 rfl) ?_
    refine gf_5_0 S hK hP hth mw_1_185 dX7_minus_14 ?_
    refine lv_iload_n S.1 S.2.1 dX7_minus_17 rfl (lv_at hl 1 rfl) ?_
    obtain ⟨hc4, h⟩ := ck_s h
    refine al_H S hK hP (E_5_0 E hth) (by rw [N_5_0 E hth]; exact hc4) dX7_minus_18 ?_
    refine gf_2_0 S hK hP (E_h E (E_5_0 E hth) (inB_lt hc4)) mw_1_106 dX7_minus_19 ?_
    refine lv_iload_n S.1 S.2.1 dX7_minus_22 rfl (lv_at hl 2 rfl) ?_
    obtain ⟨v5, ev5, h⟩ := ob_s h
    refine pm_cVr (As := [.ref (rf ev 40 (rh ev (rf ev 100 th) l1.toNatClampNeg)), .int l2]) (rest := []) S hK hX hP hS (c_X6_opposite l ev z1 E (E_5_4 E hth) (E_2_0 E (E_h E (E_5_0 E hth) (inB_lt hc4))) (rf ev 104 th) (rf ev 40 (rh ev (rf ev 100 th) l1.toNatClampNeg)) l2 v5 ev5) vm_X6_opposite mw_3_112 (rc_4 hK hP (E_5_4 E hth)) ⟨⟨rfl, rfl⟩, by decide, by decide⟩ rfl hl.1 rfl (Nat.le_of_ble_eq_true rfl) ⟨Nat.zero_le _, Nat.zero_le _⟩ dX7_minus_23 ?_
    refine lv_goto (tgt := 30) S.1 S.2.1 dX7_minus_26 (by decide) ?_
    have h9 := Option.some.inj h
    exact pm_iretW S hr hlk hP hS (congrArg Prod.fst h9) (congrArg Prod.snd h9) dX7_minus_30
theorem vm_X7_minus : pm_Vm yX7_minus cX7_minus 3 (some .int) 2 := ⟨mw_3_107, mw_3_105, mw_3_106, mw_1_1, by decide, by decide⟩
def q_X7_countUnlike_17 (ev : EV) (z : PS) (th : Nat) (k4 : (Int32 → Int32 → Option Int32)) : Nat → Int32 → Int32 → Int32 → Int32 → Option Int32
  | 0, _, _, _, _ => none
  | n + 1, l1, l2, l3, l4 => if l2 ≤ l4 then (if l3 = 0 then (bd (l1 + (1 : Int32)) (fun v5 => bd (l2 + (1 : Int32)) (fun v6 => k4 v5 v6))) else (bd (l2 + (1 : Int32)) (fun v4 => k4 l1 v4))) else (if l3 = 0 then (ck (inB l2 16) (ck (inB l4 16) (ob (g_X0_isSameAs ev z (rf ev 41 (rh ev (rf ev 100 th) l2.toNatClampNeg)) (rf ev 41 (rh ev (rf ev 100 th) l4.toNatClampNeg))) (fun v14 => bd (l4 + (1 : Int32)) (fun v15 => q_X7_countUnlike_17 ev z th k4 n l1 l2 v14 v15))))) else (if l3 = 0 then (bd (l1 + (1 : Int32)) (fun v10 => bd (l2 + (1 : Int32)) (fun v11 => k4 v10 v11))) else (bd (l2 + (1 : Int32)) (fun v9 => k4 l1 v9))))
set_option maxRecDepth 20000 in
set_option maxHeartbeats 4000000 in
theorem w_X7_countUnlike_17 {ev : EV} {z : PS} {th : Nat} {p : Program} {l : Launch} {e : Env} {s : State} {m : MethodId} {args : Array Value} {below : List Frame} {meth : Method} {c : Code} {r : Int32} (S : CallFix p m c cX7_countUnlike 5 s args gT RX7) (hr : meth.sig.returnType = (some .int)) (hlk : meth.locks = false) (E : EWF ev) (hK : KK ev s) (hX : pXt ev s) (hP : Wd ev z s.heap) (hth : isK ev 5 th) (k4 : (Int32 → Int32 → Option Int32)) (hk4 : ∀ (l1 : Int32) (l2 : Int32) (ls : Array Slot), k4 l1 l2 = some r → lv_has ls 5 [(0, .ref th), (1, .int l1), (2, .int l2)] → W p l e (pR 1 33) s m args below meth c s.heap [] 0 0 (MQ below (k2_QcV (.int r)) args s 0 0 (fun _ => False)) (F0 m 4 ls [])) : ∀ (n : Nat), ∀ (l1 : Int32) (l2 : Int32) (l3 : Int32) (l4 : Int32) (ls : Array Slot), q_X7_countUnlike_17 ev z th k4 n l1 l2 l3 l4 = some r → lv_has ls 5 [(0, .ref th), (1, .int l1), (2, .int l2), (3, .int l3), (4, .int l4)] → W p l e (pR 1 33) s m args below meth c s.heap [] 0 0 (MQ below (k2_QcV (.int r)) args s 0 0 (fun _ => False)) (F0 m 17 ls []) := by
  intro n
  induction n with
  | zero => intro l1 l2 l3 l4 ls h; cases h
  | succ n ih =>
    intro l1 l2 l3 l4 ls h hl
    rw [q_X7_countUnlike_17] at h
    refine lv_iload S.1 S.2.1 dX7_countUnlike_17 (lv_at hl 4 rfl) ?_
    refine lv_iload_n S.1 S.2.1 dX7_countUnlike_19 rfl (lv_at hl 2 rfl) ?_
    refine lv_icmp_ge (tgt := 56) S.1 S.2.1 dX7_countUnlike_20 (by decide) (fun c2 => ?_) (fun c2 => ?_)
    · rw [if_pos c2] at h
      refine lv_iload_n S.1 S.2.1 dX7_countUnlike_56 rfl (lv_at hl 3 rfl) ?_
      refine lv_if_ne (tgt := 63) S.1 S.2.1 dX7_countUnlike_57 (by decide) (fun c3 => ?_) (fun c3 => ?_)
      · rw [if_neg c3] at h
        obtain ⟨v4, ev4, h⟩ := bd_s h
        refine lv_iinc (v := v4) (lv' := [(2, .int v4), (0, .ref th), (1, .int l1), (3, .int l3), (4, .int l4)]) S.1 S.2.1 dX7_countUnlike_63 hl (k := 2) rfl (by rw [ev4]; rfl) (by decide) rfl (fun ls hl => ?_)
        refine lv_goto (tgt := 4) S.1 S.2.1 dX7_countUnlike_66 (by decide) ?_
        exact hk4 l1 v4 ls h (lv_sub hl [1, 2, 0] rfl)
      · rw [if_pos c3] at h
        obtain ⟨v5, ev5, h⟩ := bd_s h
        refine lv_iinc (v := v5) (lv' := [(1, .int v5), (0, .ref th), (2, .int l2), (3, .int l3), (4, .int l4)]) S.1 S.2.1 dX7_countUnlike_60 hl (k := 1) rfl (by rw [ev5]; rfl) (by decide) rfl (fun ls hl => ?_)
        obtain ⟨v6, ev6, h⟩ := bd_s h
        refine lv_iinc (v := v6) (lv' := [(2, .int v6), (1, .int v5), (0, .ref th), (3, .int l3), (4, .int l4)]) S.1 S.2.1 dX7_countUnlike_63 hl (k := 2) rfl (by rw [ev6]; rfl) (by decide) rfl (fun ls hl => ?_)
        refine lv_goto (tgt := 4) S.1 S.2.1 dX7_countUnlike_66 (by decide) ?_
        exact hk4 v5 v6 ls h (lv_sub hl [2, 1, 0] rfl)
    · rw [if_neg c2] at h
      refine lv_iload_n S.1 S.2.1 dX7_countUnlike_23 rfl (lv_at hl 3 rfl) ?_
      refine lv_if_ne (tgt := 56) S.1 S.2.1 dX7_countUnlike_24 (by decide) (fun c7 => ?_) (fun c7 => ?_)
      · rw [if_neg c7] at h
        refine lv_iload_n S.1 S.2.1 dX7_countUnlike_56 rfl (lv_at hl 3 rfl) ?_
        refine lv_if_ne (tgt := 63) S.1 S.2.1 dX7_countUnlike_57 (by decide) (fun c8 => ?_) (fun c8 => ?_)
        · rw [if_neg c8] at h
          obtain ⟨v9, ev9, h⟩ := bd_s h
          refine lv_iinc (v := v9) (lv' := [(2, .int v9), (0, .ref th), (1, .int l1), (3, .int l3), (4, .int l4)]) S.1 S.2.1 dX7_countUnlike_63 hl (k := 2) rfl (by rw [ev9]; rfl) (by decide) rfl (fun ls hl => ?_)
          refine lv_goto (tgt := 4) S.1 S.2.1 dX7_countUnlike_66 (by decide) ?_
          exact hk4 l1 v9 ls h (lv_sub hl [1, 2, 0] rfl)
        · rw [if_pos c8] at h
          obtain ⟨v10, ev10, h⟩ := bd_s h
          refine lv_iinc (v := v10) (lv' := [(1, .int v10), (0, .ref th), (2, .int l2), (3, .int l3), (4, .int l4)]) S.1 S.2.1 dX7_countUnlike_60 hl (k := 1) rfl (by rw [ev10]; rfl) (by decide) rfl (fun ls hl => ?_)
          obtain ⟨v11, ev11, h⟩ := bd_s h
          refine lv_iinc (v := v11) (lv' := [(2, .int v11), (1, .int v10), (0, .ref th), (3, .int l3), (4, .int l4)]) S.1 S.2.1 dX7_countUnlike_63 hl (k := 2) rfl (by rw [ev11]; rfl) (by decide) rfl (fun ls hl => ?_)
          refine lv_goto (tgt := 4) S.1 S.2.1 dX7_countUnlike_66 (by decide) ?_
          exact hk4 v10 v11 ls h (lv_sub hl [2, 1, 0] rfl)
      · rw [if_pos c7] at h
        refine lv_aload_n S.1 S.2.1 dX7_countUnlike_27 rfl (lv_at hl 0 rfl) ?_
        refine gf_5_0 S hK hP hth mw_1_185 dX7_countUnlike_28 ?_
        refine lv_iload_n S.1 S.2.1 dX7_countUnlike_31 rfl (lv_at hl 2 rfl) ?_
        obtain ⟨hc12, h⟩ := ck_s h
        refine al_H S hK hP (E_5_0 E hth) (by rw [N_5_0 E hth]; exact hc12) dX7_countUnlike_32 ?_
        refine gf_2_1 S hK hP (E_h E (E_5_0 E hth) (inB_lt hc12)) mw_1_108 dX7_countUnlike_33 ?_
        refine lv_aload_n S.1 S.2.1 dX7_countUnlike_36 rfl (lv_at hl 0 rfl) ?_
        refine gf_5_0 S hK hP hth mw_1_185 dX7_countUnlike_37 ?_
        refine lv_iload S.1 S.2.1 dX7_countUnlike_40 (lv_at hl 4 rfl) ?_
        obtain ⟨hc13, h⟩ := ck_s h
        refine al_H S hK hP (E_5_0 E hth) (by rw [N_5_0 E hth]; exact hc13) dX7_countUnlike_42 ?_
        refine gf_2_1 S hK hP (E_h E (E_5_0 E hth) (inB_lt hc13)) mw_1_108 dX7_countUnlike_43 ?_
        obtain ⟨v14, ev14, h⟩ := ob_s h
        refine pm_cVr (As := [.ref (rf ev 41 (rh ev (rf ev 100 th) l4.toNatClampNeg))]) (rest := []) S hK hX hP va_S.rf (c_X0_isSameAs l ev z E (E_2_1 E (E_h E (E_5_0 E hth) (inB_lt hc12))) (E_2_1 E (E_h E (E_5_0 E hth) (inB_lt hc13))) (rf ev 41 (rh ev (rf ev 100 th) l2.toNatClampNeg)) (rf ev 41 (rh ev (rf ev 100 th) l4.toNatClampNeg)) v14 ev14) vm_X0_isSameAs mw_3_33 (rc_0 hK hP (E_2_1 E (E_h E (E_5_0 E hth) (inB_lt hc12)))) ⟨⟨rfl, rfl⟩, by decide, by decide⟩ rfl hl.1 rfl (Nat.le_of_ble_eq_true rfl) ⟨Nat.zero_le _, Nat.zero_le _⟩ dX7_countUnlike_46 ?_
        refine lv_istore_n (lv' := [(3, .int v14), (0, .ref th), (1, .int l1), (2, .int l2), (4, .int l4)]) S.1 S.2.1 dX7_countUnlike_49 rfl hl (by decide) rfl (fun ls hl => ?_)
        obtain ⟨v15, ev15, h⟩ := bd_s h
        refine lv_iinc (v := v15) (lv' := [(4, .int v15), (3, .int v14), (0, .ref th), (1, .int l1), (2, .int l2)]) S.1 S.2.1 dX7_countUnlike_50 hl (k := 4) rfl (by rw [ev15]; rfl) (by decide) rfl (fun ls hl => ?_)
        refine lv_goto (tgt := 17) S.1 S.2.1 dX7_countUnlike_53 (by decide) ?_
        exact ih l1 l2 v14 v15 ls h (lv_sub hl [2, 3, 4, 1, 0] rfl)
def q_X7_countUnlike_4 (ev : EV) (z : PS) (th : Nat) : Nat → Int32 → Int32 → Option Int32
  | 0, _, _ => none
  | n + 1, l1, l2 => if (r32 z 101 th) ≤ l2 then (some l1) else (q_X7_countUnlike_17 ev z th (q_X7_countUnlike_4 ev z th n) FU l1 l2 (0 : Int32) (0 : Int32))
set_option maxRecDepth 20000 in
set_option maxHeartbeats 4000000 in
theorem w_X7_countUnlike_4 {ev : EV} {z : PS} {th : Nat} {p : Program} {l : Launch} {e : Env} {s : State} {m : MethodId} {args : Array Value} {below : List Frame} {meth : Method} {c : Code} {r : Int32} (S : CallFix p m c cX7_countUnlike 5 s args gT RX7) (hr : meth.sig.returnType = (some .int)) (hlk : meth.locks = false) (E : EWF ev) (hK : KK ev s) (hX : pXt ev s) (hP : Wd ev z s.heap) (hth : isK ev 5 th) : ∀ (n : Nat), ∀ (l1 : Int32) (l2 : Int32) (ls : Array Slot), q_X7_countUnlike_4 ev z th n l1 l2 = some r → lv_has ls 5 [(0, .ref th), (1, .int l1), (2, .int l2)] → W p l e (pR 1 33) s m args below meth c s.heap [] 0 0 (MQ below (k2_QcV (.int r)) args s 0 0 (fun _ => False)) (F0 m 4 ls []) := by
  intro n
  induction n with
  | zero => intro l1 l2 ls h; cases h
  | succ n ih =>
    intro l1 l2 ls h hl
    rw [q_X7_countUnlike_4] at h
    refine lv_iload_n S.1 S.2.1 dX7_countUnlike_4 rfl (lv_at hl 2 rfl) ?_
    refine lv_aload_n S.1 S.2.1 dX7_countUnlike_5 rfl (lv_at hl 0 rfl) ?_
    refine gf_5_1 S hK hP hth mw_1_186 dX7_countUnlike_6 ?_
    refine lv_icmp_ge (tgt := 69) S.1 S.2.1 dX7_countUnlike_9 (by decide) (fun c1 => ?_) (fun c1 => ?_)
    · rw [if_pos c1] at h
      refine lv_iload_n S.1 S.2.1 dX7_countUnlike_69 rfl (lv_at hl 1 rfl) ?_
      exact pm_iretR S hr hlk (Option.some.inj h) dX7_countUnlike_70
    · rw [if_neg c1] at h
      refine lv_iconst (v := 0) S.1 S.2.1 dX7_countUnlike_12 (by decide) ?_
      refine lv_istore_n (lv' := [(3, .int (0 : Int32)), (0, .ref th), (1, .int l1), (2, .int l2)]) S.1 S.2.1 dX7_countUnlike_13 rfl hl (by decide) rfl (fun ls hl => ?_)
      refine lv_iconst (v := 0) S.1 S.2.1 dX7_countUnlike_14 (by decide) ?_
      refine lv_istore (lv' := [(4, .int (0 : Int32)), (3, .int (0 : Int32)), (0, .ref th), (1, .int l1), (2, .int l2)]) S.1 S.2.1 dX7_countUnlike_15 hl (by decide) rfl (fun ls hl => ?_)
      exact w_X7_countUnlike_17 S hr hlk E hK hX hP hth (q_X7_countUnlike_4 ev z th n) ih FU l1 l2 (0 : Int32) (0 : Int32) ls h (lv_sub hl [2, 3, 4, 1, 0] rfl)
def g_X7_countUnlike (ev : EV) (z : PS) (th : Nat) : Option Int32 := q_X7_countUnlike_4 ev z th FU (0 : Int32) (0 : Int32)
set_option maxRecDepth 20000 in
set_option maxHeartbeats 4000000 in
theorem c_X7_countUnlike (l : Launch) (ev : EV) (z : PS) (E : EWF ev) {th : Nat} (hth : isK ev 5 th) (th_ : Nat) (r : Int32) (h : g_X7_countUnlike ev z th = some r) : Met l yX7_countUnlike (pWs yX7_countUnlike cX7_countUnlike 5 (some .int)) (pR 1 33) (va_Pc [.ref th] (pPe ev z)) (k2_QcV (.int r)) 0 0 (fun _ => False) := by
  refine pm_of (by decide) (Nat.le_of_ble_eq_true rfl) ?_
  intro p e s m below meth c S hr hlk hv ls hl
  obtain ⟨hP, hK, hX⟩ := hv
  have hl : lv_has ls 5 [(0, .ref th)] := hl
  unfold g_X7_countUnlike at h
  refine lv_iconst (v := 0) S.1 S.2.1 dX7_countUnlike_0 (by decide) ?_
  refine lv_istore_n (lv' := [(1, .int (0 : Int32)), (0, .ref th)]) S.1 S.2.1 dX7_countUnlike_1 rfl hl (by decide) rfl (fun ls hl => ?_)
  refine lv_iconst (v := 0) S.1 S.2.1 dX7_countUnlike_2 (by decide) ?_
  refine lv_istore_n (lv' := [(2, .int (0 : Int32)), (1, .int (0 : Int32)), (0, .ref th)]) S.1 S.2.1 dX7_countUnlike_3 rfl hl (by decide) rfl (fun ls hl => ?_)
  exact w_X7_countUnlike_4 S hr hlk E hK hX hP hth FU (0 : Int32) (0 : Int32) ls h (lv_sub hl [2, 1, 0] rfl)
theorem vm_X7_countUnlike : pm_Vm yX7_countUnlike cX7_countUnlike 5 (some .int) 0 := ⟨mw_3_123, mw_3_122, ms_445, mw_1_1, by decide, by decide⟩
def q_X7_bitsOfLeast_4 (ev : EV) (z : PS) (th : Nat) : Nat → Int32 → Int32 → Int32 → Option Int32
  | 0, _, _, _ => none
  | n + 1, l1, l2, l3 => if (r32 z 101 th) ≤ l3 then (some l2) else (ck (inB l3 16) (if l1 = 0 then (if (r64 z 42 (rh ev (rf ev 100 th) l3.toNatClampNeg)) = (1 : Int64) then (bd ((l2 ||| ((1 : Int32) <<< (l3 &&& 31)))) (fun v6 => bd (l3 + (1 : Int32)) (fun v7 => q_X7_bitsOfLeast_4 ev z th n l1 v6 v7))) else (bd (l3 + (1 : Int32)) (fun v5 => q_X7_bitsOfLeast_4 ev z th n l1 l2 v5))) else (ob (g_X0_isSameAs ev z (rf ev 40 (rh ev (rf ev 100 th) l3.toNatClampNeg)) (rf ev 41 (rh ev (rf ev 100 th) l3.toNatClampNeg))) (fun v8 => if v8 = 0 then (bd (l3 + (1 : Int32)) (fun v10 => q_X7_bitsOfLeast_4 ev z th n l1 l2 v10)) else (bd ((l2 ||| ((1 : Int32) <<< (l3 &&& 31)))) (fun v11 => bd (l3 + (1 : Int32)) (fun v12 => q_X7_bitsOfLeast_4 ev z th n l1 v11 v12)))))))
set_option maxRecDepth 20000 in
set_option maxHeartbeats 4000000 in
theorem w_X7_bitsOfLeast_4 {ev : EV} {z : PS} {th : Nat} {p : Program} {l : Launch} {e : Env} {s : State} {m : MethodId} {args : Array Value} {below : List Frame} {meth : Method} {c : Code} {r : Int32} (S : CallFix p m c cX7_bitsOfLeast 5 s args gT RX7) (hr : meth.sig.returnType = (some .int)) (hlk : meth.locks = false) (E : EWF ev) (hK : KK ev s) (hX : pXt ev s) (hP : Wd ev z s.heap) (hth : isK ev 5 th) : ∀ (n : Nat), ∀ (l1 : Int32) (l2 : Int32) (l3 : Int32) (ls : Array Slot), q_X7_bitsOfLeast_4 ev z th n l1 l2 l3 = some r → lv_has ls 5 [(0, .ref th), (1, .int l1), (2, .int l2), (3, .int l3)] → W p l e (pR 1 33) s m args below meth c s.heap [] 0 0 (MQ below (k2_QcV (.int r)) args s 0 0 (fun _ => False)) (F0 m 4 ls []) := by
  intro n
  induction n with
  | zero => intro l1 l2 l3 ls h; cases h
  | succ n ih =>
    intro l1 l2 l3 ls h hl
    rw [q_X7_bitsOfLeast_4] at h
    refine lv_iload_n S.1 S.2.1 dX7_bitsOfLeast_4 rfl (lv_at hl 3 rfl) ?_
    refine lv_aload_n S.1 S.2.1 dX7_bitsOfLeast_5 rfl (lv_at hl 0 rfl) ?_
    refine gf_5_1 S hK hP hth mw_1_186 dX7_bitsOfLeast_6 ?_
    refine lv_icmp_ge (tgt := 65) S.1 S.2.1 dX7_bitsOfLeast_9 (by decide) (fun c1 => ?_) (fun c1 => ?_)
    · rw [if_pos c1] at h
      refine lv_iload_n S.1 S.2.1 dX7_bitsOfLeast_65 rfl (lv_at hl 2 rfl) ?_
      exact pm_iretR S hr hlk (Option.some.inj h) dX7_bitsOfLeast_66
    · rw [if_neg c1] at h
      refine lv_aload_n S.1 S.2.1 dX7_bitsOfLeast_12 rfl (lv_at hl 0 rfl) ?_
      refine gf_5_0 S hK hP hth mw_1_185 dX7_bitsOfLeast_13 ?_
      refine lv_iload_n S.1 S.2.1 dX7_bitsOfLeast_16 rfl (lv_at hl 3 rfl) ?_
      obtain ⟨hc2, h⟩ := ck_s h
      refine al_H S hK hP (E_5_0 E hth) (by rw [N_5_0 E hth]; exact hc2) dX7_bitsOfLeast_17 ?_
      refine lv_astore (lv' := [(4, .ref (rh ev (rf ev 100 th) l3.toNatClampNeg)), (0, .ref th), (1, .int l1), (2, .int l2), (3, .int l3)]) S.1 S.2.1 dX7_bitsOfLeast_18 hl (by decide) rfl (fun ls hl => ?_)
      refine lv_iload_n S.1 S.2.1 dX7_bitsOfLeast_20 rfl (lv_at hl 2 rfl) ?_
      refine lv_if_eq (tgt := 43) S.1 S.2.1 dX7_bitsOfLeast_21 (by decide) (fun c3 => ?_) (fun c3 => ?_)
      · rw [if_pos c3] at h
        refine lv_aload S.1 S.2.1 dX7_bitsOfLeast_43 (lv_at hl 0 rfl) ?_
        refine gf_2_2 S hK hP (E_h E (E_5_0 E hth) (inB_lt hc2)) mw_1_110 dX7_bitsOfLeast_45 ?_
        refine lv_lconst (v := 1) S.1 S.2.1 dX7_bitsOfLeast_48 (by decide) ?_
        refine pm_lne (tgt := 59) S dX7_bitsOfLeast_49 dX7_bitsOfLeast_50 (by decide) (fun c4 => ?_) (fun c4 => ?_)
        · rw [if_neg c4] at h
          obtain ⟨v5, ev5, h⟩ := bd_s h
          refine lv_iinc (v := v5) (lv' := [(3, .int v5), (4, .ref (rh ev (rf ev 100 th) l3.toNatClampNeg)), (0, .ref th), (1, .int l1), (2, .int l2)]) S.1 S.2.1 dX7_bitsOfLeast_59 hl (k := 4) rfl (by rw [ev5]; rfl) (by decide) rfl (fun ls hl => ?_)
          refine lv_goto (tgt := 4) S.1 S.2.1 dX7_bitsOfLeast_62 (by decide) ?_
          exact ih l1 l2 v5 ls h (lv_sub hl [2, 3, 4, 0] rfl)
        · rw [if_pos c4] at h
          refine lv_iload_n S.1 S.2.1 dX7_bitsOfLeast_53 rfl (lv_at hl 3 rfl) ?_
          refine lv_iconst (v := 1) S.1 S.2.1 dX7_bitsOfLeast_54 (by decide) ?_
          refine lv_iload_n S.1 S.2.1 dX7_bitsOfLeast_55 rfl (lv_at hl 4 rfl) ?_
          refine lv_ishl S.1 S.2.1 dX7_bitsOfLeast_56 ?_
          refine lv_ior S.1 S.2.1 dX7_bitsOfLeast_57 ?_
          obtain ⟨v6, ev6, h⟩ := bd_s h
          refine pm_nmI ev6 ?_
          refine lv_istore_n (lv' := [(2, .int v6), (4, .ref (rh ev (rf ev 100 th) l3.toNatClampNeg)), (0, .ref th), (1, .int l1), (3, .int l3)]) S.1 S.2.1 dX7_bitsOfLeast_58 rfl hl (by decide) rfl (fun ls hl => ?_)
          obtain ⟨v7, ev7, h⟩ := bd_s h
          refine lv_iinc (v := v7) (lv' := [(3, .int v7), (2, .int v6), (4, .ref (rh ev (rf ev 100 th) l3.toNatClampNeg)), (0, .ref th), (1, .int l1)]) S.1 S.2.1 dX7_bitsOfLeast_59 hl (k := 4) rfl (by rw [ev7]; rfl) (by decide) rfl (fun ls hl => ?_)
          refine lv_goto (tgt := 4) S.1 S.2.1 dX7_bitsOfLeast_62 (by decide) ?_
          exact ih l1 v6 v7 ls h (lv_sub hl [3, 4, 1, 0] rfl)
      · rw [if_neg c3] at h
        refine lv_aload S.1 S.2.1 dX7_bitsOfLeast_24 (lv_at hl 0 rfl) ?_
        refine gf_2_0 S hK hP (E_h E (E_5_0 E hth) (inB_lt hc2)) mw_1_106 dX7_bitsOfLeast_26 ?_
        refine lv_aload S.1 S.2.1 dX7_bitsOfLeast_29 (lv_at hl 0 rfl) ?_
        refine gf_2_1 S hK hP (E_h E (E_5_0 E hth) (inB_lt hc2)) mw_1_108 dX7_bitsOfLeast_31 ?_
        obtain ⟨v8, ev8, h⟩ := ob_s h
        refine pm_cVr (As := [.ref (rf ev 41 (rh ev (rf ev 100 th) l3.toNatClampNeg))]) (rest := []) S hK hX hP va_S.rf (c_X0_isSameAs l ev z E (E_2_0 E (E_h E (E_5_0 E hth) (inB_lt hc2))) (E_2_1 E (E_h E (E_5_0 E hth) (inB_lt hc2))) (rf ev 40 (rh ev (rf ev 100 th) l3.toNatClampNeg)) (rf ev 41 (rh ev (rf ev 100 th) l3.toNatClampNeg)) v8 ev8) vm_X0_isSameAs mw_3_33 (rc_0 hK hP (E_2_0 E (E_h E (E_5_0 E hth) (inB_lt hc2)))) ⟨⟨rfl, rfl⟩, by decide, by decide⟩ rfl hl.1 rfl (Nat.le_of_ble_eq_true rfl) ⟨Nat.zero_le _, Nat.zero_le _⟩ dX7_bitsOfLeast_34 ?_
        refine lv_if_eq (tgt := 59) S.1 S.2.1 dX7_bitsOfLeast_37 (by decide) (fun c9 => ?_) (fun c9 => ?_)
        · rw [if_pos c9] at h
          obtain ⟨v10, ev10, h⟩ := bd_s h
          refine lv_iinc (v := v10) (lv' := [(3, .int v10), (4, .ref (rh ev (rf ev 100 th) l3.toNatClampNeg)), (0, .ref th), (1, .int l1), (2, .int l2)]) S.1 S.2.1 dX7_bitsOfLeast_59 hl (k := 4) rfl (by rw [ev10]; rfl) (by decide) rfl (fun ls hl => ?_)
          refine lv_goto (tgt := 4) S.1 S.2.1 dX7_bitsOfLeast_62 (by decide) ?_
          exact ih l1 l2 v10 ls h (lv_sub hl [2, 3, 4, 0] rfl)
        · rw [if_neg c9] at h
          refine lv_goto (tgt := 53) S.1 S.2.1 dX7_bitsOfLeast_40 (by decide) ?_
          refine lv_iload_n S.1 S.2.1 dX7_bitsOfLeast_53 rfl (lv_at hl 3 rfl) ?_
          refine lv_iconst (v := 1) S.1 S.2.1 dX7_bitsOfLeast_54 (by decide) ?_
          refine lv_iload_n S.1 S.2.1 dX7_bitsOfLeast_55 rfl (lv_at hl 4 rfl) ?_
          refine lv_ishl S.1 S.2.1 dX7_bitsOfLeast_56 ?_
          refine lv_ior S.1 S.2.1 dX7_bitsOfLeast_57 ?_
          obtain ⟨v11, ev11, h⟩ := bd_s h
          refine pm_nmI ev11 ?_
          refine lv_istore_n (lv' := [(2, .int v11), (4, .ref (rh ev (rf ev 100 th) l3.toNatClampNeg)), (0, .ref th), (1, .int l1), (3, .int l3)]) S.1 S.2.1 dX7_bitsOfLeast_58 rfl hl (by decide) rfl (fun ls hl => ?_)
          obtain ⟨v12, ev12, h⟩ := bd_s h
          refine lv_iinc (v := v12) (lv' := [(3, .int v12), (2, .int v11), (4, .ref (rh ev (rf ev 100 th) l3.toNatClampNeg)), (0, .ref th), (1, .int l1)]) S.1 S.2.1 dX7_bitsOfLeast_59 hl (k := 4) rfl (by rw [ev12]; rfl) (by decide) rfl (fun ls hl => ?_)
          refine lv_goto (tgt := 4) S.1 S.2.1 dX7_bitsOfLeast_62 (by decide) ?_
          exact ih l1 v11 v12 ls h (lv_sub hl [3, 4, 1, 0] rfl)
def g_X7_bitsOfLeast (ev : EV) (z : PS) (th : Nat) (l1 : Int32) : Option Int32 := q_X7_bitsOfLeast_4 ev z th FU l1 (0 : Int32) (0 : Int32)
set_option maxRecDepth 20000 in
set_option maxHeartbeats 4000000 in
theorem c_X7_bitsOfLeast (l : Launch) (ev : EV) (z : PS) (E : EWF ev) {th : Nat} (hth : isK ev 5 th) (th_ : Nat) (l1 : Int32) (r : Int32) (h : g_X7_bitsOfLeast ev z th l1 = some r) : Met l yX7_bitsOfLeast (pWs yX7_bitsOfLeast cX7_bitsOfLeast 5 (some .int)) (pR 1 33) (va_Pc [.ref th, .int l1] (pPe ev z)) (k2_QcV (.int r)) 0 0 (fun _ => False) := by
  refine pm_of (by decide) (Nat.le_of_ble_eq_true rfl) ?_
  intro p e s m below meth c S hr hlk hv ls hl
  obtain ⟨hP, hK, hX⟩ := hv
  have hl : lv_has ls 5 [(0, .ref th), (1, .int l1)] := hl
  unfold g_X7_bitsOfLeast at h
  refine lv_iconst (v := 0) S.1 S.2.1 dX7_bitsOfLeast_0 (by decide) ?_
  refine lv_istore_n (lv' := [(2, .int (0 : Int32)), (0, .ref th), (1, .int l1)]) S.1 S.2.1 dX7_bitsOfLeast_1 rfl hl (by decide) rfl (fun ls hl => ?_)
  refine lv_iconst (v := 0) S.1 S.2.1 dX7_bitsOfLeast_2 (by decide) ?_
  refine lv_istore_n (lv' := [(3, .int (0 : Int32)), (2, .int (0 : Int32)), (0, .ref th), (1, .int l1)]) S.1 S.2.1 dX7_bitsOfLeast_3 rfl hl (by decide) rfl (fun ls hl => ?_)
  exact w_X7_bitsOfLeast_4 S hr hlk E hK hX hP hth FU l1 (0 : Int32) (0 : Int32) ls h (lv_sub hl [2, 3, 1, 0] rfl)
theorem vm_X7_bitsOfLeast : pm_Vm yX7_bitsOfLeast cX7_bitsOfLeast 5 (some .int) 1 := ⟨mw_3_127, mw_3_126, ms_448, mw_1_1, by decide, by decide⟩
