def g_X7_count (ev : EV) (z : PS) (th : Nat) (l1 : Int32) : Option Int32 := if l1 = 0 then (some (r32 z 101 th)) else (if l1 = 1 then (ob (g_X7_countUnlike ev z th) (fun v3 => some v3)) else (if l1 = 2 then (ob (g_X7_bitsOfLeast ev z th (1 : Int32)) (fun v5 => some v5)) else (if l1 = 3 then (ob (g_X7_bitsOfLeast ev z th (0 : Int32)) (fun v7 => some v7)) else (some (-1 : Int32)))))
set_option maxRecDepth 20000 in
set_option maxHeartbeats 4000000 in
theorem c_X7_count (l : Launch) (ev : EV) (z : PS) (E : EWF ev) {th : Nat} (hth : isK ev 5 th) (th_ : Nat) (l1 : Int32) (r : Int32) (h : g_X7_count ev z th l1 = some r) : Met l yX7_count (pWs yX7_count cX7_count 2 (some .int)) (pR 2 69) (va_Pc [.ref th, .int l1] (pPe ev z)) (k2_QcV (.int r)) 0 0 (fun _ => False) := by
  refine pm_of (by decide) (Nat.le_of_ble_eq_true rfl) ?_
  intro p e s m below meth c S hr hlk hv ls hl
  obtain ⟨hP, hK, hX⟩ := hv
  have hl : lv_has ls 2 [(0, .ref th), (1, .int l1)] := hl
  unfold g_X7_count at h
  refine lv_iload_n S.1 S.2.1 dX7_count_0 rfl (lv_at hl 1 rfl) ?_
  by_cases c1 : l1 = 0
  · rw [if_pos c1] at h
    refine lv_tableIn (off := 31) (tgt := 32) S.1 S.2.1 dX7_count_1 (by rw [c1]; decide) (by rw [c1]; decide) (by rw [c1]; rfl) (by decide) ?_
    refine lv_aload_n S.1 S.2.1 dX7_count_32 rfl (lv_at hl 0 rfl) ?_
    refine gf_5_1 S hK hP hth mw_1_186 dX7_count_33 ?_
    exact pm_iretR S hr hlk (Option.some.inj h) dX7_count_36
  · rw [if_neg c1] at h
    by_cases c2 : l1 = 1
    · rw [if_pos c2] at h
      refine lv_tableIn (off := 36) (tgt := 37) S.1 S.2.1 dX7_count_1 (by rw [c2]; decide) (by rw [c2]; decide) (by rw [c2]; rfl) (by decide) ?_
      refine lv_aload_n S.1 S.2.1 dX7_count_37 rfl (lv_at hl 0 rfl) ?_
      obtain ⟨v3, ev3, h⟩ := ob_s h
      refine pm_cVr (As := []) (rest := []) S hK hX hP va_S.rf (c_X7_countUnlike l ev z E hth th v3 ev3) vm_X7_countUnlike mw_3_120 (rc_5 hK hP hth) ⟨⟨rfl, rfl⟩, by decide, by decide⟩ rfl hl.1 rfl (Nat.le_of_ble_eq_true rfl) ⟨Nat.zero_le _, Nat.zero_le _⟩ dX7_count_38 ?_
      exact pm_iretR S hr hlk (Option.some.inj h) dX7_count_41
    · rw [if_neg c2] at h
      by_cases c4 : l1 = 2
      · rw [if_pos c4] at h
        refine lv_tableIn (off := 41) (tgt := 42) S.1 S.2.1 dX7_count_1 (by rw [c4]; decide) (by rw [c4]; decide) (by rw [c4]; rfl) (by decide) ?_
        refine lv_aload_n S.1 S.2.1 dX7_count_42 rfl (lv_at hl 0 rfl) ?_
        refine lv_iconst (v := 1) S.1 S.2.1 dX7_count_43 (by decide) ?_
        obtain ⟨v5, ev5, h⟩ := ob_s h
        refine pm_cVr (As := [.int (1 : Int32)]) (rest := []) S hK hX hP va_S.rf (c_X7_bitsOfLeast l ev z E hth th (1 : Int32) v5 ev5) vm_X7_bitsOfLeast mw_3_124 (rc_5 hK hP hth) ⟨⟨rfl, rfl⟩, by decide, by decide⟩ rfl hl.1 rfl (Nat.le_of_ble_eq_true rfl) ⟨Nat.zero_le _, Nat.zero_le _⟩ dX7_count_44 ?_
        exact pm_iretR S hr hlk (Option.some.inj h) dX7_count_47
      · rw [if_neg c4] at h
        by_cases c6 : l1 = 3
        · rw [if_pos c6] at h
          refine lv_tableIn (off := 47) (tgt := 48) S.1 S.2.1 dX7_count_1 (by rw [c6]; decide) (by rw [c6]; decide) (by rw [c6]; rfl) (by decide) ?_
          refine lv_aload_n S.1 S.2.1 dX7_count_48 rfl (lv_at hl 0 rfl) ?_
          refine lv_iconst (v := 0) S.1 S.2.1 dX7_count_49 (by decide) ?_
          obtain ⟨v7, ev7, h⟩ := ob_s h
          refine pm_cVr (As := [.int (0 : Int32)]) (rest := []) S hK hX hP va_S.rf (c_X7_bitsOfLeast l ev z E hth th (0 : Int32) v7 ev7) vm_X7_bitsOfLeast mw_3_124 (rc_5 hK hP hth) ⟨⟨rfl, rfl⟩, by decide, by decide⟩ rfl hl.1 rfl (Nat.le_of_ble_eq_true rfl) ⟨Nat.zero_le _, Nat.zero_le _⟩ dX7_count_50 ?_
          exact pm_iretR S hr hlk (Option.some.inj h) dX7_count_53
        · rw [if_neg c6] at h
          refine lv_tableOut (tgt := 54) S.1 S.2.1 dX7_count_1 (by have nc1 := lv_neT c1 (show (0 : Int32).toInt = 0 by decide); have nc2 := lv_neT c2 (show (1 : Int32).toInt = 1 by decide); have nc4 := lv_neT c4 (show (2 : Int32).toInt = 2 by decide); have nc6 := lv_neT c6 (show (3 : Int32).toInt = 3 by decide); omega) (by decide) ?_
          refine lv_iconst (v := -1) S.1 S.2.1 dX7_count_54 (by decide) ?_
          exact pm_iretR S hr hlk (Option.some.inj h) dX7_count_55
theorem vm_X7_count : pm_Vm yX7_count cX7_count 2 (some .int) 1 := ⟨mw_3_119, mw_3_117, mw_3_118, mw_1_1, by decide, by decide⟩
