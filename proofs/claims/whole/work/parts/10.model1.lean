def g_X8_thrown (ev : EV) (z : PS) (th : Nat) : Option Int32 := some (r32 z 120 th)
set_option maxRecDepth 20000 in
set_option maxHeartbeats 4000000 in
theorem c_X8_thrown (l : Launch) (ev : EV) (z : PS) (E : EWF ev) {th : Nat} (hth : isK ev 6 th) (th_ : Nat) (r : Int32) (h : g_X8_thrown ev z th = some r) : Met l yX8_thrown (pWs yX8_thrown cX8_thrown 1 (some .int)) (pR 0 0) (va_Pc [.ref th] (pPe ev z)) (k2_QcV (.int r)) 0 0 (fun _ => False) := by
  refine pm_of (by decide) (Nat.le_of_ble_eq_true rfl) ?_
  intro p e s m below meth c S hr hlk hv ls hl
  obtain ⟨hP, hK, hX⟩ := hv
  have hl : lv_has ls 1 [(0, .ref th)] := hl
  unfold g_X8_thrown at h
  refine lv_aload_n S.1 S.2.1 dX8_thrown_0 rfl (lv_at hl 0 rfl) ?_
  refine gf_6_0 S hK hP hth mw_3_221 dX8_thrown_1 ?_
  exact pm_iretR S hr hlk (Option.some.inj h) dX8_thrown_4
theorem vm_X8_thrown : pm_Vm yX8_thrown cX8_thrown 1 (some .int) 0 := ⟨mw_4_34, mw_4_32, mw_4_33, mw_1_7, by decide, by decide⟩
def g_X8_within (l0 : Int64) (l2 : Int64) (l4 : Int64) : Option Int32 := if l0 < l2 then (some (0 : Int32)) else (if l4 < l0 then (some (0 : Int32)) else (some (1 : Int32)))
set_option maxRecDepth 20000 in
set_option maxHeartbeats 4000000 in
theorem c_X8_within (l : Launch) (l0 : Int64) (l2 : Int64) (l4 : Int64) (r : Int32) (h : g_X8_within l0 l2 l4 = some r) : Met l yX8_within (pWs yX8_within cX8_within 6 (some .boolean)) (pR 0 0) (va_Pc [.long l0, .long l2, .long l4] (fun _ => True)) (k2_QcV (.int r)) 0 0 (fun _ => False) := by
  refine pm_of (by decide) (Nat.le_of_ble_eq_true rfl) ?_
  intro p e s m below meth c S hr hlk hv ls hl
  have hl : lv_has ls 6 [(0, .long l0), (2, .long l2), (4, .long l4)] := hl
  unfold g_X8_within at h
  refine lv_lload_n S.1 S.2.1 dX8_within_0 rfl (lv_at hl 0 rfl) ?_
  refine lv_lload_n S.1 S.2.1 dX8_within_1 rfl (lv_at hl 1 rfl) ?_
  refine pm_llt (tgt := 17) S dX8_within_2 dX8_within_3 (by decide) (fun c1 => ?_) (fun c1 => ?_)
  · rw [if_pos c1] at h
    refine lv_iconst (v := 0) S.1 S.2.1 dX8_within_17 (by decide) ?_
    exact pm_zretR S hr hlk (Or.inl rfl) (Option.some.inj h) dX8_within_18
  · rw [if_neg c1] at h
    refine lv_lload_n S.1 S.2.1 dX8_within_6 rfl (lv_at hl 0 rfl) ?_
    refine lv_lload S.1 S.2.1 dX8_within_7 (lv_at hl 2 rfl) ?_
    refine pm_lgt (tgt := 17) S dX8_within_9 dX8_within_10 (by decide) (fun c2 => ?_) (fun c2 => ?_)
    · rw [if_pos c2] at h
      refine lv_iconst (v := 0) S.1 S.2.1 dX8_within_17 (by decide) ?_
      exact pm_zretR S hr hlk (Or.inl rfl) (Option.some.inj h) dX8_within_18
    · rw [if_neg c2] at h
      refine lv_iconst (v := 1) S.1 S.2.1 dX8_within_13 (by decide) ?_
      refine lv_goto (tgt := 18) S.1 S.2.1 dX8_within_14 (by decide) ?_
      exact pm_zretR S hr hlk (Or.inr rfl) (Option.some.inj h) dX8_within_18
theorem sm_X8_within : pm_Sm yX8_within cX8_within 6 (some .boolean) 3 := ⟨mw_4_43, mw_4_42, mw_1_7, by decide, by decide⟩
def g_X8_size (l0 : Int64) : Option Int64 := if (0 : Int64) ≤ l0 then (some l0) else (some (-l0))
set_option maxRecDepth 20000 in
set_option maxHeartbeats 4000000 in
theorem c_X8_size (l : Launch) (l0 : Int64) (r : Int64) (h : g_X8_size l0 = some r) : Met l yX8_size (pWs yX8_size cX8_size 2 (some .long)) (pR 0 0) (va_Pc [.long l0] (fun _ => True)) (k2_QcV (.long r)) 0 0 (fun _ => False) := by
  refine pm_of (by decide) (Nat.le_of_ble_eq_true rfl) ?_
  intro p e s m below meth c S hr hlk hv ls hl
  have hl : lv_has ls 2 [(0, .long l0)] := hl
  unfold g_X8_size at h
  refine lv_lload_n S.1 S.2.1 dX8_size_0 rfl (lv_at hl 0 rfl) ?_
  refine lv_lconst (v := 0) S.1 S.2.1 dX8_size_1 (by decide) ?_
  refine pm_lge (tgt := 11) S dX8_size_2 dX8_size_3 (by decide) (fun c1 => ?_) (fun c1 => ?_)
  · rw [if_pos c1] at h
    refine lv_lload_n S.1 S.2.1 dX8_size_11 rfl (lv_at hl 0 rfl) ?_
    exact pm_lretR S hr hlk (Option.some.inj h) dX8_size_12
  · rw [if_neg c1] at h
    refine lv_lload_n S.1 S.2.1 dX8_size_6 rfl (lv_at hl 0 rfl) ?_
    refine lv_lneg S.1 S.2.1 dX8_size_7 ?_
    refine lv_goto (tgt := 12) S.1 S.2.1 dX8_size_8 (by decide) ?_
    exact pm_lretR S hr hlk (Option.some.inj h) dX8_size_12
theorem sm_X8_size : pm_Sm yX8_size cX8_size 2 (some .long) 1 := ⟨mw_4_80, mw_4_79, mw_1_7, by decide, by decide⟩
def q_X8_loads_2 (ev : EV) (th : Nat) : Nat → Int32 → Int32 → PS → Option PS
  | 0, _, _, _ => none
  | n + 1, l1, l2, z => if (5 : Int32) ≤ l2 then (some z) else (ck (inB (((5 : Int32) * l1) + l2) 80) (bd ((rJ z (rf ev 122 th) (((5 : Int32) * l1) + l2).toNatClampNeg)) (fun v3 => ck (inB l2 5) (bd (wJ z (rf ev 123 th) l2.toNatClampNeg v3) (fun z5 => bd (l2 + (1 : Int32)) (fun v6 => q_X8_loads_2 ev th n l1 v6 z5))))))
set_option maxRecDepth 20000 in
set_option maxHeartbeats 4000000 in
theorem w_X8_loads_2 {ev : EV} {th : Nat} {p : Program} {l : Launch} {e : Env} {s : State} {m : MethodId} {args : Array Value} {below : List Frame} {meth : Method} {c : Code} {z9 : PS} (S : CallFix p m c cX8_loads 3 s args gT RX8) (hr : meth.sig.returnType = none) (hlk : meth.locks = false) (E : EWF ev) (hK : KK ev s) (hX : pXt ev s) (hth : isK ev 6 th) : ∀ (n : Nat), ∀ (l1 : Int32) (l2 : Int32) (z : PS) (ls : Array Slot) (H : Heap) (locs : List Loc), q_X8_loads_2 ev th n l1 l2 z = some z9 → lv_has ls 3 [(0, .ref th), (1, .int l1), (2, .int l2)] → Wd ev z H → SS ev s H locs → W p l e (pR 0 0) s m args below meth c H locs 0 0 (MQ below (pQv ev z9) args s 0 0 (eA ev)) (F0 m 2 ls []) := by
  intro n
  induction n with
  | zero => intro l1 l2 z ls H locs h; cases h
  | succ n ih =>
    intro l1 l2 z ls H locs h hl hP hS
    rw [q_X8_loads_2] at h
    refine lv_iload_n S.1 S.2.1 dX8_loads_2 rfl (lv_at hl 2 rfl) ?_
    refine lv_iconst (v := 5) S.1 S.2.1 dX8_loads_3 (by decide) ?_
    refine lv_icmp_ge (tgt := 29) S.1 S.2.1 dX8_loads_4 (by decide) (fun c1 => ?_) (fun c1 => ?_)
    · rw [if_pos c1] at h
      exact pm_vretW S hr hlk hP hS (Option.some.inj h) dX8_loads_29
    · rw [if_neg c1] at h
      refine lv_aload_n S.1 S.2.1 dX8_loads_7 rfl (lv_at hl 0 rfl) ?_
      refine gf_6_3 S hK hP hth mw_3_224 dX8_loads_8 ?_
      refine lv_iload_n S.1 S.2.1 dX8_loads_11 rfl (lv_at hl 2 rfl) ?_
      refine lv_aload_n S.1 S.2.1 dX8_loads_12 rfl (lv_at hl 0 rfl) ?_
      refine gf_6_2 S hK hP hth mw_3_223 dX8_loads_13 ?_
      refine lv_iconst (v := 5) S.1 S.2.1 dX8_loads_16 (by decide) ?_
      refine lv_iload_n S.1 S.2.1 dX8_loads_17 rfl (lv_at hl 1 rfl) ?_
      refine lv_imul S.1 S.2.1 dX8_loads_18 ?_
      refine lv_iload_n S.1 S.2.1 dX8_loads_19 rfl (lv_at hl 2 rfl) ?_
      refine lv_iadd S.1 S.2.1 dX8_loads_20 ?_
      obtain ⟨hc2, h⟩ := ck_s h
      refine al_J S hK hP (E_6_2 E hth) (by rw [N_6_2 E hth]; exact hc2) dX8_loads_21 ?_
      obtain ⟨v3, ev3, h⟩ := bd_s h
      refine pm_nmL ev3 ?_
      obtain ⟨hc4, h⟩ := ck_s h
      obtain ⟨z5, ez5, h⟩ := bd_s h
      refine as_J S E hK hP hS (E_6_3 E hth) (by rw [N_6_3 E hth]; exact hc4) dX8_loads_22 (fun H locs hP hS => ?_)
      rw [← ez5] at hP
      obtain ⟨v6, ev6, h⟩ := bd_s h
      refine lv_iinc (v := v6) (lv' := [(2, .int v6), (0, .ref th), (1, .int l1)]) S.1 S.2.1 dX8_loads_23 hl (k := 2) rfl (by rw [ev6]; rfl) (by decide) rfl (fun ls hl => ?_)
      refine lv_goto (tgt := 2) S.1 S.2.1 dX8_loads_26 (by decide) ?_
      exact ih l1 v6 z5 ls _ _ h (lv_sub hl [1, 2, 0] rfl) hP hS
def g_X8_loads (ev : EV) (z : PS) (th : Nat) (l1 : Int32) : Option PS := q_X8_loads_2 ev th FU l1 (0 : Int32) z
set_option maxRecDepth 20000 in
set_option maxHeartbeats 4000000 in
theorem c_X8_loads (l : Launch) (ev : EV) (z : PS) (E : EWF ev) {th : Nat} (hth : isK ev 6 th) (th_ : Nat) (l1 : Int32) (z9 : PS) (h : g_X8_loads ev z th l1 = some z9) : Met l yX8_loads (pWs yX8_loads cX8_loads 3 none) (pR 0 0) (va_Pc [.ref th, .int l1] (pPe ev z)) (pQv ev z9) 0 0 (eA ev) := by
  refine pm_of (by decide) (Nat.le_of_ble_eq_true rfl) ?_
  intro p e s m below meth c S hr hlk hv ls hl
  obtain ⟨hP, hK, hX⟩ := hv
  have hS : SS ev s s.heap [] := va_S.rf
  have hl : lv_has ls 3 [(0, .ref th), (1, .int l1)] := hl
  unfold g_X8_loads at h
  refine lv_iconst (v := 0) S.1 S.2.1 dX8_loads_0 (by decide) ?_
  refine lv_istore_n (lv' := [(2, .int (0 : Int32)), (0, .ref th), (1, .int l1)]) S.1 S.2.1 dX8_loads_1 rfl hl (by decide) rfl (fun ls hl => ?_)
  exact w_X8_loads_2 S hr hlk E hK hX hth FU l1 (0 : Int32) z ls _ _ h (lv_sub hl [1, 2, 0] rfl) hP hS
theorem vm_X8_loads : pm_Vm yX8_loads cX8_loads 3 none 1 := ⟨mw_4_94, mw_4_93, ms_467, mw_1_7, by decide, by decide⟩
def g_X8_isCurve (ev : EV) (z : PS) (th : Nat) (l1 : Int32) : Option Int32 := if l1 < 0 then (some (0 : Int32)) else (if (r32 z 121 th) ≤ l1 then (some (0 : Int32)) else (some (1 : Int32)))
set_option maxRecDepth 20000 in
set_option maxHeartbeats 4000000 in
theorem c_X8_isCurve (l : Launch) (ev : EV) (z : PS) (E : EWF ev) {th : Nat} (hth : isK ev 6 th) (th_ : Nat) (l1 : Int32) (r : Int32) (h : g_X8_isCurve ev z th l1 = some r) : Met l yX8_isCurve (pWs yX8_isCurve cX8_isCurve 2 (some .boolean)) (pR 0 0) (va_Pc [.ref th, .int l1] (pPe ev z)) (k2_QcV (.int r)) 0 0 (fun _ => False) := by
  refine pm_of (by decide) (Nat.le_of_ble_eq_true rfl) ?_
  intro p e s m below meth c S hr hlk hv ls hl
  obtain ⟨hP, hK, hX⟩ := hv
  have hl : lv_has ls 2 [(0, .ref th), (1, .int l1)] := hl
  unfold g_X8_isCurve at h
  refine lv_iload_n S.1 S.2.1 dX8_isCurve_0 rfl (lv_at hl 1 rfl) ?_
  refine lv_if_lt (tgt := 16) S.1 S.2.1 dX8_isCurve_1 (by decide) (fun c1 => ?_) (fun c1 => ?_)
  · rw [if_pos c1] at h
    refine lv_iconst (v := 0) S.1 S.2.1 dX8_isCurve_16 (by decide) ?_
    exact pm_zretR S hr hlk (Or.inl rfl) (Option.some.inj h) dX8_isCurve_17
  · rw [if_neg c1] at h
    refine lv_iload_n S.1 S.2.1 dX8_isCurve_4 rfl (lv_at hl 1 rfl) ?_
    refine lv_aload_n S.1 S.2.1 dX8_isCurve_5 rfl (lv_at hl 0 rfl) ?_
    refine gf_6_1 S hK hP hth mw_3_222 dX8_isCurve_6 ?_
    refine lv_icmp_ge (tgt := 16) S.1 S.2.1 dX8_isCurve_9 (by decide) (fun c2 => ?_) (fun c2 => ?_)
    · rw [if_pos c2] at h
      refine lv_iconst (v := 0) S.1 S.2.1 dX8_isCurve_16 (by decide) ?_
      exact pm_zretR S hr hlk (Or.inl rfl) (Option.some.inj h) dX8_isCurve_17
    · rw [if_neg c2] at h
      refine lv_iconst (v := 1) S.1 S.2.1 dX8_isCurve_12 (by decide) ?_
      refine lv_goto (tgt := 17) S.1 S.2.1 dX8_isCurve_13 (by decide) ?_
      exact pm_zretR S hr hlk (Or.inr rfl) (Option.some.inj h) dX8_isCurve_17
theorem vm_X8_isCurve : pm_Vm yX8_isCurve cX8_isCurve 2 (some .boolean) 1 := ⟨mw_4_90, mw_4_89, ms_471, mw_1_7, by decide, by decide⟩
def g_X8_b2 (ev : EV) (z : PS) (th : Nat) : Option Int64 := some (((rJ z (rf ev 123 th) 0) * (rJ z (rf ev 123 th) 0)) + ((4 : Int64) * (rJ z (rf ev 123 th) 1)))
set_option maxRecDepth 20000 in
set_option maxHeartbeats 4000000 in
theorem c_X8_b2 (l : Launch) (ev : EV) (z : PS) (E : EWF ev) {th : Nat} (hth : isK ev 6 th) (th_ : Nat) (r : Int64) (h : g_X8_b2 ev z th = some r) : Met l yX8_b2 (pWs yX8_b2 cX8_b2 1 (some .long)) (pR 0 0) (va_Pc [.ref th] (pPe ev z)) (k2_QcV (.long r)) 0 0 (fun _ => False) := by
  refine pm_of (by decide) (Nat.le_of_ble_eq_true rfl) ?_
  intro p e s m below meth c S hr hlk hv ls hl
  obtain ⟨hP, hK, hX⟩ := hv
  have hl : lv_has ls 1 [(0, .ref th)] := hl
  unfold g_X8_b2 at h
  refine lv_aload_n S.1 S.2.1 dX8_b2_0 rfl (lv_at hl 0 rfl) ?_
  refine gf_6_3 S hK hP hth mw_3_224 dX8_b2_1 ?_
  refine lv_iconst (v := 0) S.1 S.2.1 dX8_b2_4 (by decide) ?_
  refine al_J S hK hP (E_6_3 E hth) (by rw [N_6_3 E hth]; decide) dX8_b2_5 ?_
  refine pm_nmL (v := (rJ z (rf ev 123 th) 0)) rfl ?_
  refine lv_aload_n S.1 S.2.1 dX8_b2_6 rfl (lv_at hl 0 rfl) ?_
  refine gf_6_3 S hK hP hth mw_3_224 dX8_b2_7 ?_
  refine lv_iconst (v := 0) S.1 S.2.1 dX8_b2_10 (by decide) ?_
  refine al_J S hK hP (E_6_3 E hth) (by rw [N_6_3 E hth]; decide) dX8_b2_11 ?_
  refine pm_nmL (v := (rJ z (rf ev 123 th) 0)) rfl ?_
  refine lv_lmul S.1 S.2.1 dX8_b2_12 ?_
  refine pm_ldc2 S mw_4_54 dX8_b2_13 ?_
  refine lv_aload_n S.1 S.2.1 dX8_b2_16 rfl (lv_at hl 0 rfl) ?_
  refine gf_6_3 S hK hP hth mw_3_224 dX8_b2_17 ?_
  refine lv_iconst (v := 1) S.1 S.2.1 dX8_b2_20 (by decide) ?_
  refine al_J S hK hP (E_6_3 E hth) (by rw [N_6_3 E hth]; decide) dX8_b2_21 ?_
  refine pm_nmL (v := (rJ z (rf ev 123 th) 1)) rfl ?_
  refine lv_lmul S.1 S.2.1 dX8_b2_22 ?_
  refine lv_ladd S.1 S.2.1 dX8_b2_23 ?_
  exact pm_lretR S hr hlk (Option.some.inj h) dX8_b2_24
theorem vm_X8_b2 : pm_Vm yX8_b2 cX8_b2 1 (some .long) 0 := ⟨mw_4_53, mw_4_52, ms_475, mw_1_7, by decide, by decide⟩
def g_X8_b4 (ev : EV) (z : PS) (th : Nat) : Option Int64 := some (((rJ z (rf ev 123 th) 0) * (rJ z (rf ev 123 th) 2)) + ((2 : Int64) * (rJ z (rf ev 123 th) 3)))
set_option maxRecDepth 20000 in
set_option maxHeartbeats 4000000 in
theorem c_X8_b4 (l : Launch) (ev : EV) (z : PS) (E : EWF ev) {th : Nat} (hth : isK ev 6 th) (th_ : Nat) (r : Int64) (h : g_X8_b4 ev z th = some r) : Met l yX8_b4 (pWs yX8_b4 cX8_b4 1 (some .long)) (pR 0 0) (va_Pc [.ref th] (pPe ev z)) (k2_QcV (.long r)) 0 0 (fun _ => False) := by
  refine pm_of (by decide) (Nat.le_of_ble_eq_true rfl) ?_
  intro p e s m below meth c S hr hlk hv ls hl
  obtain ⟨hP, hK, hX⟩ := hv
  have hl : lv_has ls 1 [(0, .ref th)] := hl
  unfold g_X8_b4 at h
  refine lv_aload_n S.1 S.2.1 dX8_b4_0 rfl (lv_at hl 0 rfl) ?_
  refine gf_6_3 S hK hP hth mw_3_224 dX8_b4_1 ?_
  refine lv_iconst (v := 0) S.1 S.2.1 dX8_b4_4 (by decide) ?_
  refine al_J S hK hP (E_6_3 E hth) (by rw [N_6_3 E hth]; decide) dX8_b4_5 ?_
  refine pm_nmL (v := (rJ z (rf ev 123 th) 0)) rfl ?_
  refine lv_aload_n S.1 S.2.1 dX8_b4_6 rfl (lv_at hl 0 rfl) ?_
  refine gf_6_3 S hK hP hth mw_3_224 dX8_b4_7 ?_
  refine lv_iconst (v := 2) S.1 S.2.1 dX8_b4_10 (by decide) ?_
  refine al_J S hK hP (E_6_3 E hth) (by rw [N_6_3 E hth]; decide) dX8_b4_11 ?_
  refine pm_nmL (v := (rJ z (rf ev 123 th) 2)) rfl ?_
  refine lv_lmul S.1 S.2.1 dX8_b4_12 ?_
  refine pm_ldc2 S mw_4_59 dX8_b4_13 ?_
  refine lv_aload_n S.1 S.2.1 dX8_b4_16 rfl (lv_at hl 0 rfl) ?_
  refine gf_6_3 S hK hP hth mw_3_224 dX8_b4_17 ?_
  refine lv_iconst (v := 3) S.1 S.2.1 dX8_b4_20 (by decide) ?_
  refine al_J S hK hP (E_6_3 E hth) (by rw [N_6_3 E hth]; decide) dX8_b4_21 ?_
  refine pm_nmL (v := (rJ z (rf ev 123 th) 3)) rfl ?_
  refine lv_lmul S.1 S.2.1 dX8_b4_22 ?_
  refine lv_ladd S.1 S.2.1 dX8_b4_23 ?_
  exact pm_lretR S hr hlk (Option.some.inj h) dX8_b4_24
theorem vm_X8_b4 : pm_Vm yX8_b4 cX8_b4 1 (some .long) 0 := ⟨mw_4_58, mw_4_57, ms_479, mw_1_7, by decide, by decide⟩
def g_X8_b6 (ev : EV) (z : PS) (th : Nat) : Option Int64 := some (((rJ z (rf ev 123 th) 2) * (rJ z (rf ev 123 th) 2)) + ((4 : Int64) * (rJ z (rf ev 123 th) 4)))
set_option maxRecDepth 20000 in
set_option maxHeartbeats 4000000 in
theorem c_X8_b6 (l : Launch) (ev : EV) (z : PS) (E : EWF ev) {th : Nat} (hth : isK ev 6 th) (th_ : Nat) (r : Int64) (h : g_X8_b6 ev z th = some r) : Met l yX8_b6 (pWs yX8_b6 cX8_b6 1 (some .long)) (pR 0 0) (va_Pc [.ref th] (pPe ev z)) (k2_QcV (.long r)) 0 0 (fun _ => False) := by
  refine pm_of (by decide) (Nat.le_of_ble_eq_true rfl) ?_
  intro p e s m below meth c S hr hlk hv ls hl
  obtain ⟨hP, hK, hX⟩ := hv
  have hl : lv_has ls 1 [(0, .ref th)] := hl
  unfold g_X8_b6 at h
  refine lv_aload_n S.1 S.2.1 dX8_b6_0 rfl (lv_at hl 0 rfl) ?_
  refine gf_6_3 S hK hP hth mw_3_224 dX8_b6_1 ?_
  refine lv_iconst (v := 2) S.1 S.2.1 dX8_b6_4 (by decide) ?_
  refine al_J S hK hP (E_6_3 E hth) (by rw [N_6_3 E hth]; decide) dX8_b6_5 ?_
  refine pm_nmL (v := (rJ z (rf ev 123 th) 2)) rfl ?_
  refine lv_aload_n S.1 S.2.1 dX8_b6_6 rfl (lv_at hl 0 rfl) ?_
  refine gf_6_3 S hK hP hth mw_3_224 dX8_b6_7 ?_
  refine lv_iconst (v := 2) S.1 S.2.1 dX8_b6_10 (by decide) ?_
  refine al_J S hK hP (E_6_3 E hth) (by rw [N_6_3 E hth]; decide) dX8_b6_11 ?_
  refine pm_nmL (v := (rJ z (rf ev 123 th) 2)) rfl ?_
  refine lv_lmul S.1 S.2.1 dX8_b6_12 ?_
  refine pm_ldc2 S mw_4_54 dX8_b6_13 ?_
  refine lv_aload_n S.1 S.2.1 dX8_b6_16 rfl (lv_at hl 0 rfl) ?_
  refine gf_6_3 S hK hP hth mw_3_224 dX8_b6_17 ?_
  refine lv_iconst (v := 4) S.1 S.2.1 dX8_b6_20 (by decide) ?_
  refine al_J S hK hP (E_6_3 E hth) (by rw [N_6_3 E hth]; decide) dX8_b6_21 ?_
  refine pm_nmL (v := (rJ z (rf ev 123 th) 4)) rfl ?_
  refine lv_lmul S.1 S.2.1 dX8_b6_22 ?_
  refine lv_ladd S.1 S.2.1 dX8_b6_23 ?_
  exact pm_lretR S hr hlk (Option.some.inj h) dX8_b6_24
theorem vm_X8_b6 : pm_Vm yX8_b6 cX8_b6 1 (some .long) 0 := ⟨mw_4_63, mw_4_62, ms_482, mw_1_7, by decide, by decide⟩
def g_X8_b8 (ev : EV) (z : PS) (th : Nat) : Option Int64 := some (((((((rJ z (rf ev 123 th) 0) * (rJ z (rf ev 123 th) 0)) * (rJ z (rf ev 123 th) 4)) + (((4 : Int64) * (rJ z (rf ev 123 th) 1)) * (rJ z (rf ev 123 th) 4))) - (((rJ z (rf ev 123 th) 0) * (rJ z (rf ev 123 th) 2)) * (rJ z (rf ev 123 th) 3))) + (((rJ z (rf ev 123 th) 1) * (rJ z (rf ev 123 th) 2)) * (rJ z (rf ev 123 th) 2))) - ((rJ z (rf ev 123 th) 3) * (rJ z (rf ev 123 th) 3)))
set_option maxRecDepth 20000 in
set_option maxHeartbeats 4000000 in
theorem c_X8_b8 (l : Launch) (ev : EV) (z : PS) (E : EWF ev) {th : Nat} (hth : isK ev 6 th) (th_ : Nat) (r : Int64) (h : g_X8_b8 ev z th = some r) : Met l yX8_b8 (pWs yX8_b8 cX8_b8 1 (some .long)) (pR 0 0) (va_Pc [.ref th] (pPe ev z)) (k2_QcV (.long r)) 0 0 (fun _ => False) := by
  refine pm_of (by decide) (Nat.le_of_ble_eq_true rfl) ?_
  intro p e s m below meth c S hr hlk hv ls hl
  obtain ⟨hP, hK, hX⟩ := hv
  have hl : lv_has ls 1 [(0, .ref th)] := hl
  unfold g_X8_b8 at h
  refine lv_aload_n S.1 S.2.1 dX8_b8_0 rfl (lv_at hl 0 rfl) ?_
  refine gf_6_3 S hK hP hth mw_3_224 dX8_b8_1 ?_
  refine lv_iconst (v := 0) S.1 S.2.1 dX8_b8_4 (by decide) ?_
  refine al_J S hK hP (E_6_3 E hth) (by rw [N_6_3 E hth]; decide) dX8_b8_5 ?_
  refine pm_nmL (v := (rJ z (rf ev 123 th) 0)) rfl ?_
  refine lv_aload_n S.1 S.2.1 dX8_b8_6 rfl (lv_at hl 0 rfl) ?_
  refine gf_6_3 S hK hP hth mw_3_224 dX8_b8_7 ?_
  refine lv_iconst (v := 0) S.1 S.2.1 dX8_b8_10 (by decide) ?_
  refine al_J S hK hP (E_6_3 E hth) (by rw [N_6_3 E hth]; decide) dX8_b8_11 ?_
  refine pm_nmL (v := (rJ z (rf ev 123 th) 0)) rfl ?_
  refine lv_lmul S.1 S.2.1 dX8_b8_12 ?_
  refine lv_aload_n S.1 S.2.1 dX8_b8_13 rfl (lv_at hl 0 rfl) ?_
  refine gf_6_3 S hK hP hth mw_3_224 dX8_b8_14 ?_
  refine lv_iconst (v := 4) S.1 S.2.1 dX8_b8_17 (by decide) ?_
  refine al_J S hK hP (E_6_3 E hth) (by rw [N_6_3 E hth]; decide) dX8_b8_18 ?_
  refine pm_nmL (v := (rJ z (rf ev 123 th) 4)) rfl ?_
  refine lv_lmul S.1 S.2.1 dX8_b8_19 ?_
  refine pm_ldc2 S mw_4_54 dX8_b8_20 ?_
  refine lv_aload_n S.1 S.2.1 dX8_b8_23 rfl (lv_at hl 0 rfl) ?_
  refine gf_6_3 S hK hP hth mw_3_224 dX8_b8_24 ?_
  refine lv_iconst (v := 1) S.1 S.2.1 dX8_b8_27 (by decide) ?_
  refine al_J S hK hP (E_6_3 E hth) (by rw [N_6_3 E hth]; decide) dX8_b8_28 ?_
  refine pm_nmL (v := (rJ z (rf ev 123 th) 1)) rfl ?_
  refine lv_lmul S.1 S.2.1 dX8_b8_29 ?_
  refine lv_aload_n S.1 S.2.1 dX8_b8_30 rfl (lv_at hl 0 rfl) ?_
  refine gf_6_3 S hK hP hth mw_3_224 dX8_b8_31 ?_
  refine lv_iconst (v := 4) S.1 S.2.1 dX8_b8_34 (by decide) ?_
  refine al_J S hK hP (E_6_3 E hth) (by rw [N_6_3 E hth]; decide) dX8_b8_35 ?_
  refine pm_nmL (v := (rJ z (rf ev 123 th) 4)) rfl ?_
  refine lv_lmul S.1 S.2.1 dX8_b8_36 ?_
  refine lv_ladd S.1 S.2.1 dX8_b8_37 ?_
  refine lv_aload_n S.1 S.2.1 dX8_b8_38 rfl (lv_at hl 0 rfl) ?_
  refine gf_6_3 S hK hP hth mw_3_224 dX8_b8_39 ?_
  refine lv_iconst (v := 0) S.1 S.2.1 dX8_b8_42 (by decide) ?_
  refine al_J S hK hP (E_6_3 E hth) (by rw [N_6_3 E hth]; decide) dX8_b8_43 ?_
  refine pm_nmL (v := (rJ z (rf ev 123 th) 0)) rfl ?_
  refine lv_aload_n S.1 S.2.1 dX8_b8_44 rfl (lv_at hl 0 rfl) ?_
  refine gf_6_3 S hK hP hth mw_3_224 dX8_b8_45 ?_
  refine lv_iconst (v := 2) S.1 S.2.1 dX8_b8_48 (by decide) ?_
  refine al_J S hK hP (E_6_3 E hth) (by rw [N_6_3 E hth]; decide) dX8_b8_49 ?_
  refine pm_nmL (v := (rJ z (rf ev 123 th) 2)) rfl ?_
  refine lv_lmul S.1 S.2.1 dX8_b8_50 ?_
  refine lv_aload_n S.1 S.2.1 dX8_b8_51 rfl (lv_at hl 0 rfl) ?_
  refine gf_6_3 S hK hP hth mw_3_224 dX8_b8_52 ?_
  refine lv_iconst (v := 3) S.1 S.2.1 dX8_b8_55 (by decide) ?_
  refine al_J S hK hP (E_6_3 E hth) (by rw [N_6_3 E hth]; decide) dX8_b8_56 ?_
  refine pm_nmL (v := (rJ z (rf ev 123 th) 3)) rfl ?_
  refine lv_lmul S.1 S.2.1 dX8_b8_57 ?_
  refine lv_lsub S.1 S.2.1 dX8_b8_58 ?_
  refine lv_aload_n S.1 S.2.1 dX8_b8_59 rfl (lv_at hl 0 rfl) ?_
  refine gf_6_3 S hK hP hth mw_3_224 dX8_b8_60 ?_
  refine lv_iconst (v := 1) S.1 S.2.1 dX8_b8_63 (by decide) ?_
  refine al_J S hK hP (E_6_3 E hth) (by rw [N_6_3 E hth]; decide) dX8_b8_64 ?_
  refine pm_nmL (v := (rJ z (rf ev 123 th) 1)) rfl ?_
  refine lv_aload_n S.1 S.2.1 dX8_b8_65 rfl (lv_at hl 0 rfl) ?_
  refine gf_6_3 S hK hP hth mw_3_224 dX8_b8_66 ?_
  refine lv_iconst (v := 2) S.1 S.2.1 dX8_b8_69 (by decide) ?_
  refine al_J S hK hP (E_6_3 E hth) (by rw [N_6_3 E hth]; decide) dX8_b8_70 ?_
  refine pm_nmL (v := (rJ z (rf ev 123 th) 2)) rfl ?_
  refine lv_lmul S.1 S.2.1 dX8_b8_71 ?_
  refine lv_aload_n S.1 S.2.1 dX8_b8_72 rfl (lv_at hl 0 rfl) ?_
  refine gf_6_3 S hK hP hth mw_3_224 dX8_b8_73 ?_
  refine lv_iconst (v := 2) S.1 S.2.1 dX8_b8_76 (by decide) ?_
  refine al_J S hK hP (E_6_3 E hth) (by rw [N_6_3 E hth]; decide) dX8_b8_77 ?_
  refine pm_nmL (v := (rJ z (rf ev 123 th) 2)) rfl ?_
  refine lv_lmul S.1 S.2.1 dX8_b8_78 ?_
  refine lv_ladd S.1 S.2.1 dX8_b8_79 ?_
  refine lv_aload_n S.1 S.2.1 dX8_b8_80 rfl (lv_at hl 0 rfl) ?_
  refine gf_6_3 S hK hP hth mw_3_224 dX8_b8_81 ?_
  refine lv_iconst (v := 3) S.1 S.2.1 dX8_b8_84 (by decide) ?_
  refine al_J S hK hP (E_6_3 E hth) (by rw [N_6_3 E hth]; decide) dX8_b8_85 ?_
  refine pm_nmL (v := (rJ z (rf ev 123 th) 3)) rfl ?_
  refine lv_aload_n S.1 S.2.1 dX8_b8_86 rfl (lv_at hl 0 rfl) ?_
  refine gf_6_3 S hK hP hth mw_3_224 dX8_b8_87 ?_
  refine lv_iconst (v := 3) S.1 S.2.1 dX8_b8_90 (by decide) ?_
  refine al_J S hK hP (E_6_3 E hth) (by rw [N_6_3 E hth]; decide) dX8_b8_91 ?_
  refine pm_nmL (v := (rJ z (rf ev 123 th) 3)) rfl ?_
  refine lv_lmul S.1 S.2.1 dX8_b8_92 ?_
  refine lv_lsub S.1 S.2.1 dX8_b8_93 ?_
  exact pm_lretR S hr hlk (Option.some.inj h) dX8_b8_94
theorem vm_X8_b8 : pm_Vm yX8_b8 cX8_b8 1 (some .long) 0 := ⟨mw_4_67, mw_4_66, ms_485, mw_1_7, by decide, by decide⟩
def g_X8_c4 (ev : EV) (z : PS) (th : Nat) : Option Int64 := ob (g_X8_b2 ev z th) (fun v1 => ob (g_X8_b2 ev z th) (fun v2 => ob (g_X8_b4 ev z th) (fun v3 => some ((v1 * v2) - ((24 : Int64) * v3)))))
set_option maxRecDepth 20000 in
set_option maxHeartbeats 4000000 in
theorem c_X8_c4 (l : Launch) (ev : EV) (z : PS) (E : EWF ev) {th : Nat} (hth : isK ev 6 th) (th_ : Nat) (r : Int64) (h : g_X8_c4 ev z th = some r) : Met l yX8_c4 (pWs yX8_c4 cX8_c4 1 (some .long)) (pR 1 32) (va_Pc [.ref th] (pPe ev z)) (k2_QcV (.long r)) 0 0 (fun _ => False) := by
  refine pm_of (by decide) (Nat.le_of_ble_eq_true rfl) ?_
  intro p e s m below meth c S hr hlk hv ls hl
  obtain ⟨hP, hK, hX⟩ := hv
  have hl : lv_has ls 1 [(0, .ref th)] := hl
  unfold g_X8_c4 at h
  refine lv_aload_n S.1 S.2.1 dX8_c4_0 rfl (lv_at hl 0 rfl) ?_
  obtain ⟨v1, ev1, h⟩ := ob_s h
  refine pm_cVr (As := []) (rest := []) S hK hX hP va_S.rf (c_X8_b2 l ev z E hth th v1 ev1) vm_X8_b2 mw_4_50 (rc_6 hK hP hth) ⟨⟨rfl, rfl⟩, by decide, by decide⟩ rfl hl.1 rfl (Nat.le_of_ble_eq_true rfl) ⟨Nat.zero_le _, Nat.zero_le _⟩ dX8_c4_1 ?_
  refine lv_aload_n S.1 S.2.1 dX8_c4_4 rfl (lv_at hl 0 rfl) ?_
  obtain ⟨v2, ev2, h⟩ := ob_s h
  refine pm_cVr (As := []) (rest := [.long v1]) S hK hX hP va_S.rf (c_X8_b2 l ev z E hth th v2 ev2) vm_X8_b2 mw_4_50 (rc_6 hK hP hth) ⟨⟨rfl, rfl⟩, by decide, by decide⟩ rfl hl.1 rfl (Nat.le_of_ble_eq_true rfl) ⟨Nat.zero_le _, Nat.zero_le _⟩ dX8_c4_5 ?_
  refine lv_lmul S.1 S.2.1 dX8_c4_8 ?_
  refine pm_ldc2 S mw_4_159 dX8_c4_9 ?_
  refine lv_aload_n S.1 S.2.1 dX8_c4_12 rfl (lv_at hl 0 rfl) ?_
  obtain ⟨v3, ev3, h⟩ := ob_s h
  refine pm_cVr (As := []) (rest := [.long (24 : Int64), .long (v1 * v2)]) S hK hX hP va_S.rf (c_X8_b4 l ev z E hth th v3 ev3) vm_X8_b4 mw_4_55 (rc_6 hK hP hth) ⟨⟨rfl, rfl⟩, by decide, by decide⟩ rfl hl.1 rfl (Nat.le_of_ble_eq_true rfl) ⟨Nat.zero_le _, Nat.zero_le _⟩ dX8_c4_13 ?_
  refine lv_lmul S.1 S.2.1 dX8_c4_16 ?_
  refine lv_lsub S.1 S.2.1 dX8_c4_17 ?_
  exact pm_lretR S hr hlk (Option.some.inj h) dX8_c4_18
theorem vm_X8_c4 : pm_Vm yX8_c4 cX8_c4 1 (some .long) 0 := ⟨mw_4_158, mw_4_157, ms_491, mw_1_7, by decide, by decide⟩
def g_X8_c6 (ev : EV) (z : PS) (th : Nat) : Option Int64 := ob (g_X8_b2 ev z th) (fun v1 => ob (g_X8_b4 ev z th) (fun v2 => ob (g_X8_b2 ev z th) (fun v3 => ob (g_X8_b2 ev z th) (fun v4 => ob (g_X8_b2 ev z th) (fun v5 => ob (g_X8_b6 ev z th) (fun v6 => some (((((36 : Int64) * v1) * v2) - ((v3 * v4) * v5)) - ((216 : Int64) * v6))))))))
set_option maxRecDepth 20000 in
set_option maxHeartbeats 4000000 in
theorem c_X8_c6 (l : Launch) (ev : EV) (z : PS) (E : EWF ev) {th : Nat} (hth : isK ev 6 th) (th_ : Nat) (r : Int64) (h : g_X8_c6 ev z th = some r) : Met l yX8_c6 (pWs yX8_c6 cX8_c6 1 (some .long)) (pR 1 32) (va_Pc [.ref th] (pPe ev z)) (k2_QcV (.long r)) 0 0 (fun _ => False) := by
  refine pm_of (by decide) (Nat.le_of_ble_eq_true rfl) ?_
  intro p e s m below meth c S hr hlk hv ls hl
  obtain ⟨hP, hK, hX⟩ := hv
  have hl : lv_has ls 1 [(0, .ref th)] := hl
  unfold g_X8_c6 at h
  refine pm_ldc2 S mw_4_164 dX8_c6_0 ?_
  refine lv_aload_n S.1 S.2.1 dX8_c6_3 rfl (lv_at hl 0 rfl) ?_
  obtain ⟨v1, ev1, h⟩ := ob_s h
  refine pm_cVr (As := []) (rest := [.long (36 : Int64)]) S hK hX hP va_S.rf (c_X8_b2 l ev z E hth th v1 ev1) vm_X8_b2 mw_4_50 (rc_6 hK hP hth) ⟨⟨rfl, rfl⟩, by decide, by decide⟩ rfl hl.1 rfl (Nat.le_of_ble_eq_true rfl) ⟨Nat.zero_le _, Nat.zero_le _⟩ dX8_c6_4 ?_
  refine lv_lmul S.1 S.2.1 dX8_c6_7 ?_
  refine lv_aload_n S.1 S.2.1 dX8_c6_8 rfl (lv_at hl 0 rfl) ?_
  obtain ⟨v2, ev2, h⟩ := ob_s h
  refine pm_cVr (As := []) (rest := [.long ((36 : Int64) * v1)]) S hK hX hP va_S.rf (c_X8_b4 l ev z E hth th v2 ev2) vm_X8_b4 mw_4_55 (rc_6 hK hP hth) ⟨⟨rfl, rfl⟩, by decide, by decide⟩ rfl hl.1 rfl (Nat.le_of_ble_eq_true rfl) ⟨Nat.zero_le _, Nat.zero_le _⟩ dX8_c6_9 ?_
  refine lv_lmul S.1 S.2.1 dX8_c6_12 ?_
  refine lv_aload_n S.1 S.2.1 dX8_c6_13 rfl (lv_at hl 0 rfl) ?_
  obtain ⟨v3, ev3, h⟩ := ob_s h
  refine pm_cVr (As := []) (rest := [.long (((36 : Int64) * v1) * v2)]) S hK hX hP va_S.rf (c_X8_b2 l ev z E hth th v3 ev3) vm_X8_b2 mw_4_50 (rc_6 hK hP hth) ⟨⟨rfl, rfl⟩, by decide, by decide⟩ rfl hl.1 rfl (Nat.le_of_ble_eq_true rfl) ⟨Nat.zero_le _, Nat.zero_le _⟩ dX8_c6_14 ?_
  refine lv_aload_n S.1 S.2.1 dX8_c6_17 rfl (lv_at hl 0 rfl) ?_
  obtain ⟨v4, ev4, h⟩ := ob_s h
  refine pm_cVr (As := []) (rest := [.long v3, .long (((36 : Int64) * v1) * v2)]) S hK hX hP va_S.rf (c_X8_b2 l ev z E hth th v4 ev4) vm_X8_b2 mw_4_50 (rc_6 hK hP hth) ⟨⟨rfl, rfl⟩, by decide, by decide⟩ rfl hl.1 rfl (Nat.le_of_ble_eq_true rfl) ⟨Nat.zero_le _, Nat.zero_le _⟩ dX8_c6_18 ?_
  refine lv_lmul S.1 S.2.1 dX8_c6_21 ?_
  refine lv_aload_n S.1 S.2.1 dX8_c6_22 rfl (lv_at hl 0 rfl) ?_
  obtain ⟨v5, ev5, h⟩ := ob_s h
  refine pm_cVr (As := []) (rest := [.long (v3 * v4), .long (((36 : Int64) * v1) * v2)]) S hK hX hP va_S.rf (c_X8_b2 l ev z E hth th v5 ev5) vm_X8_b2 mw_4_50 (rc_6 hK hP hth) ⟨⟨rfl, rfl⟩, by decide, by decide⟩ rfl hl.1 rfl (Nat.le_of_ble_eq_true rfl) ⟨Nat.zero_le _, Nat.zero_le _⟩ dX8_c6_23 ?_
  refine lv_lmul S.1 S.2.1 dX8_c6_26 ?_
  refine lv_lsub S.1 S.2.1 dX8_c6_27 ?_
  refine pm_ldc2 S mw_4_165 dX8_c6_28 ?_
  refine lv_aload_n S.1 S.2.1 dX8_c6_31 rfl (lv_at hl 0 rfl) ?_
  obtain ⟨v6, ev6, h⟩ := ob_s h
  refine pm_cVr (As := []) (rest := [.long (216 : Int64), .long ((((36 : Int64) * v1) * v2) - ((v3 * v4) * v5))]) S hK hX hP va_S.rf (c_X8_b6 l ev z E hth th v6 ev6) vm_X8_b6 mw_4_60 (rc_6 hK hP hth) ⟨⟨rfl, rfl⟩, by decide, by decide⟩ rfl hl.1 rfl (Nat.le_of_ble_eq_true rfl) ⟨Nat.zero_le _, Nat.zero_le _⟩ dX8_c6_32 ?_
  refine lv_lmul S.1 S.2.1 dX8_c6_35 ?_
  refine lv_lsub S.1 S.2.1 dX8_c6_36 ?_
  exact pm_lretR S hr hlk (Option.some.inj h) dX8_c6_37
theorem vm_X8_c6 : pm_Vm yX8_c6 cX8_c6 1 (some .long) 0 := ⟨mw_4_163, mw_4_162, ms_497, mw_1_7, by decide, by decide⟩
def g_X8_disc (ev : EV) (z : PS) (th : Nat) : Option Int64 := ob (g_X8_b2 ev z th) (fun v1 => ob (g_X8_b4 ev z th) (fun v2 => ob (g_X8_b6 ev z th) (fun v3 => ob (g_X8_b2 ev z th) (fun v4 => ob (g_X8_b2 ev z th) (fun v5 => ob (g_X8_b8 ev z th) (fun v6 => ob (g_X8_b4 ev z th) (fun v7 => ob (g_X8_b4 ev z th) (fun v8 => ob (g_X8_b4 ev z th) (fun v9 => ob (g_X8_b6 ev z th) (fun v10 => ob (g_X8_b6 ev z th) (fun v11 => some (((((((9 : Int64) * v1) * v2) * v3) - ((v4 * v5) * v6)) - ((((8 : Int64) * v7) * v8) * v9)) - (((27 : Int64) * v10) * v11)))))))))))))
set_option maxRecDepth 20000 in
set_option maxHeartbeats 4000000 in
theorem c_X8_disc (l : Launch) (ev : EV) (z : PS) (E : EWF ev) {th : Nat} (hth : isK ev 6 th) (th_ : Nat) (r : Int64) (h : g_X8_disc ev z th = some r) : Met l yX8_disc (pWs yX8_disc cX8_disc 1 (some .long)) (pR 1 32) (va_Pc [.ref th] (pPe ev z)) (k2_QcV (.long r)) 0 0 (fun _ => False) := by
  refine pm_of (by decide) (Nat.le_of_ble_eq_true rfl) ?_
  intro p e s m below meth c S hr hlk hv ls hl
  obtain ⟨hP, hK, hX⟩ := hv
  have hl : lv_has ls 1 [(0, .ref th)] := hl
  unfold g_X8_disc at h
  refine pm_ldc2 S mw_4_40 dX8_disc_0 ?_
  refine lv_aload_n S.1 S.2.1 dX8_disc_3 rfl (lv_at hl 0 rfl) ?_
  obtain ⟨v1, ev1, h⟩ := ob_s h
  refine pm_cVr (As := []) (rest := [.long (9 : Int64)]) S hK hX hP va_S.rf (c_X8_b2 l ev z E hth th v1 ev1) vm_X8_b2 mw_4_50 (rc_6 hK hP hth) ⟨⟨rfl, rfl⟩, by decide, by decide⟩ rfl hl.1 rfl (Nat.le_of_ble_eq_true rfl) ⟨Nat.zero_le _, Nat.zero_le _⟩ dX8_disc_4 ?_
  refine lv_lmul S.1 S.2.1 dX8_disc_7 ?_
  refine lv_aload_n S.1 S.2.1 dX8_disc_8 rfl (lv_at hl 0 rfl) ?_
  obtain ⟨v2, ev2, h⟩ := ob_s h
  refine pm_cVr (As := []) (rest := [.long ((9 : Int64) * v1)]) S hK hX hP va_S.rf (c_X8_b4 l ev z E hth th v2 ev2) vm_X8_b4 mw_4_55 (rc_6 hK hP hth) ⟨⟨rfl, rfl⟩, by decide, by decide⟩ rfl hl.1 rfl (Nat.le_of_ble_eq_true rfl) ⟨Nat.zero_le _, Nat.zero_le _⟩ dX8_disc_9 ?_
  refine lv_lmul S.1 S.2.1 dX8_disc_12 ?_
  refine lv_aload_n S.1 S.2.1 dX8_disc_13 rfl (lv_at hl 0 rfl) ?_
  obtain ⟨v3, ev3, h⟩ := ob_s h
  refine pm_cVr (As := []) (rest := [.long (((9 : Int64) * v1) * v2)]) S hK hX hP va_S.rf (c_X8_b6 l ev z E hth th v3 ev3) vm_X8_b6 mw_4_60 (rc_6 hK hP hth) ⟨⟨rfl, rfl⟩, by decide, by decide⟩ rfl hl.1 rfl (Nat.le_of_ble_eq_true rfl) ⟨Nat.zero_le _, Nat.zero_le _⟩ dX8_disc_14 ?_
  refine lv_lmul S.1 S.2.1 dX8_disc_17 ?_
  refine lv_aload_n S.1 S.2.1 dX8_disc_18 rfl (lv_at hl 0 rfl) ?_
  obtain ⟨v4, ev4, h⟩ := ob_s h
  refine pm_cVr (As := []) (rest := [.long ((((9 : Int64) * v1) * v2) * v3)]) S hK hX hP va_S.rf (c_X8_b2 l ev z E hth th v4 ev4) vm_X8_b2 mw_4_50 (rc_6 hK hP hth) ⟨⟨rfl, rfl⟩, by decide, by decide⟩ rfl hl.1 rfl (Nat.le_of_ble_eq_true rfl) ⟨Nat.zero_le _, Nat.zero_le _⟩ dX8_disc_19 ?_
  refine lv_aload_n S.1 S.2.1 dX8_disc_22 rfl (lv_at hl 0 rfl) ?_
  obtain ⟨v5, ev5, h⟩ := ob_s h
  refine pm_cVr (As := []) (rest := [.long v4, .long ((((9 : Int64) * v1) * v2) * v3)]) S hK hX hP va_S.rf (c_X8_b2 l ev z E hth th v5 ev5) vm_X8_b2 mw_4_50 (rc_6 hK hP hth) ⟨⟨rfl, rfl⟩, by decide, by decide⟩ rfl hl.1 rfl (Nat.le_of_ble_eq_true rfl) ⟨Nat.zero_le _, Nat.zero_le _⟩ dX8_disc_23 ?_
  refine lv_lmul S.1 S.2.1 dX8_disc_26 ?_
  refine lv_aload_n S.1 S.2.1 dX8_disc_27 rfl (lv_at hl 0 rfl) ?_
  obtain ⟨v6, ev6, h⟩ := ob_s h
  refine pm_cVr (As := []) (rest := [.long (v4 * v5), .long ((((9 : Int64) * v1) * v2) * v3)]) S hK hX hP va_S.rf (c_X8_b8 l ev z E hth th v6 ev6) vm_X8_b8 mw_4_64 (rc_6 hK hP hth) ⟨⟨rfl, rfl⟩, by decide, by decide⟩ rfl hl.1 rfl (Nat.le_of_ble_eq_true rfl) ⟨Nat.zero_le _, Nat.zero_le _⟩ dX8_disc_28 ?_
  refine lv_lmul S.1 S.2.1 dX8_disc_31 ?_
  refine lv_lsub S.1 S.2.1 dX8_disc_32 ?_
  refine pm_ldc2 S mw_4_68 dX8_disc_33 ?_
  refine lv_aload_n S.1 S.2.1 dX8_disc_36 rfl (lv_at hl 0 rfl) ?_
  obtain ⟨v7, ev7, h⟩ := ob_s h
  refine pm_cVr (As := []) (rest := [.long (8 : Int64), .long (((((9 : Int64) * v1) * v2) * v3) - ((v4 * v5) * v6))]) S hK hX hP va_S.rf (c_X8_b4 l ev z E hth th v7 ev7) vm_X8_b4 mw_4_55 (rc_6 hK hP hth) ⟨⟨rfl, rfl⟩, by decide, by decide⟩ rfl hl.1 rfl (Nat.le_of_ble_eq_true rfl) ⟨Nat.zero_le _, Nat.zero_le _⟩ dX8_disc_37 ?_
  refine lv_lmul S.1 S.2.1 dX8_disc_40 ?_
  refine lv_aload_n S.1 S.2.1 dX8_disc_41 rfl (lv_at hl 0 rfl) ?_
  obtain ⟨v8, ev8, h⟩ := ob_s h
  refine pm_cVr (As := []) (rest := [.long ((8 : Int64) * v7), .long (((((9 : Int64) * v1) * v2) * v3) - ((v4 * v5) * v6))]) S hK hX hP va_S.rf (c_X8_b4 l ev z E hth th v8 ev8) vm_X8_b4 mw_4_55 (rc_6 hK hP hth) ⟨⟨rfl, rfl⟩, by decide, by decide⟩ rfl hl.1 rfl (Nat.le_of_ble_eq_true rfl) ⟨Nat.zero_le _, Nat.zero_le _⟩ dX8_disc_42 ?_
  refine lv_lmul S.1 S.2.1 dX8_disc_45 ?_
  refine lv_aload_n S.1 S.2.1 dX8_disc_46 rfl (lv_at hl 0 rfl) ?_
  obtain ⟨v9, ev9, h⟩ := ob_s h
  refine pm_cVr (As := []) (rest := [.long (((8 : Int64) * v7) * v8), .long (((((9 : Int64) * v1) * v2) * v3) - ((v4 * v5) * v6))]) S hK hX hP va_S.rf (c_X8_b4 l ev z E hth th v9 ev9) vm_X8_b4 mw_4_55 (rc_6 hK hP hth) ⟨⟨rfl, rfl⟩, by decide, by decide⟩ rfl hl.1 rfl (Nat.le_of_ble_eq_true rfl) ⟨Nat.zero_le _, Nat.zero_le _⟩ dX8_disc_47 ?_
  refine lv_lmul S.1 S.2.1 dX8_disc_50 ?_
  refine lv_lsub S.1 S.2.1 dX8_disc_51 ?_
  refine pm_ldc2 S mw_4_69 dX8_disc_52 ?_
  refine lv_aload_n S.1 S.2.1 dX8_disc_55 rfl (lv_at hl 0 rfl) ?_
  obtain ⟨v10, ev10, h⟩ := ob_s h
  refine pm_cVr (As := []) (rest := [.long (27 : Int64), .long ((((((9 : Int64) * v1) * v2) * v3) - ((v4 * v5) * v6)) - ((((8 : Int64) * v7) * v8) * v9))]) S hK hX hP va_S.rf (c_X8_b6 l ev z E hth th v10 ev10) vm_X8_b6 mw_4_60 (rc_6 hK hP hth) ⟨⟨rfl, rfl⟩, by decide, by decide⟩ rfl hl.1 rfl (Nat.le_of_ble_eq_true rfl) ⟨Nat.zero_le _, Nat.zero_le _⟩ dX8_disc_56 ?_
  refine lv_lmul S.1 S.2.1 dX8_disc_59 ?_
  refine lv_aload_n S.1 S.2.1 dX8_disc_60 rfl (lv_at hl 0 rfl) ?_
  obtain ⟨v11, ev11, h⟩ := ob_s h
  refine pm_cVr (As := []) (rest := [.long ((27 : Int64) * v10), .long ((((((9 : Int64) * v1) * v2) * v3) - ((v4 * v5) * v6)) - ((((8 : Int64) * v7) * v8) * v9))]) S hK hX hP va_S.rf (c_X8_b6 l ev z E hth th v11 ev11) vm_X8_b6 mw_4_60 (rc_6 hK hP hth) ⟨⟨rfl, rfl⟩, by decide, by decide⟩ rfl hl.1 rfl (Nat.le_of_ble_eq_true rfl) ⟨Nat.zero_le _, Nat.zero_le _⟩ dX8_disc_61 ?_
  refine lv_lmul S.1 S.2.1 dX8_disc_64 ?_
  refine lv_lsub S.1 S.2.1 dX8_disc_65 ?_
  exact pm_lretR S hr hlk (Option.some.inj h) dX8_disc_66
theorem vm_X8_disc : pm_Vm yX8_disc cX8_disc 1 (some .long) 0 := ⟨mw_4_49, mw_4_48, ms_504, mw_1_7, by decide, by decide⟩
def g_X8_changes (ev : EV) (z : PS) (th : Nat) (l1 : Int64) (l3 : Int64) (l5 : Int64) : Option PS := bd ((rJ z (rf ev 123 th) 0)) (fun v1 => bd ((rJ z (rf ev 123 th) 1)) (fun v2 => bd ((rJ z (rf ev 123 th) 2)) (fun v3 => bd ((rJ z (rf ev 123 th) 3)) (fun v4 => bd ((v1 + ((2 : Int64) * l3))) (fun v5 => bd (wJ z (rf ev 123 th) 0 v5) (fun z6 => bd ((((v2 - (l3 * v1)) + ((3 : Int64) * l1)) - (l3 * l3))) (fun v7 => bd (wJ z6 (rf ev 123 th) 1 v7) (fun z8 => bd (((v3 + (l1 * v1)) + ((2 : Int64) * l5))) (fun v9 => bd (wJ z8 (rf ev 123 th) 2 v9) (fun z10 => bd ((((((v4 - (l3 * v3)) + (((2 : Int64) * l1) * v2)) - ((l5 + (l1 * l3)) * v1)) + (((3 : Int64) * l1) * l1)) - (((2 : Int64) * l3) * l5))) (fun v11 => bd (wJ z10 (rf ev 123 th) 3 v11) (fun z12 => bd ((((((((rJ z12 (rf ev 123 th) 4) + (l1 * v4)) + ((l1 * l1) * v2)) + ((l1 * l1) * l1)) - (l5 * v3)) - (l5 * l5)) - ((l1 * l5) * v1))) (fun v13 => bd (wJ z12 (rf ev 123 th) 4 v13) (fun z14 => some z14))))))))))))))
set_option maxRecDepth 20000 in
set_option maxHeartbeats 4000000 in
theorem c_X8_changes (l : Launch) (ev : EV) (z : PS) (E : EWF ev) {th : Nat} (hth : isK ev 6 th) (th_ : Nat) (l1 : Int64) (l3 : Int64) (l5 : Int64) (z9 : PS) (h : g_X8_changes ev z th l1 l3 l5 = some z9) : Met l yX8_changes (pWs yX8_changes cX8_changes 15 none) (pR 0 0) (va_Pc [.ref th, .long l1, .long l3, .long l5] (pPe ev z)) (pQv ev z9) 0 0 (eA ev) := by
  refine pm_of (by decide) (Nat.le_of_ble_eq_true rfl) ?_
  intro p e s m below meth c S hr hlk hv ls hl
  obtain ⟨hP, hK, hX⟩ := hv
  have hS : SS ev s s.heap [] := va_S.rf
  have hl : lv_has ls 15 [(0, .ref th), (1, .long l1), (3, .long l3), (5, .long l5)] := hl
  unfold g_X8_changes at h
  refine lv_aload_n S.1 S.2.1 dX8_changes_0 rfl (lv_at hl 0 rfl) ?_
  refine gf_6_3 S hK hP hth mw_3_224 dX8_changes_1 ?_
  refine lv_iconst (v := 0) S.1 S.2.1 dX8_changes_4 (by decide) ?_
  refine al_J S hK hP (E_6_3 E hth) (by rw [N_6_3 E hth]; decide) dX8_changes_5 ?_
  refine pm_nmL (v := (rJ z (rf ev 123 th) 0)) rfl ?_
  obtain ⟨v1, ev1, h⟩ := bd_s h
  refine pm_nmL ev1 ?_
  refine lv_lstore (lv' := [(7, .long v1), (0, .ref th), (1, .long l1), (3, .long l3), (5, .long l5)]) S.1 S.2.1 dX8_changes_6 hl (by decide) rfl (fun ls hl => ?_)
  refine lv_aload_n S.1 S.2.1 dX8_changes_8 rfl (lv_at hl 1 rfl) ?_
  refine gf_6_3 S hK hP hth mw_3_224 dX8_changes_9 ?_
  refine lv_iconst (v := 1) S.1 S.2.1 dX8_changes_12 (by decide) ?_
  refine al_J S hK hP (E_6_3 E hth) (by rw [N_6_3 E hth]; decide) dX8_changes_13 ?_
  refine pm_nmL (v := (rJ z (rf ev 123 th) 1)) rfl ?_
  obtain ⟨v2, ev2, h⟩ := bd_s h
  refine pm_nmL ev2 ?_
  refine lv_lstore (lv' := [(9, .long v2), (7, .long v1), (0, .ref th), (1, .long l1), (3, .long l3), (5, .long l5)]) S.1 S.2.1 dX8_changes_14 hl (by decide) rfl (fun ls hl => ?_)
  refine lv_aload_n S.1 S.2.1 dX8_changes_16 rfl (lv_at hl 2 rfl) ?_
  refine gf_6_3 S hK hP hth mw_3_224 dX8_changes_17 ?_
  refine lv_iconst (v := 2) S.1 S.2.1 dX8_changes_20 (by decide) ?_
  refine al_J S hK hP (E_6_3 E hth) (by rw [N_6_3 E hth]; decide) dX8_changes_21 ?_
  refine pm_nmL (v := (rJ z (rf ev 123 th) 2)) rfl ?_
  obtain ⟨v3, ev3, h⟩ := bd_s h
  refine pm_nmL ev3 ?_
  refine lv_lstore (lv' := [(11, .long v3), (9, .long v2), (7, .long v1), (0, .ref th), (1, .long l1), (3, .long l3), (5, .long l5)]) S.1 S.2.1 dX8_changes_22 hl (by decide) rfl (fun ls hl => ?_)
  refine lv_aload_n S.1 S.2.1 dX8_changes_24 rfl (lv_at hl 3 rfl) ?_
  refine gf_6_3 S hK hP hth mw_3_224 dX8_changes_25 ?_
  refine lv_iconst (v := 3) S.1 S.2.1 dX8_changes_28 (by decide) ?_
  refine al_J S hK hP (E_6_3 E hth) (by rw [N_6_3 E hth]; decide) dX8_changes_29 ?_
  refine pm_nmL (v := (rJ z (rf ev 123 th) 3)) rfl ?_
  obtain ⟨v4, ev4, h⟩ := bd_s h
  refine pm_nmL ev4 ?_
  refine lv_lstore (lv' := [(13, .long v4), (11, .long v3), (9, .long v2), (7, .long v1), (0, .ref th), (1, .long l1), (3, .long l3), (5, .long l5)]) S.1 S.2.1 dX8_changes_30 hl (by decide) rfl (fun ls hl => ?_)
  refine lv_aload_n S.1 S.2.1 dX8_changes_32 rfl (lv_at hl 4 rfl) ?_
  refine gf_6_3 S hK hP hth mw_3_224 dX8_changes_33 ?_
  refine lv_iconst (v := 0) S.1 S.2.1 dX8_changes_36 (by decide) ?_
  refine lv_lload S.1 S.2.1 dX8_changes_37 (lv_at hl 3 rfl) ?_
  refine pm_ldc2 S mw_4_59 dX8_changes_39 ?_
  refine lv_lload_n S.1 S.2.1 dX8_changes_42 rfl (lv_at hl 6 rfl) ?_
  refine lv_lmul S.1 S.2.1 dX8_changes_43 ?_
  refine lv_ladd S.1 S.2.1 dX8_changes_44 ?_
  obtain ⟨v5, ev5, h⟩ := bd_s h
  refine pm_nmL ev5 ?_
  obtain ⟨z6, ez6, h⟩ := bd_s h
  refine as_J S E hK hP hS (E_6_3 E hth) (by rw [N_6_3 E hth]; decide) dX8_changes_45 (fun H locs hP hS => ?_)
  have hP : Wd ev (wJ z (rf ev 123 th) 0 v5) H := hP
  rw [← ez6] at hP
  refine lv_aload_n S.1 S.2.1 dX8_changes_46 rfl (lv_at hl 4 rfl) ?_
  refine gf_6_3 S hK hP hth mw_3_224 dX8_changes_47 ?_
  refine lv_iconst (v := 1) S.1 S.2.1 dX8_changes_50 (by decide) ?_
  refine lv_lload S.1 S.2.1 dX8_changes_51 (lv_at hl 2 rfl) ?_
  refine lv_lload_n S.1 S.2.1 dX8_changes_53 rfl (lv_at hl 6 rfl) ?_
  refine lv_lload S.1 S.2.1 dX8_changes_54 (lv_at hl 3 rfl) ?_
  refine lv_lmul S.1 S.2.1 dX8_changes_56 ?_
  refine lv_lsub S.1 S.2.1 dX8_changes_57 ?_
  refine pm_ldc2 S mw_4_99 dX8_changes_58 ?_
  refine lv_lload_n S.1 S.2.1 dX8_changes_61 rfl (lv_at hl 5 rfl) ?_
  refine lv_lmul S.1 S.2.1 dX8_changes_62 ?_
  refine lv_ladd S.1 S.2.1 dX8_changes_63 ?_
  refine lv_lload_n S.1 S.2.1 dX8_changes_64 rfl (lv_at hl 6 rfl) ?_
  refine lv_lload_n S.1 S.2.1 dX8_changes_65 rfl (lv_at hl 6 rfl) ?_
  refine lv_lmul S.1 S.2.1 dX8_changes_66 ?_
  refine lv_lsub S.1 S.2.1 dX8_changes_67 ?_
  obtain ⟨v7, ev7, h⟩ := bd_s h
  refine pm_nmL ev7 ?_
  obtain ⟨z8, ez8, h⟩ := bd_s h
  refine as_J S E hK hP hS (E_6_3 E hth) (by rw [N_6_3 E hth]; decide) dX8_changes_68 (fun H locs hP hS => ?_)
  have hP : Wd ev (wJ z6 (rf ev 123 th) 1 v7) H := hP
  rw [← ez8] at hP
  refine lv_aload_n S.1 S.2.1 dX8_changes_69 rfl (lv_at hl 4 rfl) ?_
  refine gf_6_3 S hK hP hth mw_3_224 dX8_changes_70 ?_
  refine lv_iconst (v := 2) S.1 S.2.1 dX8_changes_73 (by decide) ?_
  refine lv_lload S.1 S.2.1 dX8_changes_74 (lv_at hl 1 rfl) ?_
  refine lv_lload_n S.1 S.2.1 dX8_changes_76 rfl (lv_at hl 5 rfl) ?_
  refine lv_lload S.1 S.2.1 dX8_changes_77 (lv_at hl 3 rfl) ?_
  refine lv_lmul S.1 S.2.1 dX8_changes_79 ?_
  refine lv_ladd S.1 S.2.1 dX8_changes_80 ?_
  refine pm_ldc2 S mw_4_59 dX8_changes_81 ?_
  refine lv_lload S.1 S.2.1 dX8_changes_84 (lv_at hl 7 rfl) ?_
  refine lv_lmul S.1 S.2.1 dX8_changes_86 ?_
  refine lv_ladd S.1 S.2.1 dX8_changes_87 ?_
  obtain ⟨v9, ev9, h⟩ := bd_s h
  refine pm_nmL ev9 ?_
  obtain ⟨z10, ez10, h⟩ := bd_s h
  refine as_J S E hK hP hS (E_6_3 E hth) (by rw [N_6_3 E hth]; decide) dX8_changes_88 (fun H locs hP hS => ?_)
  have hP : Wd ev (wJ z8 (rf ev 123 th) 2 v9) H := hP
  rw [← ez10] at hP
  refine lv_aload_n S.1 S.2.1 dX8_changes_89 rfl (lv_at hl 4 rfl) ?_
  refine gf_6_3 S hK hP hth mw_3_224 dX8_changes_90 ?_
  refine lv_iconst (v := 3) S.1 S.2.1 dX8_changes_93 (by decide) ?_
  refine lv_lload S.1 S.2.1 dX8_changes_94 (lv_at hl 0 rfl) ?_
  refine lv_lload_n S.1 S.2.1 dX8_changes_96 rfl (lv_at hl 6 rfl) ?_
  refine lv_lload S.1 S.2.1 dX8_changes_97 (lv_at hl 1 rfl) ?_
  refine lv_lmul S.1 S.2.1 dX8_changes_99 ?_
  refine lv_lsub S.1 S.2.1 dX8_changes_100 ?_
  refine pm_ldc2 S mw_4_59 dX8_changes_101 ?_
  refine lv_lload_n S.1 S.2.1 dX8_changes_104 rfl (lv_at hl 5 rfl) ?_
  refine lv_lmul S.1 S.2.1 dX8_changes_105 ?_
  refine lv_lload S.1 S.2.1 dX8_changes_106 (lv_at hl 2 rfl) ?_
  refine lv_lmul S.1 S.2.1 dX8_changes_108 ?_
  refine lv_ladd S.1 S.2.1 dX8_changes_109 ?_
  refine lv_lload S.1 S.2.1 dX8_changes_110 (lv_at hl 7 rfl) ?_
  refine lv_lload_n S.1 S.2.1 dX8_changes_112 rfl (lv_at hl 5 rfl) ?_
  refine lv_lload_n S.1 S.2.1 dX8_changes_113 rfl (lv_at hl 6 rfl) ?_
  refine lv_lmul S.1 S.2.1 dX8_changes_114 ?_
  refine lv_ladd S.1 S.2.1 dX8_changes_115 ?_
  refine lv_lload S.1 S.2.1 dX8_changes_116 (lv_at hl 3 rfl) ?_
  refine lv_lmul S.1 S.2.1 dX8_changes_118 ?_
  refine lv_lsub S.1 S.2.1 dX8_changes_119 ?_
  refine pm_ldc2 S mw_4_99 dX8_changes_120 ?_
  refine lv_lload_n S.1 S.2.1 dX8_changes_123 rfl (lv_at hl 5 rfl) ?_
  refine lv_lmul S.1 S.2.1 dX8_changes_124 ?_
  refine lv_lload_n S.1 S.2.1 dX8_changes_125 rfl (lv_at hl 5 rfl) ?_
  refine lv_lmul S.1 S.2.1 dX8_changes_126 ?_
  refine lv_ladd S.1 S.2.1 dX8_changes_127 ?_
  refine pm_ldc2 S mw_4_59 dX8_changes_128 ?_
  refine lv_lload_n S.1 S.2.1 dX8_changes_131 rfl (lv_at hl 6 rfl) ?_
  refine lv_lmul S.1 S.2.1 dX8_changes_132 ?_
  refine lv_lload S.1 S.2.1 dX8_changes_133 (lv_at hl 7 rfl) ?_
  refine lv_lmul S.1 S.2.1 dX8_changes_135 ?_
  refine lv_lsub S.1 S.2.1 dX8_changes_136 ?_
  obtain ⟨v11, ev11, h⟩ := bd_s h
  refine pm_nmL ev11 ?_
  obtain ⟨z12, ez12, h⟩ := bd_s h
  refine as_J S E hK hP hS (E_6_3 E hth) (by rw [N_6_3 E hth]; decide) dX8_changes_137 (fun H locs hP hS => ?_)
  have hP : Wd ev (wJ z10 (rf ev 123 th) 3 v11) H := hP
  rw [← ez12] at hP
  refine lv_aload_n S.1 S.2.1 dX8_changes_138 rfl (lv_at hl 4 rfl) ?_
  refine gf_6_3 S hK hP hth mw_3_224 dX8_changes_139 ?_
  refine lv_iconst (v := 4) S.1 S.2.1 dX8_changes_142 (by decide) ?_
  refine lv_aload_n S.1 S.2.1 dX8_changes_143 rfl (lv_at hl 4 rfl) ?_
  refine gf_6_3 S hK hP hth mw_3_224 dX8_changes_144 ?_
  refine lv_iconst (v := 4) S.1 S.2.1 dX8_changes_147 (by decide) ?_
  refine al_J S hK hP (E_6_3 E hth) (by rw [N_6_3 E hth]; decide) dX8_changes_148 ?_
  refine pm_nmL (v := (rJ z12 (rf ev 123 th) 4)) rfl ?_
  refine lv_lload_n S.1 S.2.1 dX8_changes_149 rfl (lv_at hl 5 rfl) ?_
  refine lv_lload S.1 S.2.1 dX8_changes_150 (lv_at hl 0 rfl) ?_
  refine lv_lmul S.1 S.2.1 dX8_changes_152 ?_
  refine lv_ladd S.1 S.2.1 dX8_changes_153 ?_
  refine lv_lload_n S.1 S.2.1 dX8_changes_154 rfl (lv_at hl 5 rfl) ?_
  refine lv_lload_n S.1 S.2.1 dX8_changes_155 rfl (lv_at hl 5 rfl) ?_
  refine lv_lmul S.1 S.2.1 dX8_changes_156 ?_
  refine lv_lload S.1 S.2.1 dX8_changes_157 (lv_at hl 2 rfl) ?_
  refine lv_lmul S.1 S.2.1 dX8_changes_159 ?_
  refine lv_ladd S.1 S.2.1 dX8_changes_160 ?_
  refine lv_lload_n S.1 S.2.1 dX8_changes_161 rfl (lv_at hl 5 rfl) ?_
  refine lv_lload_n S.1 S.2.1 dX8_changes_162 rfl (lv_at hl 5 rfl) ?_
  refine lv_lmul S.1 S.2.1 dX8_changes_163 ?_
  refine lv_lload_n S.1 S.2.1 dX8_changes_164 rfl (lv_at hl 5 rfl) ?_
  refine lv_lmul S.1 S.2.1 dX8_changes_165 ?_
  refine lv_ladd S.1 S.2.1 dX8_changes_166 ?_
  refine lv_lload S.1 S.2.1 dX8_changes_167 (lv_at hl 7 rfl) ?_
  refine lv_lload S.1 S.2.1 dX8_changes_169 (lv_at hl 1 rfl) ?_
  refine lv_lmul S.1 S.2.1 dX8_changes_171 ?_
  refine lv_lsub S.1 S.2.1 dX8_changes_172 ?_
  refine lv_lload S.1 S.2.1 dX8_changes_173 (lv_at hl 7 rfl) ?_
  refine lv_lload S.1 S.2.1 dX8_changes_175 (lv_at hl 7 rfl) ?_
  refine lv_lmul S.1 S.2.1 dX8_changes_177 ?_
  refine lv_lsub S.1 S.2.1 dX8_changes_178 ?_
  refine lv_lload_n S.1 S.2.1 dX8_changes_179 rfl (lv_at hl 5 rfl) ?_
  refine lv_lload S.1 S.2.1 dX8_changes_180 (lv_at hl 7 rfl) ?_
  refine lv_lmul S.1 S.2.1 dX8_changes_182 ?_
  refine lv_lload S.1 S.2.1 dX8_changes_183 (lv_at hl 3 rfl) ?_
  refine lv_lmul S.1 S.2.1 dX8_changes_185 ?_
  refine lv_lsub S.1 S.2.1 dX8_changes_186 ?_
  obtain ⟨v13, ev13, h⟩ := bd_s h
  refine pm_nmL ev13 ?_
  obtain ⟨z14, ez14, h⟩ := bd_s h
  refine as_J S E hK hP hS (E_6_3 E hth) (by rw [N_6_3 E hth]; decide) dX8_changes_187 (fun H locs hP hS => ?_)
  have hP : Wd ev (wJ z12 (rf ev 123 th) 4 v13) H := hP
  rw [← ez14] at hP
  exact pm_vretW S hr hlk hP hS (Option.some.inj h) dX8_changes_188
theorem vm_X8_changes : pm_Vm yX8_changes cX8_changes 15 none 3 := ⟨mw_4_98, mw_4_97, ms_508, mw_1_7, by decide, by decide⟩
def q_X8_power_5 : Nat → Int64 → Int32 → Int64 → Int32 → Option Int64
  | 0, _, _, _, _ => none
  | n + 1, l0, l2, l3, l5 => if l2 ≤ l5 then (some l3) else (bd ((l3 * l0)) (fun v2 => bd (l5 + (1 : Int32)) (fun v3 => q_X8_power_5 n l0 l2 v2 v3)))
set_option maxRecDepth 20000 in
set_option maxHeartbeats 4000000 in
theorem w_X8_power_5 {p : Program} {l : Launch} {e : Env} {s : State} {m : MethodId} {args : Array Value} {below : List Frame} {meth : Method} {c : Code} {r : Int64} (S : CallFix p m c cX8_power 6 s args gT RX8) (hr : meth.sig.returnType = (some .long)) (hlk : meth.locks = false) : ∀ (n : Nat), ∀ (l0 : Int64) (l2 : Int32) (l3 : Int64) (l5 : Int32) (ls : Array Slot), q_X8_power_5 n l0 l2 l3 l5 = some r → lv_has ls 6 [(0, .long l0), (2, .int l2), (3, .long l3), (5, .int l5)] → W p l e (pR 0 0) s m args below meth c s.heap [] 0 0 (MQ below (k2_QcV (.long r)) args s 0 0 (fun _ => False)) (F0 m 5 ls []) := by
  intro n
  induction n with
  | zero => intro l0 l2 l3 l5 ls h; cases h
  | succ n ih =>
    intro l0 l2 l3 l5 ls h hl
    rw [q_X8_power_5] at h
    refine lv_iload S.1 S.2.1 dX8_power_5 (lv_at hl 3 rfl) ?_
    refine lv_iload_n S.1 S.2.1 dX8_power_7 rfl (lv_at hl 1 rfl) ?_
    refine lv_icmp_ge (tgt := 21) S.1 S.2.1 dX8_power_8 (by decide) (fun c1 => ?_) (fun c1 => ?_)
    · rw [if_pos c1] at h
      refine lv_lload_n S.1 S.2.1 dX8_power_21 rfl (lv_at hl 2 rfl) ?_
      exact pm_lretR S hr hlk (Option.some.inj h) dX8_power_22
    · rw [if_neg c1] at h
      refine lv_lload_n S.1 S.2.1 dX8_power_11 rfl (lv_at hl 2 rfl) ?_
      refine lv_lload_n S.1 S.2.1 dX8_power_12 rfl (lv_at hl 0 rfl) ?_
      refine lv_lmul S.1 S.2.1 dX8_power_13 ?_
      obtain ⟨v2, ev2, h⟩ := bd_s h
      refine pm_nmL ev2 ?_
      refine lv_lstore_n (lv' := [(3, .long v2), (0, .long l0), (2, .int l2), (5, .int l5)]) S.1 S.2.1 dX8_power_14 rfl hl (by decide) rfl (fun ls hl => ?_)
      obtain ⟨v3, ev3, h⟩ := bd_s h
      refine lv_iinc (v := v3) (lv' := [(5, .int v3), (3, .long v2), (0, .long l0), (2, .int l2)]) S.1 S.2.1 dX8_power_15 hl (k := 3) rfl (by rw [ev3]; rfl) (by decide) rfl (fun ls hl => ?_)
      refine lv_goto (tgt := 5) S.1 S.2.1 dX8_power_18 (by decide) ?_
      exact ih l0 l2 v2 v3 ls h (lv_sub hl [2, 3, 1, 0] rfl)
def g_X8_power (l0 : Int64) (l2 : Int32) : Option Int64 := q_X8_power_5 FU l0 l2 (1 : Int64) (0 : Int32)
set_option maxRecDepth 20000 in
set_option maxHeartbeats 4000000 in
theorem c_X8_power (l : Launch) (l0 : Int64) (l2 : Int32) (r : Int64) (h : g_X8_power l0 l2 = some r) : Met l yX8_power (pWs yX8_power cX8_power 6 (some .long)) (pR 0 0) (va_Pc [.long l0, .int l2] (fun _ => True)) (k2_QcV (.long r)) 0 0 (fun _ => False) := by
  refine pm_of (by decide) (Nat.le_of_ble_eq_true rfl) ?_
  intro p e s m below meth c S hr hlk hv ls hl
  have hl : lv_has ls 6 [(0, .long l0), (2, .int l2)] := hl
  unfold g_X8_power at h
  refine lv_lconst (v := 1) S.1 S.2.1 dX8_power_0 (by decide) ?_
  refine lv_lstore_n (lv' := [(3, .long (1 : Int64)), (0, .long l0), (2, .int l2)]) S.1 S.2.1 dX8_power_1 rfl hl (by decide) rfl (fun ls hl => ?_)
  refine lv_iconst (v := 0) S.1 S.2.1 dX8_power_2 (by decide) ?_
  refine lv_istore (lv' := [(5, .int (0 : Int32)), (3, .long (1 : Int64)), (0, .long l0), (2, .int l2)]) S.1 S.2.1 dX8_power_3 hl (by decide) rfl (fun ls hl => ?_)
  exact w_X8_power_5 S hr hlk FU l0 l2 (1 : Int64) (0 : Int32) ls h (lv_sub hl [2, 3, 1, 0] rfl)
theorem sm_X8_power : pm_Sm yX8_power cX8_power 6 (some .long) 2 := ⟨mw_4_113, mw_4_112, mw_1_7, by decide, by decide⟩
def g_X8_weight (l0 : Int32) : Option Int32 := if l0 = (4 : Int32) then (some (6 : Int32)) else (some (l0 + (1 : Int32)))
set_option maxRecDepth 20000 in
set_option maxHeartbeats 4000000 in
theorem c_X8_weight (l : Launch) (l0 : Int32) (r : Int32) (h : g_X8_weight l0 = some r) : Met l yX8_weight (pWs yX8_weight cX8_weight 1 (some .int)) (pR 0 0) (va_Pc [.int l0] (fun _ => True)) (k2_QcV (.int r)) 0 0 (fun _ => False) := by
  refine pm_of (by decide) (Nat.le_of_ble_eq_true rfl) ?_
  intro p e s m below meth c S hr hlk hv ls hl
  have hl : lv_has ls 1 [(0, .int l0)] := hl
  unfold g_X8_weight at h
  refine lv_iload_n S.1 S.2.1 dX8_weight_0 rfl (lv_at hl 0 rfl) ?_
  refine lv_iconst (v := 4) S.1 S.2.1 dX8_weight_1 (by decide) ?_
  refine lv_icmp_ne (tgt := 10) S.1 S.2.1 dX8_weight_2 (by decide) (fun c1 => ?_) (fun c1 => ?_)
  · rw [if_neg c1] at h
    refine lv_iload_n S.1 S.2.1 dX8_weight_10 rfl (lv_at hl 0 rfl) ?_
    refine lv_iconst (v := 1) S.1 S.2.1 dX8_weight_11 (by decide) ?_
    refine lv_iadd S.1 S.2.1 dX8_weight_12 ?_
    exact pm_iretR S hr hlk (Option.some.inj h) dX8_weight_13
  · rw [if_pos c1] at h
    refine lv_bipush (v := 6) S.1 S.2.1 dX8_weight_5 (by decide) ?_
    refine lv_goto (tgt := 13) S.1 S.2.1 dX8_weight_7 (by decide) ?_
    exact pm_iretR S hr hlk (Option.some.inj h) dX8_weight_13
theorem sm_X8_weight : pm_Sm yX8_weight cX8_weight 1 (some .int) 1 := ⟨mw_4_110, mw_4_109, mw_1_7, by decide, by decide⟩
def q_X8_shrinks_52 (ev : EV) (th : Nat) : Nat → Int64 → Int32 → Int32 → PS → Option (Int32 × PS)
  | 0, _, _, _, _ => none
  | n + 1, l1, l3, l4, z => if (5 : Int32) ≤ l4 then (ck (l3 = 0 ∨ l3 = 1) (some (l3, z))) else (if l3 = 0 then (ck (l3 = 0 ∨ l3 = 1) (some (l3, z))) else (ck (inB l4 5) (ob (g_X8_weight l4) (fun v16 => ob (g_X8_power l1 v16) (fun v17 => ck (¬ v17 = 0) (bd (((rJ z (rf ev 123 th) l4.toNatClampNeg) / v17)) (fun v19 => ck (inB l4 5) (bd (wJ z (rf ev 123 th) l4.toNatClampNeg v19) (fun z21 => bd (l4 + (1 : Int32)) (fun v22 => q_X8_shrinks_52 ev th n l1 l3 v22 z21))))))))))
set_option maxRecDepth 20000 in
set_option maxHeartbeats 4000000 in
theorem w_X8_shrinks_52 {ev : EV} {th : Nat} {p : Program} {l : Launch} {e : Env} {s : State} {m : MethodId} {args : Array Value} {below : List Frame} {meth : Method} {c : Code} {r : Int32} {z9 : PS} (S : CallFix p m c cX8_shrinks 5 s args gT RX8) (hr : meth.sig.returnType = (some .boolean)) (hlk : meth.locks = false) (E : EWF ev) (hK : KK ev s) (hX : pXt ev s) (hth : isK ev 6 th) : ∀ (n : Nat), ∀ (l1 : Int64) (l3 : Int32) (l4 : Int32) (z : PS) (ls : Array Slot) (H : Heap) (locs : List Loc), q_X8_shrinks_52 ev th n l1 l3 l4 z = some (r, z9) → lv_has ls 5 [(0, .ref th), (1, .long l1), (3, .int l3), (4, .int l4)] → Wd ev z H → SS ev s H locs → W p l e (pR 1 37) s m args below meth c H locs 0 0 (MQ below (pQi ev r z9) args s 0 0 (eA ev)) (F0 m 52 ls []) := by
  intro n
  induction n with
  | zero => intro l1 l3 l4 z ls H locs h; cases h
  | succ n ih =>
    intro l1 l3 l4 z ls H locs h hl hP hS
    rw [q_X8_shrinks_52] at h
    refine lv_iload S.1 S.2.1 dX8_shrinks_52 (lv_at hl 3 rfl) ?_
    refine lv_iconst (v := 5) S.1 S.2.1 dX8_shrinks_54 (by decide) ?_
    refine lv_icmp_ge (tgt := 87) S.1 S.2.1 dX8_shrinks_55 (by decide) (fun c11 => ?_) (fun c11 => ?_)
    · rw [if_pos c11] at h
      refine lv_iload_n S.1 S.2.1 dX8_shrinks_87 rfl (lv_at hl 2 rfl) ?_
      obtain ⟨hc12, h⟩ := ck_s h
      have h9 := Option.some.inj h
      exact pm_zretW S hr hlk hc12 hP hS (congrArg Prod.fst h9) (congrArg Prod.snd h9) dX8_shrinks_88
    · rw [if_neg c11] at h
      refine lv_iload_n S.1 S.2.1 dX8_shrinks_58 rfl (lv_at hl 2 rfl) ?_
      refine lv_if_eq (tgt := 87) S.1 S.2.1 dX8_shrinks_59 (by decide) (fun c13 => ?_) (fun c13 => ?_)
      · rw [if_pos c13] at h
        refine lv_iload_n S.1 S.2.1 dX8_shrinks_87 rfl (lv_at hl 2 rfl) ?_
        obtain ⟨hc14, h⟩ := ck_s h
        have h9 := Option.some.inj h
        exact pm_zretW S hr hlk hc14 hP hS (congrArg Prod.fst h9) (congrArg Prod.snd h9) dX8_shrinks_88
      · rw [if_neg c13] at h
        refine lv_aload_n S.1 S.2.1 dX8_shrinks_62 rfl (lv_at hl 0 rfl) ?_
        refine gf_6_3 S hK hP hth mw_3_224 dX8_shrinks_63 ?_
        refine lv_iload S.1 S.2.1 dX8_shrinks_66 (lv_at hl 3 rfl) ?_
        refine lv_dup2_11 S.1 S.2.1 dX8_shrinks_68 rfl rfl ?_
        obtain ⟨hc15, h⟩ := ck_s h
        refine al_J S hK hP (E_6_3 E hth) (by rw [N_6_3 E hth]; exact hc15) dX8_shrinks_69 ?_
        refine lv_lload_n S.1 S.2.1 dX8_shrinks_70 rfl (lv_at hl 1 rfl) ?_
        refine lv_iload S.1 S.2.1 dX8_shrinks_71 (lv_at hl 3 rfl) ?_
        obtain ⟨v16, ev16, h⟩ := ob_s h
        refine pm_cS (As := [.int l4]) (rest := [.long l1, .long (rJ z (rf ev 123 th) l4.toNatClampNeg), .int l4, .ref (rf ev 123 th)]) S (c_X8_weight l l4 v16 ev16) sm_X8_weight mw_4_108 ⟨⟨rfl, rfl⟩, by decide, by decide⟩ rfl hl.1 rfl (Nat.le_of_ble_eq_true rfl) ⟨Nat.zero_le _, Nat.zero_le _⟩ dX8_shrinks_73 ?_
        obtain ⟨v17, ev17, h⟩ := ob_s h
        refine pm_cS (As := [.long l1, .int v16]) (rest := [.long (rJ z (rf ev 123 th) l4.toNatClampNeg), .int l4, .ref (rf ev 123 th)]) S (c_X8_power l l1 v16 v17 ev17) sm_X8_power mw_4_111 ⟨⟨rfl, rfl⟩, by decide, by decide⟩ rfl hl.1 rfl (Nat.le_of_ble_eq_true rfl) ⟨Nat.zero_le _, Nat.zero_le _⟩ dX8_shrinks_76 ?_
        obtain ⟨hc18, h⟩ := ck_s h
        refine lv_ldiv S.1 S.2.1 dX8_shrinks_79 hc18 ?_
        obtain ⟨v19, ev19, h⟩ := bd_s h
        refine pm_nmL ev19 ?_
        obtain ⟨hc20, h⟩ := ck_s h
        obtain ⟨z21, ez21, h⟩ := bd_s h
        refine as_J S E hK hP hS (E_6_3 E hth) (by rw [N_6_3 E hth]; exact hc20) dX8_shrinks_80 (fun H locs hP hS => ?_)
        rw [← ez21] at hP
        obtain ⟨v22, ev22, h⟩ := bd_s h
        refine lv_iinc (v := v22) (lv' := [(4, .int v22), (0, .ref th), (1, .long l1), (3, .int l3)]) S.1 S.2.1 dX8_shrinks_81 hl (k := 3) rfl (by rw [ev22]; rfl) (by decide) rfl (fun ls hl => ?_)
        refine lv_goto (tgt := 52) S.1 S.2.1 dX8_shrinks_84 (by decide) ?_
        exact ih l1 l3 v22 z21 ls _ _ h (lv_sub hl [1, 2, 3, 0] rfl) hP hS
def q_X8_shrinks_5 (ev : EV) (th : Nat) : Nat → Int64 → Int32 → Int32 → PS → Option (Int32 × PS)
  | 0, _, _, _, _ => none
  | n + 1, l1, l3, l4, z => if (5 : Int32) ≤ l4 then (q_X8_shrinks_52 ev th FU l1 l3 (0 : Int32) z) else (if l3 = 0 then (bd (l4 + (1 : Int32)) (fun v3 => q_X8_shrinks_5 ev th n l1 (0 : Int32) v3 z)) else (ck (inB l4 5) (ob (g_X8_weight l4) (fun v5 => ob (g_X8_power l1 v5) (fun v6 => ck (¬ v6 = 0) (if (jr64 (rJ z (rf ev 123 th) l4.toNatClampNeg) v6) = (0 : Int64) then (bd (l4 + (1 : Int32)) (fun v10 => q_X8_shrinks_5 ev th n l1 (1 : Int32) v10 z)) else (bd (l4 + (1 : Int32)) (fun v9 => q_X8_shrinks_5 ev th n l1 (0 : Int32) v9 z))))))))
set_option maxRecDepth 20000 in
set_option maxHeartbeats 4000000 in
theorem w_X8_shrinks_5 {ev : EV} {th : Nat} {p : Program} {l : Launch} {e : Env} {s : State} {m : MethodId} {args : Array Value} {below : List Frame} {meth : Method} {c : Code} {r : Int32} {z9 : PS} (S : CallFix p m c cX8_shrinks 5 s args gT RX8) (hr : meth.sig.returnType = (some .boolean)) (hlk : meth.locks = false) (E : EWF ev) (hK : KK ev s) (hX : pXt ev s) (hth : isK ev 6 th) : ∀ (n : Nat), ∀ (l1 : Int64) (l3 : Int32) (l4 : Int32) (z : PS) (ls : Array Slot) (H : Heap) (locs : List Loc), q_X8_shrinks_5 ev th n l1 l3 l4 z = some (r, z9) → lv_has ls 5 [(0, .ref th), (1, .long l1), (3, .int l3), (4, .int l4)] → Wd ev z H → SS ev s H locs → W p l e (pR 1 37) s m args below meth c H locs 0 0 (MQ below (pQi ev r z9) args s 0 0 (eA ev)) (F0 m 5 ls []) := by
  intro n
  induction n with
  | zero => intro l1 l3 l4 z ls H locs h; cases h
  | succ n ih =>
    intro l1 l3 l4 z ls H locs h hl hP hS
    rw [q_X8_shrinks_5] at h
    refine lv_iload S.1 S.2.1 dX8_shrinks_5 (lv_at hl 3 rfl) ?_
    refine lv_iconst (v := 5) S.1 S.2.1 dX8_shrinks_7 (by decide) ?_
    refine lv_icmp_ge (tgt := 49) S.1 S.2.1 dX8_shrinks_8 (by decide) (fun c1 => ?_) (fun c1 => ?_)
    · rw [if_pos c1] at h
      refine lv_iconst (v := 0) S.1 S.2.1 dX8_shrinks_49 (by decide) ?_
      refine lv_istore (lv' := [(4, .int (0 : Int32)), (0, .ref th), (1, .long l1), (3, .int l3)]) S.1 S.2.1 dX8_shrinks_50 hl (by decide) rfl (fun ls hl => ?_)
      exact w_X8_shrinks_52 S hr hlk E hK hX hth FU l1 l3 (0 : Int32) z ls _ _ h (lv_sub hl [1, 2, 3, 0] rfl) hP hS
    · rw [if_neg c1] at h
      refine lv_iload_n S.1 S.2.1 dX8_shrinks_11 rfl (lv_at hl 2 rfl) ?_
      refine lv_if_eq (tgt := 41) S.1 S.2.1 dX8_shrinks_12 (by decide) (fun c2 => ?_) (fun c2 => ?_)
      · rw [if_pos c2] at h
        refine lv_iconst (v := 0) S.1 S.2.1 dX8_shrinks_41 (by decide) ?_
        refine lv_istore_n (lv' := [(3, .int (0 : Int32)), (0, .ref th), (1, .long l1), (4, .int l4)]) S.1 S.2.1 dX8_shrinks_42 rfl hl (by decide) rfl (fun ls hl => ?_)
        obtain ⟨v3, ev3, h⟩ := bd_s h
        refine lv_iinc (v := v3) (lv' := [(4, .int v3), (3, .int (0 : Int32)), (0, .ref th), (1, .long l1)]) S.1 S.2.1 dX8_shrinks_43 hl (k := 3) rfl (by rw [ev3]; rfl) (by decide) rfl (fun ls hl => ?_)
        refine lv_goto (tgt := 5) S.1 S.2.1 dX8_shrinks_46 (by decide) ?_
        exact ih l1 (0 : Int32) v3 z ls _ _ h (lv_sub hl [2, 3, 1, 0] rfl) hP hS
      · rw [if_neg c2] at h
        refine lv_aload_n S.1 S.2.1 dX8_shrinks_15 rfl (lv_at hl 0 rfl) ?_
        refine gf_6_3 S hK hP hth mw_3_224 dX8_shrinks_16 ?_
        refine lv_iload S.1 S.2.1 dX8_shrinks_19 (lv_at hl 3 rfl) ?_
        obtain ⟨hc4, h⟩ := ck_s h
        refine al_J S hK hP (E_6_3 E hth) (by rw [N_6_3 E hth]; exact hc4) dX8_shrinks_21 ?_
        refine lv_lload_n S.1 S.2.1 dX8_shrinks_22 rfl (lv_at hl 1 rfl) ?_
        refine lv_iload S.1 S.2.1 dX8_shrinks_23 (lv_at hl 3 rfl) ?_
        obtain ⟨v5, ev5, h⟩ := ob_s h
        refine pm_cS (As := [.int l4]) (rest := [.long l1, .long (rJ z (rf ev 123 th) l4.toNatClampNeg)]) S (c_X8_weight l l4 v5 ev5) sm_X8_weight mw_4_108 ⟨⟨rfl, rfl⟩, by decide, by decide⟩ rfl hl.1 rfl (Nat.le_of_ble_eq_true rfl) ⟨Nat.zero_le _, Nat.zero_le _⟩ dX8_shrinks_25 ?_
        obtain ⟨v6, ev6, h⟩ := ob_s h
        refine pm_cS (As := [.long l1, .int v5]) (rest := [.long (rJ z (rf ev 123 th) l4.toNatClampNeg)]) S (c_X8_power l l1 v5 v6 ev6) sm_X8_power mw_4_111 ⟨⟨rfl, rfl⟩, by decide, by decide⟩ rfl hl.1 rfl (Nat.le_of_ble_eq_true rfl) ⟨Nat.zero_le _, Nat.zero_le _⟩ dX8_shrinks_28 ?_
        obtain ⟨hc7, h⟩ := ck_s h
        refine pm_lrem S hc7 dX8_shrinks_31 ?_
        refine lv_lconst (v := 0) S.1 S.2.1 dX8_shrinks_32 (by decide) ?_
        refine pm_lne (tgt := 41) S dX8_shrinks_33 dX8_shrinks_34 (by decide) (fun c8 => ?_) (fun c8 => ?_)
        · rw [if_neg c8] at h
          refine lv_iconst (v := 0) S.1 S.2.1 dX8_shrinks_41 (by decide) ?_
          refine lv_istore_n (lv' := [(3, .int (0 : Int32)), (0, .ref th), (1, .long l1), (4, .int l4)]) S.1 S.2.1 dX8_shrinks_42 rfl hl (by decide) rfl (fun ls hl => ?_)
          obtain ⟨v9, ev9, h⟩ := bd_s h
          refine lv_iinc (v := v9) (lv' := [(4, .int v9), (3, .int (0 : Int32)), (0, .ref th), (1, .long l1)]) S.1 S.2.1 dX8_shrinks_43 hl (k := 3) rfl (by rw [ev9]; rfl) (by decide) rfl (fun ls hl => ?_)
          refine lv_goto (tgt := 5) S.1 S.2.1 dX8_shrinks_46 (by decide) ?_
          exact ih l1 (0 : Int32) v9 z ls _ _ h (lv_sub hl [2, 3, 1, 0] rfl) hP hS
        · rw [if_pos c8] at h
          refine lv_iconst (v := 1) S.1 S.2.1 dX8_shrinks_37 (by decide) ?_
          refine lv_goto (tgt := 42) S.1 S.2.1 dX8_shrinks_38 (by decide) ?_
          refine lv_istore_n (lv' := [(3, .int (1 : Int32)), (0, .ref th), (1, .long l1), (4, .int l4)]) S.1 S.2.1 dX8_shrinks_42 rfl hl (by decide) rfl (fun ls hl => ?_)
          obtain ⟨v10, ev10, h⟩ := bd_s h
          refine lv_iinc (v := v10) (lv' := [(4, .int v10), (3, .int (1 : Int32)), (0, .ref th), (1, .long l1)]) S.1 S.2.1 dX8_shrinks_43 hl (k := 3) rfl (by rw [ev10]; rfl) (by decide) rfl (fun ls hl => ?_)
          refine lv_goto (tgt := 5) S.1 S.2.1 dX8_shrinks_46 (by decide) ?_
          exact ih l1 (1 : Int32) v10 z ls _ _ h (lv_sub hl [2, 3, 1, 0] rfl) hP hS
def g_X8_shrinks (ev : EV) (z : PS) (th : Nat) (l1 : Int64) : Option (Int32 × PS) := q_X8_shrinks_5 ev th FU l1 (1 : Int32) (0 : Int32) z
set_option maxRecDepth 20000 in
set_option maxHeartbeats 4000000 in
theorem c_X8_shrinks (l : Launch) (ev : EV) (z : PS) (E : EWF ev) {th : Nat} (hth : isK ev 6 th) (th_ : Nat) (l1 : Int64) (r : Int32) (z9 : PS) (h : g_X8_shrinks ev z th l1 = some (r, z9)) : Met l yX8_shrinks (pWs yX8_shrinks cX8_shrinks 5 (some .boolean)) (pR 1 37) (va_Pc [.ref th, .long l1] (pPe ev z)) (pQi ev r z9) 0 0 (eA ev) := by
  refine pm_of (by decide) (Nat.le_of_ble_eq_true rfl) ?_
  intro p e s m below meth c S hr hlk hv ls hl
  obtain ⟨hP, hK, hX⟩ := hv
  have hS : SS ev s s.heap [] := va_S.rf
  have hl : lv_has ls 5 [(0, .ref th), (1, .long l1)] := hl
  unfold g_X8_shrinks at h
  refine lv_iconst (v := 1) S.1 S.2.1 dX8_shrinks_0 (by decide) ?_
  refine lv_istore_n (lv' := [(3, .int (1 : Int32)), (0, .ref th), (1, .long l1)]) S.1 S.2.1 dX8_shrinks_1 rfl hl (by decide) rfl (fun ls hl => ?_)
  refine lv_iconst (v := 0) S.1 S.2.1 dX8_shrinks_2 (by decide) ?_
  refine lv_istore (lv' := [(4, .int (0 : Int32)), (3, .int (1 : Int32)), (0, .ref th), (1, .long l1)]) S.1 S.2.1 dX8_shrinks_3 hl (by decide) rfl (fun ls hl => ?_)
  exact w_X8_shrinks_5 S hr hlk E hK hX hth FU l1 (1 : Int32) (0 : Int32) z ls _ _ h (lv_sub hl [2, 3, 1, 0] rfl) hP hS
theorem vm_X8_shrinks : pm_Vm yX8_shrinks cX8_shrinks 5 (some .boolean) 1 := ⟨mw_4_107, mw_4_106, ms_517, mw_1_7, by decide, by decide⟩
def q_X8_isSmall_22 (ev : EV) (z : PS) (th : Nat) : Nat → Int32 → Int32 → Option Int32
  | 0, _, _ => none
  | n + 1, l1, l2 => if (5 : Int32) ≤ l2 then (ck (l1 = 0 ∨ l1 = 1) (some l1)) else (if l1 = 0 then (bd (l2 + (1 : Int32)) (fun v7 => q_X8_isSmall_22 ev z th n (0 : Int32) v7)) else (ck (inB l2 5) (ob (g_X8_size (rJ z (rf ev 123 th) l2.toNatClampNeg)) (fun v9 => if (100000 : Int64) < v9 then (bd (l2 + (1 : Int32)) (fun v11 => q_X8_isSmall_22 ev z th n (0 : Int32) v11)) else (bd (l2 + (1 : Int32)) (fun v12 => q_X8_isSmall_22 ev z th n (1 : Int32) v12))))))
set_option maxRecDepth 20000 in
set_option maxHeartbeats 4000000 in
theorem w_X8_isSmall_22 {ev : EV} {z : PS} {th : Nat} {p : Program} {l : Launch} {e : Env} {s : State} {m : MethodId} {args : Array Value} {below : List Frame} {meth : Method} {c : Code} {r : Int32} (S : CallFix p m c cX8_isSmall 3 s args gT RX8) (hr : meth.sig.returnType = (some .boolean)) (hlk : meth.locks = false) (E : EWF ev) (hK : KK ev s) (hX : pXt ev s) (hP : Wd ev z s.heap) (hth : isK ev 6 th) : ∀ (n : Nat), ∀ (l1 : Int32) (l2 : Int32) (ls : Array Slot), q_X8_isSmall_22 ev z th n l1 l2 = some r → lv_has ls 3 [(0, .ref th), (1, .int l1), (2, .int l2)] → W p l e (pR 2 64) s m args below meth c s.heap [] 0 0 (MQ below (k2_QcV (.int r)) args s 0 0 (fun _ => False)) (F0 m 22 ls []) := by
  intro n
  induction n with
  | zero => intro l1 l2 ls h; cases h
  | succ n ih =>
    intro l1 l2 ls h hl
    rw [q_X8_isSmall_22] at h
    refine lv_iload_n S.1 S.2.1 dX8_isSmall_22 rfl (lv_at hl 2 rfl) ?_
    refine lv_iconst (v := 5) S.1 S.2.1 dX8_isSmall_23 (by decide) ?_
    refine lv_icmp_ge (tgt := 59) S.1 S.2.1 dX8_isSmall_24 (by decide) (fun c4 => ?_) (fun c4 => ?_)
    · rw [if_pos c4] at h
      refine lv_iload_n S.1 S.2.1 dX8_isSmall_59 rfl (lv_at hl 1 rfl) ?_
      obtain ⟨hc5, h⟩ := ck_s h
      exact pm_zretR S hr hlk hc5 (Option.some.inj h) dX8_isSmall_60
    · rw [if_neg c4] at h
      refine lv_iload_n S.1 S.2.1 dX8_isSmall_27 rfl (lv_at hl 1 rfl) ?_
      refine lv_if_eq (tgt := 51) S.1 S.2.1 dX8_isSmall_28 (by decide) (fun c6 => ?_) (fun c6 => ?_)
      · rw [if_pos c6] at h
        refine lv_iconst (v := 0) S.1 S.2.1 dX8_isSmall_51 (by decide) ?_
        refine lv_istore_n (lv' := [(1, .int (0 : Int32)), (0, .ref th), (2, .int l2)]) S.1 S.2.1 dX8_isSmall_52 rfl hl (by decide) rfl (fun ls hl => ?_)
        obtain ⟨v7, ev7, h⟩ := bd_s h
        refine lv_iinc (v := v7) (lv' := [(2, .int v7), (1, .int (0 : Int32)), (0, .ref th)]) S.1 S.2.1 dX8_isSmall_53 hl (k := 2) rfl (by rw [ev7]; rfl) (by decide) rfl (fun ls hl => ?_)
        refine lv_goto (tgt := 22) S.1 S.2.1 dX8_isSmall_56 (by decide) ?_
        exact ih (0 : Int32) v7 ls h (lv_sub hl [2, 1, 0] rfl)
      · rw [if_neg c6] at h
        refine lv_aload_n S.1 S.2.1 dX8_isSmall_31 rfl (lv_at hl 0 rfl) ?_
        refine gf_6_3 S hK hP hth mw_3_224 dX8_isSmall_32 ?_
        refine lv_iload_n S.1 S.2.1 dX8_isSmall_35 rfl (lv_at hl 2 rfl) ?_
        obtain ⟨hc8, h⟩ := ck_s h
        refine al_J S hK hP (E_6_3 E hth) (by rw [N_6_3 E hth]; exact hc8) dX8_isSmall_36 ?_
        obtain ⟨v9, ev9, h⟩ := ob_s h
        refine pm_cS (As := [.long (rJ z (rf ev 123 th) l2.toNatClampNeg)]) (rest := []) S (c_X8_size l (rJ z (rf ev 123 th) l2.toNatClampNeg) v9 ev9) sm_X8_size mw_4_78 ⟨⟨rfl, rfl⟩, by decide, by decide⟩ rfl hl.1 rfl (Nat.le_of_ble_eq_true rfl) ⟨Nat.zero_le _, Nat.zero_le _⟩ dX8_isSmall_37 ?_
        refine pm_ldc2 S mw_4_82 dX8_isSmall_40 ?_
        refine pm_lgt (tgt := 51) S dX8_isSmall_43 dX8_isSmall_44 (by decide) (fun c10 => ?_) (fun c10 => ?_)
        · rw [if_pos c10] at h
          refine lv_iconst (v := 0) S.1 S.2.1 dX8_isSmall_51 (by decide) ?_
          refine lv_istore_n (lv' := [(1, .int (0 : Int32)), (0, .ref th), (2, .int l2)]) S.1 S.2.1 dX8_isSmall_52 rfl hl (by decide) rfl (fun ls hl => ?_)
          obtain ⟨v11, ev11, h⟩ := bd_s h
          refine lv_iinc (v := v11) (lv' := [(2, .int v11), (1, .int (0 : Int32)), (0, .ref th)]) S.1 S.2.1 dX8_isSmall_53 hl (k := 2) rfl (by rw [ev11]; rfl) (by decide) rfl (fun ls hl => ?_)
          refine lv_goto (tgt := 22) S.1 S.2.1 dX8_isSmall_56 (by decide) ?_
          exact ih (0 : Int32) v11 ls h (lv_sub hl [2, 1, 0] rfl)
        · rw [if_neg c10] at h
          refine lv_iconst (v := 1) S.1 S.2.1 dX8_isSmall_47 (by decide) ?_
          refine lv_goto (tgt := 52) S.1 S.2.1 dX8_isSmall_48 (by decide) ?_
          refine lv_istore_n (lv' := [(1, .int (1 : Int32)), (0, .ref th), (2, .int l2)]) S.1 S.2.1 dX8_isSmall_52 rfl hl (by decide) rfl (fun ls hl => ?_)
          obtain ⟨v12, ev12, h⟩ := bd_s h
          refine lv_iinc (v := v12) (lv' := [(2, .int v12), (1, .int (1 : Int32)), (0, .ref th)]) S.1 S.2.1 dX8_isSmall_53 hl (k := 2) rfl (by rw [ev12]; rfl) (by decide) rfl (fun ls hl => ?_)
          refine lv_goto (tgt := 22) S.1 S.2.1 dX8_isSmall_56 (by decide) ?_
          exact ih (1 : Int32) v12 ls h (lv_sub hl [2, 1, 0] rfl)
def g_X8_isSmall (ev : EV) (z : PS) (th : Nat) : Option Int32 := ob (g_X8_disc ev z th) (fun v1 => ob (g_X8_size v1) (fun v2 => if (1000000000000000000 : Int64) < v2 then (q_X8_isSmall_22 ev z th FU (0 : Int32) (0 : Int32)) else (q_X8_isSmall_22 ev z th FU (1 : Int32) (0 : Int32))))
set_option maxRecDepth 20000 in
set_option maxHeartbeats 4000000 in
theorem c_X8_isSmall (l : Launch) (ev : EV) (z : PS) (E : EWF ev) {th : Nat} (hth : isK ev 6 th) (th_ : Nat) (r : Int32) (h : g_X8_isSmall ev z th = some r) : Met l yX8_isSmall (pWs yX8_isSmall cX8_isSmall 3 (some .boolean)) (pR 2 64) (va_Pc [.ref th] (pPe ev z)) (k2_QcV (.int r)) 0 0 (fun _ => False) := by
  refine pm_of (by decide) (Nat.le_of_ble_eq_true rfl) ?_
  intro p e s m below meth c S hr hlk hv ls hl
  obtain ⟨hP, hK, hX⟩ := hv
  have hl : lv_has ls 3 [(0, .ref th)] := hl
  unfold g_X8_isSmall at h
  refine lv_aload_n S.1 S.2.1 dX8_isSmall_0 rfl (lv_at hl 0 rfl) ?_
  obtain ⟨v1, ev1, h⟩ := ob_s h
  refine pm_cVr (As := []) (rest := []) S hK hX hP va_S.rf (c_X8_disc l ev z E hth th v1 ev1) vm_X8_disc mw_4_46 (rc_6 hK hP hth) ⟨⟨rfl, rfl⟩, by decide, by decide⟩ rfl hl.1 rfl (Nat.le_of_ble_eq_true rfl) ⟨Nat.zero_le _, Nat.zero_le _⟩ dX8_isSmall_1 ?_
  obtain ⟨v2, ev2, h⟩ := ob_s h
  refine pm_cS (As := [.long v1]) (rest := []) S (c_X8_size l v1 v2 ev2) sm_X8_size mw_4_78 ⟨⟨rfl, rfl⟩, by decide, by decide⟩ rfl hl.1 rfl (Nat.le_of_ble_eq_true rfl) ⟨Nat.zero_le _, Nat.zero_le _⟩ dX8_isSmall_4 ?_
  refine pm_ldc2 S mw_4_81 dX8_isSmall_7 ?_
  refine pm_lgt (tgt := 18) S dX8_isSmall_10 dX8_isSmall_11 (by decide) (fun c3 => ?_) (fun c3 => ?_)
  · rw [if_pos c3] at h
    refine lv_iconst (v := 0) S.1 S.2.1 dX8_isSmall_18 (by decide) ?_
    refine lv_istore_n (lv' := [(1, .int (0 : Int32)), (0, .ref th)]) S.1 S.2.1 dX8_isSmall_19 rfl hl (by decide) rfl (fun ls hl => ?_)
    refine lv_iconst (v := 0) S.1 S.2.1 dX8_isSmall_20 (by decide) ?_
    refine lv_istore_n (lv' := [(2, .int (0 : Int32)), (1, .int (0 : Int32)), (0, .ref th)]) S.1 S.2.1 dX8_isSmall_21 rfl hl (by decide) rfl (fun ls hl => ?_)
    exact w_X8_isSmall_22 S hr hlk E hK hX hP hth FU (0 : Int32) (0 : Int32) ls h (lv_sub hl [2, 1, 0] rfl)
  · rw [if_neg c3] at h
    refine lv_iconst (v := 1) S.1 S.2.1 dX8_isSmall_14 (by decide) ?_
    refine lv_goto (tgt := 19) S.1 S.2.1 dX8_isSmall_15 (by decide) ?_
    refine lv_istore_n (lv' := [(1, .int (1 : Int32)), (0, .ref th)]) S.1 S.2.1 dX8_isSmall_19 rfl hl (by decide) rfl (fun ls hl => ?_)
    refine lv_iconst (v := 0) S.1 S.2.1 dX8_isSmall_20 (by decide) ?_
    refine lv_istore_n (lv' := [(2, .int (0 : Int32)), (1, .int (1 : Int32)), (0, .ref th)]) S.1 S.2.1 dX8_isSmall_21 rfl hl (by decide) rfl (fun ls hl => ?_)
    exact w_X8_isSmall_22 S hr hlk E hK hX hP hth FU (1 : Int32) (0 : Int32) ls h (lv_sub hl [2, 1, 0] rfl)
theorem vm_X8_isSmall : pm_Vm yX8_isSmall cX8_isSmall 3 (some .boolean) 0 := ⟨mw_4_77, mw_4_76, ms_524, mw_1_7, by decide, by decide⟩
def q_X8_keeps_20 (ev : EV) (th : Nat) : Nat → Int32 → PS → Option (Int32 × PS)
  | 0, _, _ => none
  | n + 1, l1, z => if (5 : Int32) ≤ l1 then (bd (((r32 z 121 th) + (1 : Int32))) (fun v5 => bd (w32 z 121 th v5) (fun z6 => some (((r32 z6 121 th) - (1 : Int32)), z6)))) else (ck (inB l1 5) (bd ((rJ z (rf ev 123 th) l1.toNatClampNeg)) (fun v8 => ck (inB (((5 : Int32) * (r32 z 121 th)) + l1) 80) (bd (wJ z (rf ev 122 th) (((5 : Int32) * (r32 z 121 th)) + l1).toNatClampNeg v8) (fun z10 => bd (l1 + (1 : Int32)) (fun v11 => q_X8_keeps_20 ev th n v11 z10))))))
set_option maxRecDepth 20000 in
set_option maxHeartbeats 4000000 in
theorem w_X8_keeps_20 {ev : EV} {th : Nat} {p : Program} {l : Launch} {e : Env} {s : State} {m : MethodId} {args : Array Value} {below : List Frame} {meth : Method} {c : Code} {r : Int32} {z9 : PS} (S : CallFix p m c cX8_keeps 2 s args gT RX8) (hr : meth.sig.returnType = (some .int)) (hlk : meth.locks = false) (E : EWF ev) (hK : KK ev s) (hX : pXt ev s) (hth : isK ev 6 th) : ∀ (n : Nat), ∀ (l1 : Int32) (z : PS) (ls : Array Slot) (H : Heap) (locs : List Loc), q_X8_keeps_20 ev th n l1 z = some (r, z9) → lv_has ls 2 [(0, .ref th), (1, .int l1)] → Wd ev z H → SS ev s H locs → W p l e (pR 3 98) s m args below meth c H locs 0 0 (MQ below (pQi ev r z9) args s 0 0 (eA ev)) (F0 m 20 ls []) := by
  intro n
  induction n with
  | zero => intro l1 z ls H locs h; cases h
  | succ n ih =>
    intro l1 z ls H locs h hl hP hS
    rw [q_X8_keeps_20] at h
    refine lv_iload_n S.1 S.2.1 dX8_keeps_20 rfl (lv_at hl 1 rfl) ?_
    refine lv_iconst (v := 5) S.1 S.2.1 dX8_keeps_21 (by decide) ?_
    refine lv_icmp_ge (tgt := 50) S.1 S.2.1 dX8_keeps_22 (by decide) (fun c4 => ?_) (fun c4 => ?_)
    · rw [if_pos c4] at h
      refine lv_aload_n S.1 S.2.1 dX8_keeps_50 rfl (lv_at hl 0 rfl) ?_
      refine lv_dup S.1 S.2.1 dX8_keeps_51 rfl ?_
      refine gf_6_1 S hK hP hth mw_3_222 dX8_keeps_52 ?_
      refine lv_iconst (v := 1) S.1 S.2.1 dX8_keeps_55 (by decide) ?_
      refine lv_iadd S.1 S.2.1 dX8_keeps_56 ?_
      obtain ⟨v5, ev5, h⟩ := bd_s h
      refine pm_nmI ev5 ?_
      obtain ⟨z6, ez6, h⟩ := bd_s h
      refine pf_6_1 S E hK hP hS hth mw_3_222 dX8_keeps_57 (fun H locs hP hS => ?_)
      rw [← ez6] at hP
      refine lv_aload_n S.1 S.2.1 dX8_keeps_60 rfl (lv_at hl 0 rfl) ?_
      refine gf_6_1 S hK hP hth mw_3_222 dX8_keeps_61 ?_
      refine lv_iconst (v := 1) S.1 S.2.1 dX8_keeps_64 (by decide) ?_
      refine lv_isub S.1 S.2.1 dX8_keeps_65 ?_
      have h9 := Option.some.inj h
      exact pm_iretW S hr hlk hP hS (congrArg Prod.fst h9) (congrArg Prod.snd h9) dX8_keeps_66
    · rw [if_neg c4] at h
      refine lv_aload_n S.1 S.2.1 dX8_keeps_25 rfl (lv_at hl 0 rfl) ?_
      refine gf_6_2 S hK hP hth mw_3_223 dX8_keeps_26 ?_
      refine lv_iconst (v := 5) S.1 S.2.1 dX8_keeps_29 (by decide) ?_
      refine lv_aload_n S.1 S.2.1 dX8_keeps_30 rfl (lv_at hl 0 rfl) ?_
      refine gf_6_1 S hK hP hth mw_3_222 dX8_keeps_31 ?_
      refine lv_imul S.1 S.2.1 dX8_keeps_34 ?_
      refine lv_iload_n S.1 S.2.1 dX8_keeps_35 rfl (lv_at hl 1 rfl) ?_
      refine lv_iadd S.1 S.2.1 dX8_keeps_36 ?_
      refine lv_aload_n S.1 S.2.1 dX8_keeps_37 rfl (lv_at hl 0 rfl) ?_
      refine gf_6_3 S hK hP hth mw_3_224 dX8_keeps_38 ?_
      refine lv_iload_n S.1 S.2.1 dX8_keeps_41 rfl (lv_at hl 1 rfl) ?_
      obtain ⟨hc7, h⟩ := ck_s h
      refine al_J S hK hP (E_6_3 E hth) (by rw [N_6_3 E hth]; exact hc7) dX8_keeps_42 ?_
      obtain ⟨v8, ev8, h⟩ := bd_s h
      refine pm_nmL ev8 ?_
      obtain ⟨hc9, h⟩ := ck_s h
      obtain ⟨z10, ez10, h⟩ := bd_s h
      refine as_J S E hK hP hS (E_6_2 E hth) (by rw [N_6_2 E hth]; exact hc9) dX8_keeps_43 (fun H locs hP hS => ?_)
      rw [← ez10] at hP
      obtain ⟨v11, ev11, h⟩ := bd_s h
      refine lv_iinc (v := v11) (lv' := [(1, .int v11), (0, .ref th)]) S.1 S.2.1 dX8_keeps_44 hl (k := 1) rfl (by rw [ev11]; rfl) (by decide) rfl (fun ls hl => ?_)
      refine lv_goto (tgt := 20) S.1 S.2.1 dX8_keeps_47 (by decide) ?_
      exact ih v11 z10 ls _ _ h (lv_sub hl [1, 0] rfl) hP hS
def g_X8_keeps (ev : EV) (z : PS) (th : Nat) : Option (Int32 × PS) := if (r32 z 121 th) = (16 : Int32) then (some ((-1 : Int32), z)) else (ob (g_X8_isSmall ev z th) (fun v2 => if v2 = 0 then (some ((-1 : Int32), z)) else (q_X8_keeps_20 ev th FU (0 : Int32) z)))
set_option maxRecDepth 20000 in
set_option maxHeartbeats 4000000 in
theorem c_X8_keeps (l : Launch) (ev : EV) (z : PS) (E : EWF ev) {th : Nat} (hth : isK ev 6 th) (th_ : Nat) (r : Int32) (z9 : PS) (h : g_X8_keeps ev z th = some (r, z9)) : Met l yX8_keeps (pWs yX8_keeps cX8_keeps 2 (some .int)) (pR 3 98) (va_Pc [.ref th] (pPe ev z)) (pQi ev r z9) 0 0 (eA ev) := by
  refine pm_of (by decide) (Nat.le_of_ble_eq_true rfl) ?_
  intro p e s m below meth c S hr hlk hv ls hl
  obtain ⟨hP, hK, hX⟩ := hv
  have hS : SS ev s s.heap [] := va_S.rf
  have hl : lv_has ls 2 [(0, .ref th)] := hl
  unfold g_X8_keeps at h
  refine lv_aload_n S.1 S.2.1 dX8_keeps_0 rfl (lv_at hl 0 rfl) ?_
  refine gf_6_1 S hK hP hth mw_3_222 dX8_keeps_1 ?_
  refine lv_bipush (v := 16) S.1 S.2.1 dX8_keeps_4 (by decide) ?_
  refine lv_icmp_eq (tgt := 16) S.1 S.2.1 dX8_keeps_6 (by decide) (fun c1 => ?_) (fun c1 => ?_)
  · rw [if_pos c1] at h
    refine lv_iconst (v := -1) S.1 S.2.1 dX8_keeps_16 (by decide) ?_
    have h9 := Option.some.inj h
    exact pm_iretW S hr hlk hP hS (congrArg Prod.fst h9) (congrArg Prod.snd h9) dX8_keeps_17
  · rw [if_neg c1] at h
    refine lv_aload_n S.1 S.2.1 dX8_keeps_9 rfl (lv_at hl 0 rfl) ?_
    obtain ⟨v2, ev2, h⟩ := ob_s h
    refine pm_cVr (As := []) (rest := []) S hK hX hP hS (c_X8_isSmall l ev z E hth th v2 ev2) vm_X8_isSmall mw_4_74 (rc_6 hK hP hth) ⟨⟨rfl, rfl⟩, by decide, by decide⟩ rfl hl.1 rfl (Nat.le_of_ble_eq_true rfl) ⟨Nat.zero_le _, Nat.zero_le _⟩ dX8_keeps_10 ?_
    refine lv_if_ne (tgt := 18) S.1 S.2.1 dX8_keeps_13 (by decide) (fun c3 => ?_) (fun c3 => ?_)
    · rw [if_neg c3] at h
      refine lv_iconst (v := 0) S.1 S.2.1 dX8_keeps_18 (by decide) ?_
      refine lv_istore_n (lv' := [(1, .int (0 : Int32)), (0, .ref th)]) S.1 S.2.1 dX8_keeps_19 rfl hl (by decide) rfl (fun ls hl => ?_)
      exact w_X8_keeps_20 S hr hlk E hK hX hth FU (0 : Int32) z ls _ _ h (lv_sub hl [1, 0] rfl) hP hS
    · rw [if_pos c3] at h
      refine lv_iconst (v := -1) S.1 S.2.1 dX8_keeps_16 (by decide) ?_
      have h9 := Option.some.inj h
      exact pm_iretW S hr hlk hP hS (congrArg Prod.fst h9) (congrArg Prod.snd h9) dX8_keeps_17
theorem vm_X8_keeps : pm_Vm yX8_keeps cX8_keeps 2 (some .int) 0 := ⟨mw_4_73, mw_4_72, ms_528, mw_1_7, by decide, by decide⟩
def g_X8_curve (ev : EV) (z : PS) (th : Nat) (l1 : Int32) (l2 : Int32) (l3 : Int32) (l4 : Int32) (l5 : Int32) : Option (Int32 × PS) := bd (w32 z 120 th (0 : Int32)) (fun z1 => ob (g_X8_within (l1.toInt64) (-9 : Int64) (9 : Int64)) (fun v2 => if v2 = 0 then (some ((-1 : Int32), z1)) else (ob (g_X8_within (l2.toInt64) (-9 : Int64) (9 : Int64)) (fun v4 => if v4 = 0 then (some ((-1 : Int32), z1)) else (ob (g_X8_within (l3.toInt64) (-9 : Int64) (9 : Int64)) (fun v6 => if v6 = 0 then (some ((-1 : Int32), z1)) else (ob (g_X8_within (l4.toInt64) (-99 : Int64) (99 : Int64)) (fun v8 => if v8 = 0 then (some ((-1 : Int32), z1)) else (ob (g_X8_within (l5.toInt64) (-99 : Int64) (99 : Int64)) (fun v10 => if v10 = 0 then (some ((-1 : Int32), z1)) else (bd ((l1.toInt64)) (fun v12 => bd (wJ z1 (rf ev 123 th) 0 v12) (fun z13 => bd ((l2.toInt64)) (fun v14 => bd (wJ z13 (rf ev 123 th) 1 v14) (fun z15 => bd ((l3.toInt64)) (fun v16 => bd (wJ z15 (rf ev 123 th) 2 v16) (fun z17 => bd ((l4.toInt64)) (fun v18 => bd (wJ z17 (rf ev 123 th) 3 v18) (fun z19 => bd ((l5.toInt64)) (fun v20 => bd (wJ z19 (rf ev 123 th) 4 v20) (fun z21 => ob (g_X8_disc ev z21 th) (fun v22 => if v22 = (0 : Int64) then (some ((-1 : Int32), z21)) else (ob (g_X8_keeps ev z21 th) (fun qv25 => bd qv25.1 (fun v25 => bd qv25.2 (fun z24 => some (v25, z24)))))))))))))))))))))))))))
set_option maxRecDepth 20000 in
set_option maxHeartbeats 4000000 in
theorem c_X8_curve (l : Launch) (ev : EV) (z : PS) (E : EWF ev) {th : Nat} (hth : isK ev 6 th) (th_ : Nat) (l1 : Int32) (l2 : Int32) (l3 : Int32) (l4 : Int32) (l5 : Int32) (r : Int32) (z9 : PS) (h : g_X8_curve ev z th l1 l2 l3 l4 l5 = some (r, z9)) : Met l yX8_curve (pWs yX8_curve cX8_curve 6 (some .int)) (pR 4 131) (va_Pc [.ref th, .int l1, .int l2, .int l3, .int l4, .int l5] (pPe ev z)) (pQi ev r z9) 0 0 (eA ev) := by
  refine pm_of (by decide) (Nat.le_of_ble_eq_true rfl) ?_
  intro p e s m below meth c S hr hlk hv ls hl
  obtain ⟨hP, hK, hX⟩ := hv
  have hS : SS ev s s.heap [] := va_S.rf
  have hl : lv_has ls 6 [(0, .ref th), (1, .int l1), (2, .int l2), (3, .int l3), (4, .int l4), (5, .int l5)] := hl
  unfold g_X8_curve at h
  refine lv_aload_n S.1 S.2.1 dX8_curve_0 rfl (lv_at hl 0 rfl) ?_
  refine lv_iconst (v := 0) S.1 S.2.1 dX8_curve_1 (by decide) ?_
  obtain ⟨z1, ez1, h⟩ := bd_s h
  refine pf_6_0 S E hK hP hS hth mw_3_221 dX8_curve_2 (fun H locs hP hS => ?_)
  rw [← ez1] at hP
  refine lv_iload_n S.1 S.2.1 dX8_curve_5 rfl (lv_at hl 1 rfl) ?_
  refine lv_i2l S.1 S.2.1 dX8_curve_6 rfl ?_
  refine pm_ldc2 S mw_4_39 dX8_curve_7 ?_
  refine pm_ldc2 S mw_4_40 dX8_curve_10 ?_
  obtain ⟨v2, ev2, h⟩ := ob_s h
  refine pm_cS (As := [.long (l1.toInt64), .long (-9 : Int64), .long (9 : Int64)]) (rest := []) S (c_X8_within l (l1.toInt64) (-9 : Int64) (9 : Int64) v2 ev2) sm_X8_within mw_4_41 ⟨⟨rfl, rfl⟩, by decide, by decide⟩ rfl hl.1 rfl (Nat.le_of_ble_eq_true rfl) ⟨Nat.zero_le _, Nat.zero_le _⟩ dX8_curve_13 ?_
  refine lv_if_eq (tgt := 77) S.1 S.2.1 dX8_curve_16 (by decide) (fun c3 => ?_) (fun c3 => ?_)
  · rw [if_pos c3] at h
    refine lv_iconst (v := -1) S.1 S.2.1 dX8_curve_77 (by decide) ?_
    have h9 := Option.some.inj h
    exact pm_iretW S hr hlk hP hS (congrArg Prod.fst h9) (congrArg Prod.snd h9) dX8_curve_78
  · rw [if_neg c3] at h
    refine lv_iload_n S.1 S.2.1 dX8_curve_19 rfl (lv_at hl 2 rfl) ?_
    refine lv_i2l S.1 S.2.1 dX8_curve_20 rfl ?_
    refine pm_ldc2 S mw_4_39 dX8_curve_21 ?_
    refine pm_ldc2 S mw_4_40 dX8_curve_24 ?_
    obtain ⟨v4, ev4, h⟩ := ob_s h
    refine pm_cS (As := [.long (l2.toInt64), .long (-9 : Int64), .long (9 : Int64)]) (rest := []) S (c_X8_within l (l2.toInt64) (-9 : Int64) (9 : Int64) v4 ev4) sm_X8_within mw_4_41 ⟨⟨rfl, rfl⟩, by decide, by decide⟩ rfl hl.1 rfl (Nat.le_of_ble_eq_true rfl) ⟨Nat.zero_le _, Nat.zero_le _⟩ dX8_curve_27 ?_
    refine lv_if_eq (tgt := 77) S.1 S.2.1 dX8_curve_30 (by decide) (fun c5 => ?_) (fun c5 => ?_)
    · rw [if_pos c5] at h
      refine lv_iconst (v := -1) S.1 S.2.1 dX8_curve_77 (by decide) ?_
      have h9 := Option.some.inj h
      exact pm_iretW S hr hlk hP hS (congrArg Prod.fst h9) (congrArg Prod.snd h9) dX8_curve_78
    · rw [if_neg c5] at h
      refine lv_iload_n S.1 S.2.1 dX8_curve_33 rfl (lv_at hl 3 rfl) ?_
      refine lv_i2l S.1 S.2.1 dX8_curve_34 rfl ?_
      refine pm_ldc2 S mw_4_39 dX8_curve_35 ?_
      refine pm_ldc2 S mw_4_40 dX8_curve_38 ?_
      obtain ⟨v6, ev6, h⟩ := ob_s h
      refine pm_cS (As := [.long (l3.toInt64), .long (-9 : Int64), .long (9 : Int64)]) (rest := []) S (c_X8_within l (l3.toInt64) (-9 : Int64) (9 : Int64) v6 ev6) sm_X8_within mw_4_41 ⟨⟨rfl, rfl⟩, by decide, by decide⟩ rfl hl.1 rfl (Nat.le_of_ble_eq_true rfl) ⟨Nat.zero_le _, Nat.zero_le _⟩ dX8_curve_41 ?_
      refine lv_if_eq (tgt := 77) S.1 S.2.1 dX8_curve_44 (by decide) (fun c7 => ?_) (fun c7 => ?_)
      · rw [if_pos c7] at h
        refine lv_iconst (v := -1) S.1 S.2.1 dX8_curve_77 (by decide) ?_
        have h9 := Option.some.inj h
        exact pm_iretW S hr hlk hP hS (congrArg Prod.fst h9) (congrArg Prod.snd h9) dX8_curve_78
      · rw [if_neg c7] at h
        refine lv_iload S.1 S.2.1 dX8_curve_47 (lv_at hl 4 rfl) ?_
        refine lv_i2l S.1 S.2.1 dX8_curve_49 rfl ?_
        refine pm_ldc2 S mw_4_44 dX8_curve_50 ?_
        refine pm_ldc2 S mw_4_45 dX8_curve_53 ?_
        obtain ⟨v8, ev8, h⟩ := ob_s h
        refine pm_cS (As := [.long (l4.toInt64), .long (-99 : Int64), .long (99 : Int64)]) (rest := []) S (c_X8_within l (l4.toInt64) (-99 : Int64) (99 : Int64) v8 ev8) sm_X8_within mw_4_41 ⟨⟨rfl, rfl⟩, by decide, by decide⟩ rfl hl.1 rfl (Nat.le_of_ble_eq_true rfl) ⟨Nat.zero_le _, Nat.zero_le _⟩ dX8_curve_56 ?_
        refine lv_if_eq (tgt := 77) S.1 S.2.1 dX8_curve_59 (by decide) (fun c9 => ?_) (fun c9 => ?_)
        · rw [if_pos c9] at h
          refine lv_iconst (v := -1) S.1 S.2.1 dX8_curve_77 (by decide) ?_
          have h9 := Option.some.inj h
          exact pm_iretW S hr hlk hP hS (congrArg Prod.fst h9) (congrArg Prod.snd h9) dX8_curve_78
        · rw [if_neg c9] at h
          refine lv_iload S.1 S.2.1 dX8_curve_62 (lv_at hl 5 rfl) ?_
          refine lv_i2l S.1 S.2.1 dX8_curve_64 rfl ?_
          refine pm_ldc2 S mw_4_44 dX8_curve_65 ?_
          refine pm_ldc2 S mw_4_45 dX8_curve_68 ?_
          obtain ⟨v10, ev10, h⟩ := ob_s h
          refine pm_cS (As := [.long (l5.toInt64), .long (-99 : Int64), .long (99 : Int64)]) (rest := []) S (c_X8_within l (l5.toInt64) (-99 : Int64) (99 : Int64) v10 ev10) sm_X8_within mw_4_41 ⟨⟨rfl, rfl⟩, by decide, by decide⟩ rfl hl.1 rfl (Nat.le_of_ble_eq_true rfl) ⟨Nat.zero_le _, Nat.zero_le _⟩ dX8_curve_71 ?_
          refine lv_if_ne (tgt := 79) S.1 S.2.1 dX8_curve_74 (by decide) (fun c11 => ?_) (fun c11 => ?_)
          · rw [if_neg c11] at h
            refine lv_aload_n S.1 S.2.1 dX8_curve_79 rfl (lv_at hl 0 rfl) ?_
            refine gf_6_3 S hK hP hth mw_3_224 dX8_curve_80 ?_
            refine lv_iconst (v := 0) S.1 S.2.1 dX8_curve_83 (by decide) ?_
            refine lv_iload_n S.1 S.2.1 dX8_curve_84 rfl (lv_at hl 1 rfl) ?_
            refine lv_i2l S.1 S.2.1 dX8_curve_85 rfl ?_
            obtain ⟨v12, ev12, h⟩ := bd_s h
            refine pm_nmL ev12 ?_
            obtain ⟨z13, ez13, h⟩ := bd_s h
            refine as_J S E hK hP hS (E_6_3 E hth) (by rw [N_6_3 E hth]; decide) dX8_curve_86 (fun H locs hP hS => ?_)
            have hP : Wd ev (wJ z1 (rf ev 123 th) 0 v12) H := hP
            rw [← ez13] at hP
            refine lv_aload_n S.1 S.2.1 dX8_curve_87 rfl (lv_at hl 0 rfl) ?_
            refine gf_6_3 S hK hP hth mw_3_224 dX8_curve_88 ?_
            refine lv_iconst (v := 1) S.1 S.2.1 dX8_curve_91 (by decide) ?_
            refine lv_iload_n S.1 S.2.1 dX8_curve_92 rfl (lv_at hl 2 rfl) ?_
            refine lv_i2l S.1 S.2.1 dX8_curve_93 rfl ?_
            obtain ⟨v14, ev14, h⟩ := bd_s h
            refine pm_nmL ev14 ?_
            obtain ⟨z15, ez15, h⟩ := bd_s h
            refine as_J S E hK hP hS (E_6_3 E hth) (by rw [N_6_3 E hth]; decide) dX8_curve_94 (fun H locs hP hS => ?_)
            have hP : Wd ev (wJ z13 (rf ev 123 th) 1 v14) H := hP
            rw [← ez15] at hP
            refine lv_aload_n S.1 S.2.1 dX8_curve_95 rfl (lv_at hl 0 rfl) ?_
            refine gf_6_3 S hK hP hth mw_3_224 dX8_curve_96 ?_
            refine lv_iconst (v := 2) S.1 S.2.1 dX8_curve_99 (by decide) ?_
            refine lv_iload_n S.1 S.2.1 dX8_curve_100 rfl (lv_at hl 3 rfl) ?_
            refine lv_i2l S.1 S.2.1 dX8_curve_101 rfl ?_
            obtain ⟨v16, ev16, h⟩ := bd_s h
            refine pm_nmL ev16 ?_
            obtain ⟨z17, ez17, h⟩ := bd_s h
            refine as_J S E hK hP hS (E_6_3 E hth) (by rw [N_6_3 E hth]; decide) dX8_curve_102 (fun H locs hP hS => ?_)
            have hP : Wd ev (wJ z15 (rf ev 123 th) 2 v16) H := hP
            rw [← ez17] at hP
            refine lv_aload_n S.1 S.2.1 dX8_curve_103 rfl (lv_at hl 0 rfl) ?_
            refine gf_6_3 S hK hP hth mw_3_224 dX8_curve_104 ?_
            refine lv_iconst (v := 3) S.1 S.2.1 dX8_curve_107 (by decide) ?_
            refine lv_iload S.1 S.2.1 dX8_curve_108 (lv_at hl 4 rfl) ?_
            refine lv_i2l S.1 S.2.1 dX8_curve_110 rfl ?_
            obtain ⟨v18, ev18, h⟩ := bd_s h
            refine pm_nmL ev18 ?_
            obtain ⟨z19, ez19, h⟩ := bd_s h
            refine as_J S E hK hP hS (E_6_3 E hth) (by rw [N_6_3 E hth]; decide) dX8_curve_111 (fun H locs hP hS => ?_)
            have hP : Wd ev (wJ z17 (rf ev 123 th) 3 v18) H := hP
            rw [← ez19] at hP
            refine lv_aload_n S.1 S.2.1 dX8_curve_112 rfl (lv_at hl 0 rfl) ?_
            refine gf_6_3 S hK hP hth mw_3_224 dX8_curve_113 ?_
            refine lv_iconst (v := 4) S.1 S.2.1 dX8_curve_116 (by decide) ?_
            refine lv_iload S.1 S.2.1 dX8_curve_117 (lv_at hl 5 rfl) ?_
            refine lv_i2l S.1 S.2.1 dX8_curve_119 rfl ?_
            obtain ⟨v20, ev20, h⟩ := bd_s h
            refine pm_nmL ev20 ?_
            obtain ⟨z21, ez21, h⟩ := bd_s h
            refine as_J S E hK hP hS (E_6_3 E hth) (by rw [N_6_3 E hth]; decide) dX8_curve_120 (fun H locs hP hS => ?_)
            have hP : Wd ev (wJ z19 (rf ev 123 th) 4 v20) H := hP
            rw [← ez21] at hP
            refine lv_aload_n S.1 S.2.1 dX8_curve_121 rfl (lv_at hl 0 rfl) ?_
            obtain ⟨v22, ev22, h⟩ := ob_s h
            refine pm_cVr (As := []) (rest := []) S hK hX hP hS (c_X8_disc l ev z21 E hth th v22 ev22) vm_X8_disc mw_4_46 (rc_6 hK hP hth) ⟨⟨rfl, rfl⟩, by decide, by decide⟩ rfl hl.1 rfl (Nat.le_of_ble_eq_true rfl) ⟨Nat.zero_le _, Nat.zero_le _⟩ dX8_curve_122 ?_
            refine lv_lconst (v := 0) S.1 S.2.1 dX8_curve_125 (by decide) ?_
            refine pm_lne (tgt := 134) S dX8_curve_126 dX8_curve_127 (by decide) (fun c23 => ?_) (fun c23 => ?_)
            · rw [if_neg c23] at h
              refine lv_aload_n S.1 S.2.1 dX8_curve_134 rfl (lv_at hl 0 rfl) ?_
              obtain ⟨qv25, ev25, h⟩ := ob_s h
              obtain ⟨v25, fv25, h⟩ := bd_s h
              obtain ⟨z24, fz24, h⟩ := bd_s h
              have ev25 : g_X8_keeps ev z21 th = some (v25, z24) := by rw [fv25, fz24]; exact ev25
              refine pm_cVi (As := []) (rest := []) S hK hX hP hS (c_X8_keeps l ev z21 E hth th v25 z24 ev25) vm_X8_keeps mw_4_70 (rc_6 hK hP hth) ⟨⟨rfl, rfl⟩, by decide, by decide⟩ rfl hl.1 rfl (Nat.le_of_ble_eq_true rfl) ⟨Nat.zero_le _, Nat.zero_le _⟩ dX8_curve_135 (fun H locs hP hS => ?_)
              have h9 := Option.some.inj h
              exact pm_iretW S hr hlk hP hS (congrArg Prod.fst h9) (congrArg Prod.snd h9) dX8_curve_138
            · rw [if_pos c23] at h
              refine lv_iconst (v := -1) S.1 S.2.1 dX8_curve_130 (by decide) ?_
              refine lv_goto (tgt := 138) S.1 S.2.1 dX8_curve_131 (by decide) ?_
              have h9 := Option.some.inj h
              exact pm_iretW S hr hlk hP hS (congrArg Prod.fst h9) (congrArg Prod.snd h9) dX8_curve_138
          · rw [if_pos c11] at h
            refine lv_iconst (v := -1) S.1 S.2.1 dX8_curve_77 (by decide) ?_
            have h9 := Option.some.inj h
            exact pm_iretW S hr hlk hP hS (congrArg Prod.fst h9) (congrArg Prod.snd h9) dX8_curve_78
theorem vm_X8_curve : pm_Vm yX8_curve cX8_curve 6 (some .int) 5 := ⟨mw_4_38, mw_4_36, mw_4_37, mw_1_7, by decide, by decide⟩
def g_X8_change (ev : EV) (z : PS) (th : Nat) (l1 : Int32) (l2 : Int32) (l3 : Int32) (l4 : Int32) : Option (Int32 × PS) := bd (w32 z 120 th (0 : Int32)) (fun z1 => ob (g_X8_isCurve ev z1 th l1) (fun v2 => if v2 = 0 then (some ((-1 : Int32), z1)) else (ob (g_X8_within (l2.toInt64) (-99 : Int64) (99 : Int64)) (fun v4 => if v4 = 0 then (some ((-1 : Int32), z1)) else (ob (g_X8_within (l3.toInt64) (-99 : Int64) (99 : Int64)) (fun v6 => if v6 = 0 then (some ((-1 : Int32), z1)) else (ob (g_X8_within (l4.toInt64) (-99 : Int64) (99 : Int64)) (fun v8 => if v8 = 0 then (some ((-1 : Int32), z1)) else (ob (g_X8_loads ev z1 th l1) (fun z10 => ob (g_X8_changes ev z10 th (l2.toInt64) (l3.toInt64) (l4.toInt64)) (fun z11 => ob (g_X8_keeps ev z11 th) (fun qv13 => bd qv13.1 (fun v13 => bd qv13.2 (fun z12 => some (v13, z12)))))))))))))))
set_option maxRecDepth 20000 in
set_option maxHeartbeats 4000000 in
theorem c_X8_change (l : Launch) (ev : EV) (z : PS) (E : EWF ev) {th : Nat} (hth : isK ev 6 th) (th_ : Nat) (l1 : Int32) (l2 : Int32) (l3 : Int32) (l4 : Int32) (r : Int32) (z9 : PS) (h : g_X8_change ev z th l1 l2 l3 l4 = some (r, z9)) : Met l yX8_change (pWs yX8_change cX8_change 5 (some .int)) (pR 4 131) (va_Pc [.ref th, .int l1, .int l2, .int l3, .int l4] (pPe ev z)) (pQi ev r z9) 0 0 (eA ev) := by
  refine pm_of (by decide) (Nat.le_of_ble_eq_true rfl) ?_
  intro p e s m below meth c S hr hlk hv ls hl
  obtain ⟨hP, hK, hX⟩ := hv
  have hS : SS ev s s.heap [] := va_S.rf
  have hl : lv_has ls 5 [(0, .ref th), (1, .int l1), (2, .int l2), (3, .int l3), (4, .int l4)] := hl
  unfold g_X8_change at h
  refine lv_aload_n S.1 S.2.1 dX8_change_0 rfl (lv_at hl 0 rfl) ?_
  refine lv_iconst (v := 0) S.1 S.2.1 dX8_change_1 (by decide) ?_
  obtain ⟨z1, ez1, h⟩ := bd_s h
  refine pf_6_0 S E hK hP hS hth mw_3_221 dX8_change_2 (fun H locs hP hS => ?_)
  rw [← ez1] at hP
  refine lv_aload_n S.1 S.2.1 dX8_change_5 rfl (lv_at hl 0 rfl) ?_
  refine lv_iload_n S.1 S.2.1 dX8_change_6 rfl (lv_at hl 1 rfl) ?_
  obtain ⟨v2, ev2, h⟩ := ob_s h
  refine pm_cVr (As := [.int l1]) (rest := []) S hK hX hP hS (c_X8_isCurve l ev z1 E hth th l1 v2 ev2) vm_X8_isCurve mw_4_87 (rc_6 hK hP hth) ⟨⟨rfl, rfl⟩, by decide, by decide⟩ rfl hl.1 rfl (Nat.le_of_ble_eq_true rfl) ⟨Nat.zero_le _, Nat.zero_le _⟩ dX8_change_7 ?_
  refine lv_if_eq (tgt := 56) S.1 S.2.1 dX8_change_10 (by decide) (fun c3 => ?_) (fun c3 => ?_)
  · rw [if_pos c3] at h
    refine lv_iconst (v := -1) S.1 S.2.1 dX8_change_56 (by decide) ?_
    have h9 := Option.some.inj h
    exact pm_iretW S hr hlk hP hS (congrArg Prod.fst h9) (congrArg Prod.snd h9) dX8_change_57
  · rw [if_neg c3] at h
    refine lv_iload_n S.1 S.2.1 dX8_change_13 rfl (lv_at hl 2 rfl) ?_
    refine lv_i2l S.1 S.2.1 dX8_change_14 rfl ?_
    refine pm_ldc2 S mw_4_44 dX8_change_15 ?_
    refine pm_ldc2 S mw_4_45 dX8_change_18 ?_
    obtain ⟨v4, ev4, h⟩ := ob_s h
    refine pm_cS (As := [.long (l2.toInt64), .long (-99 : Int64), .long (99 : Int64)]) (rest := []) S (c_X8_within l (l2.toInt64) (-99 : Int64) (99 : Int64) v4 ev4) sm_X8_within mw_4_41 ⟨⟨rfl, rfl⟩, by decide, by decide⟩ rfl hl.1 rfl (Nat.le_of_ble_eq_true rfl) ⟨Nat.zero_le _, Nat.zero_le _⟩ dX8_change_21 ?_
    refine lv_if_eq (tgt := 56) S.1 S.2.1 dX8_change_24 (by decide) (fun c5 => ?_) (fun c5 => ?_)
    · rw [if_pos c5] at h
      refine lv_iconst (v := -1) S.1 S.2.1 dX8_change_56 (by decide) ?_
      have h9 := Option.some.inj h
      exact pm_iretW S hr hlk hP hS (congrArg Prod.fst h9) (congrArg Prod.snd h9) dX8_change_57
    · rw [if_neg c5] at h
      refine lv_iload_n S.1 S.2.1 dX8_change_27 rfl (lv_at hl 3 rfl) ?_
      refine lv_i2l S.1 S.2.1 dX8_change_28 rfl ?_
      refine pm_ldc2 S mw_4_44 dX8_change_29 ?_
      refine pm_ldc2 S mw_4_45 dX8_change_32 ?_
      obtain ⟨v6, ev6, h⟩ := ob_s h
      refine pm_cS (As := [.long (l3.toInt64), .long (-99 : Int64), .long (99 : Int64)]) (rest := []) S (c_X8_within l (l3.toInt64) (-99 : Int64) (99 : Int64) v6 ev6) sm_X8_within mw_4_41 ⟨⟨rfl, rfl⟩, by decide, by decide⟩ rfl hl.1 rfl (Nat.le_of_ble_eq_true rfl) ⟨Nat.zero_le _, Nat.zero_le _⟩ dX8_change_35 ?_
      refine lv_if_eq (tgt := 56) S.1 S.2.1 dX8_change_38 (by decide) (fun c7 => ?_) (fun c7 => ?_)
      · rw [if_pos c7] at h
        refine lv_iconst (v := -1) S.1 S.2.1 dX8_change_56 (by decide) ?_
        have h9 := Option.some.inj h
        exact pm_iretW S hr hlk hP hS (congrArg Prod.fst h9) (congrArg Prod.snd h9) dX8_change_57
      · rw [if_neg c7] at h
        refine lv_iload S.1 S.2.1 dX8_change_41 (lv_at hl 4 rfl) ?_
        refine lv_i2l S.1 S.2.1 dX8_change_43 rfl ?_
        refine pm_ldc2 S mw_4_44 dX8_change_44 ?_
        refine pm_ldc2 S mw_4_45 dX8_change_47 ?_
        obtain ⟨v8, ev8, h⟩ := ob_s h
        refine pm_cS (As := [.long (l4.toInt64), .long (-99 : Int64), .long (99 : Int64)]) (rest := []) S (c_X8_within l (l4.toInt64) (-99 : Int64) (99 : Int64) v8 ev8) sm_X8_within mw_4_41 ⟨⟨rfl, rfl⟩, by decide, by decide⟩ rfl hl.1 rfl (Nat.le_of_ble_eq_true rfl) ⟨Nat.zero_le _, Nat.zero_le _⟩ dX8_change_50 ?_
        refine lv_if_ne (tgt := 58) S.1 S.2.1 dX8_change_53 (by decide) (fun c9 => ?_) (fun c9 => ?_)
        · rw [if_neg c9] at h
          refine lv_aload_n S.1 S.2.1 dX8_change_58 rfl (lv_at hl 0 rfl) ?_
          refine lv_iload_n S.1 S.2.1 dX8_change_59 rfl (lv_at hl 1 rfl) ?_
          obtain ⟨z10, ez10, h⟩ := ob_s h
          refine pm_cVv (As := [.int l1]) (rest := []) S hK hX hP hS (c_X8_loads l ev z1 E hth th l1 z10 ez10) vm_X8_loads mw_4_91 (rc_6 hK hP hth) ⟨⟨rfl, rfl⟩, by decide, by decide⟩ rfl hl.1 rfl (Nat.le_of_ble_eq_true rfl) ⟨Nat.zero_le _, Nat.zero_le _⟩ dX8_change_60 (fun H locs hP hS => ?_)
          refine lv_aload_n S.1 S.2.1 dX8_change_63 rfl (lv_at hl 0 rfl) ?_
          refine lv_iload_n S.1 S.2.1 dX8_change_64 rfl (lv_at hl 2 rfl) ?_
          refine lv_i2l S.1 S.2.1 dX8_change_65 rfl ?_
          refine lv_iload_n S.1 S.2.1 dX8_change_66 rfl (lv_at hl 3 rfl) ?_
          refine lv_i2l S.1 S.2.1 dX8_change_67 rfl ?_
          refine lv_iload S.1 S.2.1 dX8_change_68 (lv_at hl 4 rfl) ?_
          refine lv_i2l S.1 S.2.1 dX8_change_70 rfl ?_
          obtain ⟨z11, ez11, h⟩ := ob_s h
          refine pm_cVv (As := [.long (l2.toInt64), .long (l3.toInt64), .long (l4.toInt64)]) (rest := []) S hK hX hP hS (c_X8_changes l ev z10 E hth th (l2.toInt64) (l3.toInt64) (l4.toInt64) z11 ez11) vm_X8_changes mw_4_95 (rc_6 hK hP hth) ⟨⟨rfl, rfl⟩, by decide, by decide⟩ rfl hl.1 rfl (Nat.le_of_ble_eq_true rfl) ⟨Nat.zero_le _, Nat.zero_le _⟩ dX8_change_71 (fun H locs hP hS => ?_)
          refine lv_aload_n S.1 S.2.1 dX8_change_74 rfl (lv_at hl 0 rfl) ?_
          obtain ⟨qv13, ev13, h⟩ := ob_s h
          obtain ⟨v13, fv13, h⟩ := bd_s h
          obtain ⟨z12, fz12, h⟩ := bd_s h
          have ev13 : g_X8_keeps ev z11 th = some (v13, z12) := by rw [fv13, fz12]; exact ev13
          refine pm_cVi (As := []) (rest := []) S hK hX hP hS (c_X8_keeps l ev z11 E hth th v13 z12 ev13) vm_X8_keeps mw_4_70 (rc_6 hK hP hth) ⟨⟨rfl, rfl⟩, by decide, by decide⟩ rfl hl.1 rfl (Nat.le_of_ble_eq_true rfl) ⟨Nat.zero_le _, Nat.zero_le _⟩ dX8_change_75 (fun H locs hP hS => ?_)
          have h9 := Option.some.inj h
          exact pm_iretW S hr hlk hP hS (congrArg Prod.fst h9) (congrArg Prod.snd h9) dX8_change_78
        · rw [if_pos c9] at h
          refine lv_iconst (v := -1) S.1 S.2.1 dX8_change_56 (by decide) ?_
          have h9 := Option.some.inj h
          exact pm_iretW S hr hlk hP hS (congrArg Prod.fst h9) (congrArg Prod.snd h9) dX8_change_57
theorem vm_X8_change : pm_Vm yX8_change cX8_change 5 (some .int) 4 := ⟨mw_4_86, mw_4_84, mw_4_85, mw_1_7, by decide, by decide⟩
def g_X8_product (l0 : Int64) (l2 : Int64) : Option Int64 := if l0 = (0 : Int64) then (some (l0 * l2)) else (ob (g_X8_size l2) (fun v2 => ob (g_X8_size l0) (fun v3 => ck (¬ v3 = 0) (if v2 ≤ ((4000000000000000000 : Int64) / v3) then (some (l0 * l2)) else (some (4000000000000000000 : Int64))))))
set_option maxRecDepth 20000 in
set_option maxHeartbeats 4000000 in
theorem c_X8_product (l : Launch) (l0 : Int64) (l2 : Int64) (r : Int64) (h : g_X8_product l0 l2 = some r) : Met l yX8_product (pWs yX8_product cX8_product 4 (some .long)) (pR 1 33) (va_Pc [.long l0, .long l2] (fun _ => True)) (k2_QcV (.long r)) 0 0 (fun _ => False) := by
  refine pm_of (by decide) (Nat.le_of_ble_eq_true rfl) ?_
  intro p e s m below meth c S hr hlk hv ls hl
  have hl : lv_has ls 4 [(0, .long l0), (2, .long l2)] := hl
  unfold g_X8_product at h
  refine lv_lload_n S.1 S.2.1 dX8_product_0 rfl (lv_at hl 0 rfl) ?_
  refine lv_lconst (v := 0) S.1 S.2.1 dX8_product_1 (by decide) ?_
  refine pm_leq (tgt := 28) S dX8_product_2 dX8_product_3 (by decide) (fun c1 => ?_) (fun c1 => ?_)
  · rw [if_pos c1] at h
    refine lv_lload_n S.1 S.2.1 dX8_product_28 rfl (lv_at hl 0 rfl) ?_
    refine lv_lload_n S.1 S.2.1 dX8_product_29 rfl (lv_at hl 1 rfl) ?_
    refine lv_lmul S.1 S.2.1 dX8_product_30 ?_
    exact pm_lretR S hr hlk (Option.some.inj h) dX8_product_31
  · rw [if_neg c1] at h
    refine lv_lload_n S.1 S.2.1 dX8_product_6 rfl (lv_at hl 1 rfl) ?_
    obtain ⟨v2, ev2, h⟩ := ob_s h
    refine pm_cS (As := [.long l2]) (rest := []) S (c_X8_size l l2 v2 ev2) sm_X8_size mw_4_78 ⟨⟨rfl, rfl⟩, by decide, by decide⟩ rfl hl.1 rfl (Nat.le_of_ble_eq_true rfl) ⟨Nat.zero_le _, Nat.zero_le _⟩ dX8_product_7 ?_
    refine pm_ldc2 S mw_4_117 dX8_product_10 ?_
    refine lv_lload_n S.1 S.2.1 dX8_product_13 rfl (lv_at hl 0 rfl) ?_
    obtain ⟨v3, ev3, h⟩ := ob_s h
    refine pm_cS (As := [.long l0]) (rest := [.long (4000000000000000000 : Int64), .long v2]) S (c_X8_size l l0 v3 ev3) sm_X8_size mw_4_78 ⟨⟨rfl, rfl⟩, by decide, by decide⟩ rfl hl.1 rfl (Nat.le_of_ble_eq_true rfl) ⟨Nat.zero_le _, Nat.zero_le _⟩ dX8_product_14 ?_
    obtain ⟨hc4, h⟩ := ck_s h
    refine lv_ldiv S.1 S.2.1 dX8_product_17 hc4 ?_
    refine pm_lle (tgt := 28) S dX8_product_18 dX8_product_19 (by decide) (fun c5 => ?_) (fun c5 => ?_)
    · rw [if_pos c5] at h
      refine lv_lload_n S.1 S.2.1 dX8_product_28 rfl (lv_at hl 0 rfl) ?_
      refine lv_lload_n S.1 S.2.1 dX8_product_29 rfl (lv_at hl 1 rfl) ?_
      refine lv_lmul S.1 S.2.1 dX8_product_30 ?_
      exact pm_lretR S hr hlk (Option.some.inj h) dX8_product_31
    · rw [if_neg c5] at h
      refine pm_ldc2 S mw_4_117 dX8_product_22 ?_
      refine lv_goto (tgt := 31) S.1 S.2.1 dX8_product_25 (by decide) ?_
      exact pm_lretR S hr hlk (Option.some.inj h) dX8_product_31
theorem sm_X8_product : pm_Sm yX8_product cX8_product 4 (some .long) 2 := ⟨mw_4_116, mw_4_115, mw_1_7, by decide, by decide⟩
def q_X8_scale_104 (ev : EV) (th : Nat) : Nat → Int32 → Int32 → PS → Option (Int32 × PS)
  | 0, _, _, _ => none
  | n + 1, l2, l6, z => if (5 : Int32) ≤ l6 then (ob (g_X8_keeps ev z th) (fun qv21 => bd qv21.1 (fun v21 => bd qv21.2 (fun z20 => some (v21, z20))))) else (ck (inB l6 5) (ob (g_X8_weight l6) (fun v23 => ob (g_X8_power (l2.toInt64) v23) (fun v24 => bd (((rJ z (rf ev 123 th) l6.toNatClampNeg) * v24)) (fun v25 => ck (inB l6 5) (bd (wJ z (rf ev 123 th) l6.toNatClampNeg v25) (fun z27 => bd (l6 + (1 : Int32)) (fun v28 => q_X8_scale_104 ev th n l2 v28 z27))))))))
set_option maxRecDepth 20000 in
set_option maxHeartbeats 4000000 in
theorem w_X8_scale_104 {ev : EV} {th : Nat} {p : Program} {l : Launch} {e : Env} {s : State} {m : MethodId} {args : Array Value} {below : List Frame} {meth : Method} {c : Code} {r : Int32} {z9 : PS} (S : CallFix p m c cX8_scale 7 s args gT RX8) (hr : meth.sig.returnType = (some .int)) (hlk : meth.locks = false) (E : EWF ev) (hK : KK ev s) (hX : pXt ev s) (hth : isK ev 6 th) : ∀ (n : Nat), ∀ (l2 : Int32) (l6 : Int32) (z : PS) (ls : Array Slot) (H : Heap) (locs : List Loc), q_X8_scale_104 ev th n l2 l6 z = some (r, z9) → lv_has ls 7 [(0, .ref th), (2, .int l2), (6, .int l6)] → Wd ev z H → SS ev s H locs → W p l e (pR 4 131) s m args below meth c H locs 0 0 (MQ below (pQi ev r z9) args s 0 0 (eA ev)) (F0 m 104 ls []) := by
  intro n
  induction n with
  | zero => intro l2 l6 z ls H locs h; cases h
  | succ n ih =>
    intro l2 l6 z ls H locs h hl hP hS
    rw [q_X8_scale_104] at h
    refine lv_iload S.1 S.2.1 dX8_scale_104 (lv_at hl 2 rfl) ?_
    refine lv_iconst (v := 5) S.1 S.2.1 dX8_scale_106 (by decide) ?_
    refine lv_icmp_ge (tgt := 136) S.1 S.2.1 dX8_scale_107 (by decide) (fun c19 => ?_) (fun c19 => ?_)
    · rw [if_pos c19] at h
      refine lv_aload_n S.1 S.2.1 dX8_scale_136 rfl (lv_at hl 0 rfl) ?_
      obtain ⟨qv21, ev21, h⟩ := ob_s h
      obtain ⟨v21, fv21, h⟩ := bd_s h
      obtain ⟨z20, fz20, h⟩ := bd_s h
      have ev21 : g_X8_keeps ev z th = some (v21, z20) := by rw [fv21, fz20]; exact ev21
      refine pm_cVi (As := []) (rest := []) S hK hX hP hS (c_X8_keeps l ev z E hth th v21 z20 ev21) vm_X8_keeps mw_4_70 (rc_6 hK hP hth) ⟨⟨rfl, rfl⟩, by decide, by decide⟩ rfl hl.1 rfl (Nat.le_of_ble_eq_true rfl) ⟨Nat.zero_le _, Nat.zero_le _⟩ dX8_scale_137 (fun H locs hP hS => ?_)
      have h9 := Option.some.inj h
      exact pm_iretW S hr hlk hP hS (congrArg Prod.fst h9) (congrArg Prod.snd h9) dX8_scale_140
    · rw [if_neg c19] at h
      refine lv_aload_n S.1 S.2.1 dX8_scale_110 rfl (lv_at hl 0 rfl) ?_
      refine gf_6_3 S hK hP hth mw_3_224 dX8_scale_111 ?_
      refine lv_iload S.1 S.2.1 dX8_scale_114 (lv_at hl 2 rfl) ?_
      refine lv_dup2_11 S.1 S.2.1 dX8_scale_116 rfl rfl ?_
      obtain ⟨hc22, h⟩ := ck_s h
      refine al_J S hK hP (E_6_3 E hth) (by rw [N_6_3 E hth]; exact hc22) dX8_scale_117 ?_
      refine lv_iload_n S.1 S.2.1 dX8_scale_118 rfl (lv_at hl 1 rfl) ?_
      refine lv_i2l S.1 S.2.1 dX8_scale_119 rfl ?_
      refine lv_iload S.1 S.2.1 dX8_scale_120 (lv_at hl 2 rfl) ?_
      obtain ⟨v23, ev23, h⟩ := ob_s h
      refine pm_cS (As := [.int l6]) (rest := [.long (l2.toInt64), .long (rJ z (rf ev 123 th) l6.toNatClampNeg), .int l6, .ref (rf ev 123 th)]) S (c_X8_weight l l6 v23 ev23) sm_X8_weight mw_4_108 ⟨⟨rfl, rfl⟩, by decide, by decide⟩ rfl hl.1 rfl (Nat.le_of_ble_eq_true rfl) ⟨Nat.zero_le _, Nat.zero_le _⟩ dX8_scale_122 ?_
      obtain ⟨v24, ev24, h⟩ := ob_s h
      refine pm_cS (As := [.long (l2.toInt64), .int v23]) (rest := [.long (rJ z (rf ev 123 th) l6.toNatClampNeg), .int l6, .ref (rf ev 123 th)]) S (c_X8_power l (l2.toInt64) v23 v24 ev24) sm_X8_power mw_4_111 ⟨⟨rfl, rfl⟩, by decide, by decide⟩ rfl hl.1 rfl (Nat.le_of_ble_eq_true rfl) ⟨Nat.zero_le _, Nat.zero_le _⟩ dX8_scale_125 ?_
      refine lv_lmul S.1 S.2.1 dX8_scale_128 ?_
      obtain ⟨v25, ev25, h⟩ := bd_s h
      refine pm_nmL ev25 ?_
      obtain ⟨hc26, h⟩ := ck_s h
      obtain ⟨z27, ez27, h⟩ := bd_s h
      refine as_J S E hK hP hS (E_6_3 E hth) (by rw [N_6_3 E hth]; exact hc26) dX8_scale_129 (fun H locs hP hS => ?_)
      rw [← ez27] at hP
      obtain ⟨v28, ev28, h⟩ := bd_s h
      refine lv_iinc (v := v28) (lv' := [(6, .int v28), (0, .ref th), (2, .int l2)]) S.1 S.2.1 dX8_scale_130 hl (k := 2) rfl (by rw [ev28]; rfl) (by decide) rfl (fun ls hl => ?_)
      refine lv_goto (tgt := 104) S.1 S.2.1 dX8_scale_133 (by decide) ?_
      exact ih l2 v28 z27 ls _ _ h (lv_sub hl [1, 2, 0] rfl) hP hS
def q_X8_scale_68 (ev : EV) (th : Nat) : Nat → Int32 → Int64 → Int32 → PS → Option (Int32 × PS)
  | 0, _, _, _, _ => none
  | n + 1, l2, l4, l6, z => if (12 : Int32) ≤ l6 then (if l4 ≤ (1000000000000000000 : Int64) then (q_X8_scale_104 ev th FU l2 (0 : Int32) z) else (some ((-1 : Int32), z))) else (ob (g_X8_product l4 (l2.toInt64)) (fun v17 => bd (l6 + (1 : Int32)) (fun v18 => q_X8_scale_68 ev th n l2 v17 v18 z)))
set_option maxRecDepth 20000 in
set_option maxHeartbeats 4000000 in
theorem w_X8_scale_68 {ev : EV} {th : Nat} {p : Program} {l : Launch} {e : Env} {s : State} {m : MethodId} {args : Array Value} {below : List Frame} {meth : Method} {c : Code} {r : Int32} {z9 : PS} (S : CallFix p m c cX8_scale 7 s args gT RX8) (hr : meth.sig.returnType = (some .int)) (hlk : meth.locks = false) (E : EWF ev) (hK : KK ev s) (hX : pXt ev s) (hth : isK ev 6 th) : ∀ (n : Nat), ∀ (l2 : Int32) (l4 : Int64) (l6 : Int32) (z : PS) (ls : Array Slot) (H : Heap) (locs : List Loc), q_X8_scale_68 ev th n l2 l4 l6 z = some (r, z9) → lv_has ls 7 [(0, .ref th), (2, .int l2), (4, .long l4), (6, .int l6)] → Wd ev z H → SS ev s H locs → W p l e (pR 4 131) s m args below meth c H locs 0 0 (MQ below (pQi ev r z9) args s 0 0 (eA ev)) (F0 m 68 ls []) := by
  intro n
  induction n with
  | zero => intro l2 l4 l6 z ls H locs h; cases h
  | succ n ih =>
    intro l2 l4 l6 z ls H locs h hl hP hS
    rw [q_X8_scale_68] at h
    refine lv_iload S.1 S.2.1 dX8_scale_68 (lv_at hl 3 rfl) ?_
    refine lv_bipush (v := 12) S.1 S.2.1 dX8_scale_70 (by decide) ?_
    refine lv_icmp_ge (tgt := 90) S.1 S.2.1 dX8_scale_72 (by decide) (fun c15 => ?_) (fun c15 => ?_)
    · rw [if_pos c15] at h
      refine lv_lload S.1 S.2.1 dX8_scale_90 (lv_at hl 2 rfl) ?_
      refine pm_ldc2 S mw_4_81 dX8_scale_92 ?_
      refine pm_lle (tgt := 101) S dX8_scale_95 dX8_scale_96 (by decide) (fun c16 => ?_) (fun c16 => ?_)
      · rw [if_pos c16] at h
        refine lv_iconst (v := 0) S.1 S.2.1 dX8_scale_101 (by decide) ?_
        refine lv_istore (lv' := [(6, .int (0 : Int32)), (0, .ref th), (2, .int l2), (4, .long l4)]) S.1 S.2.1 dX8_scale_102 hl (by decide) rfl (fun ls hl => ?_)
        exact w_X8_scale_104 S hr hlk E hK hX hth FU l2 (0 : Int32) z ls _ _ h (lv_sub hl [1, 2, 0] rfl) hP hS
      · rw [if_neg c16] at h
        refine lv_iconst (v := -1) S.1 S.2.1 dX8_scale_99 (by decide) ?_
        have h9 := Option.some.inj h
        exact pm_iretW S hr hlk hP hS (congrArg Prod.fst h9) (congrArg Prod.snd h9) dX8_scale_100
    · rw [if_neg c15] at h
      refine lv_lload S.1 S.2.1 dX8_scale_75 (lv_at hl 2 rfl) ?_
      refine lv_iload_n S.1 S.2.1 dX8_scale_77 rfl (lv_at hl 1 rfl) ?_
      refine lv_i2l S.1 S.2.1 dX8_scale_78 rfl ?_
      obtain ⟨v17, ev17, h⟩ := ob_s h
      refine pm_cS (As := [.long l4, .long (l2.toInt64)]) (rest := []) S (c_X8_product l l4 (l2.toInt64) v17 ev17) sm_X8_product mw_4_114 ⟨⟨rfl, rfl⟩, by decide, by decide⟩ rfl hl.1 rfl (Nat.le_of_ble_eq_true rfl) ⟨Nat.zero_le _, Nat.zero_le _⟩ dX8_scale_79 ?_
      refine lv_lstore (lv' := [(4, .long v17), (0, .ref th), (2, .int l2), (6, .int l6)]) S.1 S.2.1 dX8_scale_82 hl (by decide) rfl (fun ls hl => ?_)
      obtain ⟨v18, ev18, h⟩ := bd_s h
      refine lv_iinc (v := v18) (lv' := [(6, .int v18), (4, .long v17), (0, .ref th), (2, .int l2)]) S.1 S.2.1 dX8_scale_84 hl (k := 3) rfl (by rw [ev18]; rfl) (by decide) rfl (fun ls hl => ?_)
      refine lv_goto (tgt := 68) S.1 S.2.1 dX8_scale_87 (by decide) ?_
      exact ih l2 v17 v18 z ls _ _ h (lv_sub hl [2, 3, 1, 0] rfl) hP hS
def g_X8_scale (ev : EV) (z : PS) (th : Nat) (l1 : Int32) (l2 : Int32) (l3 : Int32) : Option (Int32 × PS) := bd (w32 z 120 th (0 : Int32)) (fun z1 => ob (g_X8_isCurve ev z1 th l1) (fun v2 => if v2 = 0 then (some ((-1 : Int32), z1)) else (ob (g_X8_within (l2.toInt64) (2 : Int64) (9 : Int64)) (fun v4 => if v4 = 0 then (some ((-1 : Int32), z1)) else (ob (g_X8_loads ev z1 th l1) (fun z6 => if l3 = 0 then (ob (g_X8_shrinks ev z6 th (l2.toInt64)) (fun qv11 => bd qv11.1 (fun v11 => bd qv11.2 (fun z10 => if v11 = 0 then (some ((-1 : Int32), z10)) else (ob (g_X8_keeps ev z10 th) (fun qv14 => bd qv14.1 (fun v14 => bd qv14.2 (fun z13 => some (v14, z13))))))))) else (ob (g_X8_disc ev z6 th) (fun v8 => ob (g_X8_size v8) (fun v9 => q_X8_scale_68 ev th FU l2 v9 (0 : Int32) z6)))))))))
set_option maxRecDepth 20000 in
set_option maxHeartbeats 4000000 in
theorem c_X8_scale (l : Launch) (ev : EV) (z : PS) (E : EWF ev) {th : Nat} (hth : isK ev 6 th) (th_ : Nat) (l1 : Int32) (l2 : Int32) (l3 : Int32) (r : Int32) (z9 : PS) (h : g_X8_scale ev z th l1 l2 l3 = some (r, z9)) : Met l yX8_scale (pWs yX8_scale cX8_scale 7 (some .int)) (pR 4 131) (va_Pc [.ref th, .int l1, .int l2, .int l3] (pPe ev z)) (pQi ev r z9) 0 0 (eA ev) := by
  refine pm_of (by decide) (Nat.le_of_ble_eq_true rfl) ?_
  intro p e s m below meth c S hr hlk hv ls hl
  obtain ⟨hP, hK, hX⟩ := hv
  have hS : SS ev s s.heap [] := va_S.rf
  have hl : lv_has ls 7 [(0, .ref th), (1, .int l1), (2, .int l2), (3, .int l3)] := hl
  unfold g_X8_scale at h
  refine lv_aload_n S.1 S.2.1 dX8_scale_0 rfl (lv_at hl 0 rfl) ?_
  refine lv_iconst (v := 0) S.1 S.2.1 dX8_scale_1 (by decide) ?_
  obtain ⟨z1, ez1, h⟩ := bd_s h
  refine pf_6_0 S E hK hP hS hth mw_3_221 dX8_scale_2 (fun H locs hP hS => ?_)
  rw [← ez1] at hP
  refine lv_aload_n S.1 S.2.1 dX8_scale_5 rfl (lv_at hl 0 rfl) ?_
  refine lv_iload_n S.1 S.2.1 dX8_scale_6 rfl (lv_at hl 1 rfl) ?_
  obtain ⟨v2, ev2, h⟩ := ob_s h
  refine pm_cVr (As := [.int l1]) (rest := []) S hK hX hP hS (c_X8_isCurve l ev z1 E hth th l1 v2 ev2) vm_X8_isCurve mw_4_87 (rc_6 hK hP hth) ⟨⟨rfl, rfl⟩, by decide, by decide⟩ rfl hl.1 rfl (Nat.le_of_ble_eq_true rfl) ⟨Nat.zero_le _, Nat.zero_le _⟩ dX8_scale_7 ?_
  refine lv_if_eq (tgt := 27) S.1 S.2.1 dX8_scale_10 (by decide) (fun c3 => ?_) (fun c3 => ?_)
  · rw [if_pos c3] at h
    refine lv_iconst (v := -1) S.1 S.2.1 dX8_scale_27 (by decide) ?_
    have h9 := Option.some.inj h
    exact pm_iretW S hr hlk hP hS (congrArg Prod.fst h9) (congrArg Prod.snd h9) dX8_scale_28
  · rw [if_neg c3] at h
    refine lv_iload_n S.1 S.2.1 dX8_scale_13 rfl (lv_at hl 2 rfl) ?_
    refine lv_i2l S.1 S.2.1 dX8_scale_14 rfl ?_
    refine pm_ldc2 S mw_4_59 dX8_scale_15 ?_
    refine pm_ldc2 S mw_4_40 dX8_scale_18 ?_
    obtain ⟨v4, ev4, h⟩ := ob_s h
    refine pm_cS (As := [.long (l2.toInt64), .long (2 : Int64), .long (9 : Int64)]) (rest := []) S (c_X8_within l (l2.toInt64) (2 : Int64) (9 : Int64) v4 ev4) sm_X8_within mw_4_41 ⟨⟨rfl, rfl⟩, by decide, by decide⟩ rfl hl.1 rfl (Nat.le_of_ble_eq_true rfl) ⟨Nat.zero_le _, Nat.zero_le _⟩ dX8_scale_21 ?_
    refine lv_if_ne (tgt := 29) S.1 S.2.1 dX8_scale_24 (by decide) (fun c5 => ?_) (fun c5 => ?_)
    · rw [if_neg c5] at h
      refine lv_aload_n S.1 S.2.1 dX8_scale_29 rfl (lv_at hl 0 rfl) ?_
      refine lv_iload_n S.1 S.2.1 dX8_scale_30 rfl (lv_at hl 1 rfl) ?_
      obtain ⟨z6, ez6, h⟩ := ob_s h
      refine pm_cVv (As := [.int l1]) (rest := []) S hK hX hP hS (c_X8_loads l ev z1 E hth th l1 z6 ez6) vm_X8_loads mw_4_91 (rc_6 hK hP hth) ⟨⟨rfl, rfl⟩, by decide, by decide⟩ rfl hl.1 rfl (Nat.le_of_ble_eq_true rfl) ⟨Nat.zero_le _, Nat.zero_le _⟩ dX8_scale_31 (fun H locs hP hS => ?_)
      refine lv_iload_n S.1 S.2.1 dX8_scale_34 rfl (lv_at hl 3 rfl) ?_
      refine lv_if_ne (tgt := 56) S.1 S.2.1 dX8_scale_35 (by decide) (fun c7 => ?_) (fun c7 => ?_)
      · rw [if_neg c7] at h
        refine lv_aload_n S.1 S.2.1 dX8_scale_56 rfl (lv_at hl 0 rfl) ?_
        obtain ⟨v8, ev8, h⟩ := ob_s h
        refine pm_cVr (As := []) (rest := []) S hK hX hP hS (c_X8_disc l ev z6 E hth th v8 ev8) vm_X8_disc mw_4_46 (rc_6 hK hP hth) ⟨⟨rfl, rfl⟩, by decide, by decide⟩ rfl hl.1 rfl (Nat.le_of_ble_eq_true rfl) ⟨Nat.zero_le _, Nat.zero_le _⟩ dX8_scale_57 ?_
        obtain ⟨v9, ev9, h⟩ := ob_s h
        refine pm_cS (As := [.long v8]) (rest := []) S (c_X8_size l v8 v9 ev9) sm_X8_size mw_4_78 ⟨⟨rfl, rfl⟩, by decide, by decide⟩ rfl hl.1 rfl (Nat.le_of_ble_eq_true rfl) ⟨Nat.zero_le _, Nat.zero_le _⟩ dX8_scale_60 ?_
        refine lv_lstore (lv' := [(4, .long v9), (0, .ref th), (1, .int l1), (2, .int l2), (3, .int l3)]) S.1 S.2.1 dX8_scale_63 hl (by decide) rfl (fun ls hl => ?_)
        refine lv_iconst (v := 0) S.1 S.2.1 dX8_scale_65 (by decide) ?_
        refine lv_istore (lv' := [(6, .int (0 : Int32)), (4, .long v9), (0, .ref th), (1, .int l1), (2, .int l2), (3, .int l3)]) S.1 S.2.1 dX8_scale_66 hl (by decide) rfl (fun ls hl => ?_)
        exact w_X8_scale_68 S hr hlk E hK hX hth FU l2 v9 (0 : Int32) z6 ls _ _ h (lv_sub hl [2, 4, 1, 0] rfl) hP hS
      · rw [if_pos c7] at h
        refine lv_aload_n S.1 S.2.1 dX8_scale_38 rfl (lv_at hl 0 rfl) ?_
        refine lv_iload_n S.1 S.2.1 dX8_scale_39 rfl (lv_at hl 2 rfl) ?_
        refine lv_i2l S.1 S.2.1 dX8_scale_40 rfl ?_
        obtain ⟨qv11, ev11, h⟩ := ob_s h
        obtain ⟨v11, fv11, h⟩ := bd_s h
        obtain ⟨z10, fz10, h⟩ := bd_s h
        have ev11 : g_X8_shrinks ev z6 th (l2.toInt64) = some (v11, z10) := by rw [fv11, fz10]; exact ev11
        refine pm_cVi (As := [.long (l2.toInt64)]) (rest := []) S hK hX hP hS (c_X8_shrinks l ev z6 E hth th (l2.toInt64) v11 z10 ev11) vm_X8_shrinks mw_4_104 (rc_6 hK hP hth) ⟨⟨rfl, rfl⟩, by decide, by decide⟩ rfl hl.1 rfl (Nat.le_of_ble_eq_true rfl) ⟨Nat.zero_le _, Nat.zero_le _⟩ dX8_scale_41 (fun H locs hP hS => ?_)
        refine lv_if_eq (tgt := 54) S.1 S.2.1 dX8_scale_44 (by decide) (fun c12 => ?_) (fun c12 => ?_)
        · rw [if_pos c12] at h
          refine lv_iconst (v := -1) S.1 S.2.1 dX8_scale_54 (by decide) ?_
          have h9 := Option.some.inj h
          exact pm_iretW S hr hlk hP hS (congrArg Prod.fst h9) (congrArg Prod.snd h9) dX8_scale_55
        · rw [if_neg c12] at h
          refine lv_aload_n S.1 S.2.1 dX8_scale_47 rfl (lv_at hl 0 rfl) ?_
          obtain ⟨qv14, ev14, h⟩ := ob_s h
          obtain ⟨v14, fv14, h⟩ := bd_s h
          obtain ⟨z13, fz13, h⟩ := bd_s h
          have ev14 : g_X8_keeps ev z10 th = some (v14, z13) := by rw [fv14, fz13]; exact ev14
          refine pm_cVi (As := []) (rest := []) S hK hX hP hS (c_X8_keeps l ev z10 E hth th v14 z13 ev14) vm_X8_keeps mw_4_70 (rc_6 hK hP hth) ⟨⟨rfl, rfl⟩, by decide, by decide⟩ rfl hl.1 rfl (Nat.le_of_ble_eq_true rfl) ⟨Nat.zero_le _, Nat.zero_le _⟩ dX8_scale_48 (fun H locs hP hS => ?_)
          refine lv_goto (tgt := 55) S.1 S.2.1 dX8_scale_51 (by decide) ?_
          have h9 := Option.some.inj h
          exact pm_iretW S hr hlk hP hS (congrArg Prod.fst h9) (congrArg Prod.snd h9) dX8_scale_55
    · rw [if_pos c5] at h
      refine lv_iconst (v := -1) S.1 S.2.1 dX8_scale_27 (by decide) ?_
      have h9 := Option.some.inj h
      exact pm_iretW S hr hlk hP hS (congrArg Prod.fst h9) (congrArg Prod.snd h9) dX8_scale_28
theorem vm_X8_scale : pm_Vm yX8_scale cX8_scale 7 (some .int) 3 := ⟨mw_4_103, mw_4_101, mw_4_102, mw_1_7, by decide, by decide⟩
def g_X8_drop (ev : EV) (z : PS) (th : Nat) : Option (Int32 × PS) := bd (w32 z 120 th (0 : Int32)) (fun z1 => if (r32 z1 121 th) = 0 then (some ((-1 : Int32), z1)) else (bd (((r32 z1 121 th) - (1 : Int32))) (fun v3 => bd (w32 z1 121 th v3) (fun z4 => some ((r32 z4 121 th), z4)))))
set_option maxRecDepth 20000 in
set_option maxHeartbeats 4000000 in
theorem c_X8_drop (l : Launch) (ev : EV) (z : PS) (E : EWF ev) {th : Nat} (hth : isK ev 6 th) (th_ : Nat) (r : Int32) (z9 : PS) (h : g_X8_drop ev z th = some (r, z9)) : Met l yX8_drop (pWs yX8_drop cX8_drop 1 (some .int)) (pR 0 0) (va_Pc [.ref th] (pPe ev z)) (pQi ev r z9) 0 0 (eA ev) := by
  refine pm_of (by decide) (Nat.le_of_ble_eq_true rfl) ?_
  intro p e s m below meth c S hr hlk hv ls hl
  obtain ⟨hP, hK, hX⟩ := hv
  have hS : SS ev s s.heap [] := va_S.rf
  have hl : lv_has ls 1 [(0, .ref th)] := hl
  unfold g_X8_drop at h
  refine lv_aload_n S.1 S.2.1 dX8_drop_0 rfl (lv_at hl 0 rfl) ?_
  refine lv_iconst (v := 0) S.1 S.2.1 dX8_drop_1 (by decide) ?_
  obtain ⟨z1, ez1, h⟩ := bd_s h
  refine pf_6_0 S E hK hP hS hth mw_3_221 dX8_drop_2 (fun H locs hP hS => ?_)
  rw [← ez1] at hP
  refine lv_aload_n S.1 S.2.1 dX8_drop_5 rfl (lv_at hl 0 rfl) ?_
  refine gf_6_1 S hK hP hth mw_3_222 dX8_drop_6 ?_
  refine lv_if_ne (tgt := 14) S.1 S.2.1 dX8_drop_9 (by decide) (fun c2 => ?_) (fun c2 => ?_)
  · rw [if_neg c2] at h
    refine lv_aload_n S.1 S.2.1 dX8_drop_14 rfl (lv_at hl 0 rfl) ?_
    refine lv_dup S.1 S.2.1 dX8_drop_15 rfl ?_
    refine gf_6_1 S hK hP hth mw_3_222 dX8_drop_16 ?_
    refine lv_iconst (v := 1) S.1 S.2.1 dX8_drop_19 (by decide) ?_
    refine lv_isub S.1 S.2.1 dX8_drop_20 ?_
    obtain ⟨v3, ev3, h⟩ := bd_s h
    refine pm_nmI ev3 ?_
    obtain ⟨z4, ez4, h⟩ := bd_s h
    refine pf_6_1 S E hK hP hS hth mw_3_222 dX8_drop_21 (fun H locs hP hS => ?_)
    rw [← ez4] at hP
    refine lv_aload_n S.1 S.2.1 dX8_drop_24 rfl (lv_at hl 0 rfl) ?_
    refine gf_6_1 S hK hP hth mw_3_222 dX8_drop_25 ?_
    have h9 := Option.some.inj h
    exact pm_iretW S hr hlk hP hS (congrArg Prod.fst h9) (congrArg Prod.snd h9) dX8_drop_28
  · rw [if_pos c2] at h
    refine lv_iconst (v := -1) S.1 S.2.1 dX8_drop_12 (by decide) ?_
    have h9 := Option.some.inj h
    exact pm_iretW S hr hlk hP hS (congrArg Prod.fst h9) (congrArg Prod.snd h9) dX8_drop_13
theorem vm_X8_drop : pm_Vm yX8_drop cX8_drop 1 (some .int) 0 := ⟨mw_4_121, mw_4_119, mw_4_120, mw_1_7, by decide, by decide⟩
def q_X8_times_15 : Nat → Int64 → Int32 → Int64 → Option Int32
  | 0, _, _, _ => none
  | n + 1, l0, l4, l5 => ck (¬ l0 = 0) (if (jr64 l5 l0) = (0 : Int64) then (ck (¬ l0 = 0) (bd ((l5 / l0)) (fun v5 => bd (l4 + (1 : Int32)) (fun v6 => q_X8_times_15 n l0 v6 v5)))) else (some l4))
set_option maxRecDepth 20000 in
set_option maxHeartbeats 4000000 in
theorem w_X8_times_15 {p : Program} {l : Launch} {e : Env} {s : State} {m : MethodId} {args : Array Value} {below : List Frame} {meth : Method} {c : Code} {r : Int32} (S : CallFix p m c cX8_times 7 s args gT RX8) (hr : meth.sig.returnType = (some .int)) (hlk : meth.locks = false) : ∀ (n : Nat), ∀ (l0 : Int64) (l4 : Int32) (l5 : Int64) (ls : Array Slot), q_X8_times_15 n l0 l4 l5 = some r → lv_has ls 7 [(0, .long l0), (4, .int l4), (5, .long l5)] → W p l e (pR 0 0) s m args below meth c s.heap [] 0 0 (MQ below (k2_QcV (.int r)) args s 0 0 (fun _ => False)) (F0 m 15 ls []) := by
  intro n
  induction n with
  | zero => intro l0 l4 l5 ls h; cases h
  | succ n ih =>
    intro l0 l4 l5 ls h hl
    rw [q_X8_times_15] at h
    refine lv_lload S.1 S.2.1 dX8_times_15 (lv_at hl 2 rfl) ?_
    refine lv_lload_n S.1 S.2.1 dX8_times_17 rfl (lv_at hl 0 rfl) ?_
    obtain ⟨hc2, h⟩ := ck_s h
    refine pm_lrem S hc2 dX8_times_18 ?_
    refine lv_lconst (v := 0) S.1 S.2.1 dX8_times_19 (by decide) ?_
    refine pm_lne (tgt := 36) S dX8_times_20 dX8_times_21 (by decide) (fun c3 => ?_) (fun c3 => ?_)
    · rw [if_neg c3] at h
      refine lv_iload S.1 S.2.1 dX8_times_36 (lv_at hl 1 rfl) ?_
      exact pm_iretR S hr hlk (Option.some.inj h) dX8_times_38
    · rw [if_pos c3] at h
      refine lv_lload S.1 S.2.1 dX8_times_24 (lv_at hl 2 rfl) ?_
      refine lv_lload_n S.1 S.2.1 dX8_times_26 rfl (lv_at hl 0 rfl) ?_
      obtain ⟨hc4, h⟩ := ck_s h
      refine lv_ldiv S.1 S.2.1 dX8_times_27 hc4 ?_
      obtain ⟨v5, ev5, h⟩ := bd_s h
      refine pm_nmL ev5 ?_
      refine lv_lstore (lv' := [(5, .long v5), (0, .long l0), (4, .int l4)]) S.1 S.2.1 dX8_times_28 hl (by decide) rfl (fun ls hl => ?_)
      obtain ⟨v6, ev6, h⟩ := bd_s h
      refine lv_iinc (v := v6) (lv' := [(4, .int v6), (5, .long v5), (0, .long l0)]) S.1 S.2.1 dX8_times_30 hl (k := 2) rfl (by rw [ev6]; rfl) (by decide) rfl (fun ls hl => ?_)
      refine lv_goto (tgt := 15) S.1 S.2.1 dX8_times_33 (by decide) ?_
      exact ih l0 v6 v5 ls h (lv_sub hl [2, 0, 1] rfl)
def g_X8_times (l0 : Int64) (l2 : Int64) : Option Int32 := if l2 = (0 : Int64) then (some (99 : Int32)) else (q_X8_times_15 FU l0 (0 : Int32) l2)
set_option maxRecDepth 20000 in
set_option maxHeartbeats 4000000 in
theorem c_X8_times (l : Launch) (l0 : Int64) (l2 : Int64) (r : Int32) (h : g_X8_times l0 l2 = some r) : Met l yX8_times (pWs yX8_times cX8_times 7 (some .int)) (pR 0 0) (va_Pc [.long l0, .long l2] (fun _ => True)) (k2_QcV (.int r)) 0 0 (fun _ => False) := by
  refine pm_of (by decide) (Nat.le_of_ble_eq_true rfl) ?_
  intro p e s m below meth c S hr hlk hv ls hl
  have hl : lv_has ls 7 [(0, .long l0), (2, .long l2)] := hl
  unfold g_X8_times at h
  refine lv_lload_n S.1 S.2.1 dX8_times_0 rfl (lv_at hl 1 rfl) ?_
  refine lv_lconst (v := 0) S.1 S.2.1 dX8_times_1 (by decide) ?_
  refine pm_lne (tgt := 9) S dX8_times_2 dX8_times_3 (by decide) (fun c1 => ?_) (fun c1 => ?_)
  · rw [if_neg c1] at h
    refine lv_iconst (v := 0) S.1 S.2.1 dX8_times_9 (by decide) ?_
    refine lv_istore (lv' := [(4, .int (0 : Int32)), (0, .long l0), (2, .long l2)]) S.1 S.2.1 dX8_times_10 hl (by decide) rfl (fun ls hl => ?_)
    refine lv_lload_n S.1 S.2.1 dX8_times_12 rfl (lv_at hl 2 rfl) ?_
    refine lv_lstore (lv' := [(5, .long l2), (4, .int (0 : Int32)), (0, .long l0), (2, .long l2)]) S.1 S.2.1 dX8_times_13 hl (by decide) rfl (fun ls hl => ?_)
    exact w_X8_times_15 S hr hlk FU l0 (0 : Int32) l2 ls h (lv_sub hl [2, 1, 0] rfl)
  · rw [if_pos c1] at h
    refine lv_bipush (v := 99) S.1 S.2.1 dX8_times_6 (by decide) ?_
    exact pm_iretR S hr hlk (Option.some.inj h) dX8_times_8
theorem sm_X8_times : pm_Sm yX8_times cX8_times 7 (some .int) 2 := ⟨mw_4_168, mw_4_167, mw_1_7, by decide, by decide⟩
def g_X8_modulo (l0 : Int64) (l2 : Int64) : Option Int64 := ck (¬ l2 = 0) (ck (¬ l2 = 0) (some (jr64 ((jr64 l0 l2) + l2) l2)))
set_option maxRecDepth 20000 in
set_option maxHeartbeats 4000000 in
theorem c_X8_modulo (l : Launch) (l0 : Int64) (l2 : Int64) (r : Int64) (h : g_X8_modulo l0 l2 = some r) : Met l yX8_modulo (pWs yX8_modulo cX8_modulo 4 (some .long)) (pR 0 0) (va_Pc [.long l0, .long l2] (fun _ => True)) (k2_QcV (.long r)) 0 0 (fun _ => False) := by
  refine pm_of (by decide) (Nat.le_of_ble_eq_true rfl) ?_
  intro p e s m below meth c S hr hlk hv ls hl
  have hl : lv_has ls 4 [(0, .long l0), (2, .long l2)] := hl
  unfold g_X8_modulo at h
  refine lv_lload_n S.1 S.2.1 dX8_modulo_0 rfl (lv_at hl 0 rfl) ?_
  refine lv_lload_n S.1 S.2.1 dX8_modulo_1 rfl (lv_at hl 1 rfl) ?_
  obtain ⟨hc1, h⟩ := ck_s h
  refine pm_lrem S hc1 dX8_modulo_2 ?_
  refine lv_lload_n S.1 S.2.1 dX8_modulo_3 rfl (lv_at hl 1 rfl) ?_
  refine lv_ladd S.1 S.2.1 dX8_modulo_4 ?_
  refine lv_lload_n S.1 S.2.1 dX8_modulo_5 rfl (lv_at hl 1 rfl) ?_
  obtain ⟨hc2, h⟩ := ck_s h
  refine pm_lrem S hc2 dX8_modulo_6 ?_
  exact pm_lretR S hr hlk (Option.some.inj h) dX8_modulo_7
theorem sm_X8_modulo : pm_Sm yX8_modulo cX8_modulo 4 (some .long) 2 := ⟨mw_4_185, mw_4_184, mw_1_7, by decide, by decide⟩
def g_X8_without (l0 : Int64) (l2 : Int64) (l4 : Int32) : Option Int64 := ob (g_X8_power l2 l4) (fun v1 => ck (¬ v1 = 0) (some (l0 / v1)))
set_option maxRecDepth 20000 in
set_option maxHeartbeats 4000000 in
theorem c_X8_without (l : Launch) (l0 : Int64) (l2 : Int64) (l4 : Int32) (r : Int64) (h : g_X8_without l0 l2 l4 = some r) : Met l yX8_without (pWs yX8_without cX8_without 5 (some .long)) (pR 1 37) (va_Pc [.long l0, .long l2, .int l4] (fun _ => True)) (k2_QcV (.long r)) 0 0 (fun _ => False) := by
  refine pm_of (by decide) (Nat.le_of_ble_eq_true rfl) ?_
  intro p e s m below meth c S hr hlk hv ls hl
  have hl : lv_has ls 5 [(0, .long l0), (2, .long l2), (4, .int l4)] := hl
  unfold g_X8_without at h
  refine lv_lload_n S.1 S.2.1 dX8_without_0 rfl (lv_at hl 0 rfl) ?_
  refine lv_lload_n S.1 S.2.1 dX8_without_1 rfl (lv_at hl 1 rfl) ?_
  refine lv_iload S.1 S.2.1 dX8_without_2 (lv_at hl 2 rfl) ?_
  obtain ⟨v1, ev1, h⟩ := ob_s h
  refine pm_cS (As := [.long l2, .int l4]) (rest := [.long l0]) S (c_X8_power l l2 l4 v1 ev1) sm_X8_power mw_4_111 ⟨⟨rfl, rfl⟩, by decide, by decide⟩ rfl hl.1 rfl (Nat.le_of_ble_eq_true rfl) ⟨Nat.zero_le _, Nat.zero_le _⟩ dX8_without_4 ?_
  obtain ⟨hc2, h⟩ := ck_s h
  refine lv_ldiv S.1 S.2.1 dX8_without_7 hc2 ?_
  exact pm_lretR S hr hlk (Option.some.inj h) dX8_without_8
theorem sm_X8_without : pm_Sm yX8_without cX8_without 5 (some .long) 3 := ⟨mw_4_174, mw_4_173, mw_1_7, by decide, by decide⟩
def q_X8_square_32 : Nat → Int64 → Int64 → Int64 → Int64 → Option Int32
  | 0, _, _, _, _ => none
  | n + 1, l2, l6, l8, l10 => if l10 ≤ (0 : Int64) then (if l6 = (1 : Int64) then (some (1 : Int32)) else (some (-1 : Int32))) else (if (jr64 l10 (2 : Int64)) = (1 : Int64) then (ck (¬ l2 = 0) (bd ((jr64 (l6 * l8) l2)) (fun v11 => ck (¬ l2 = 0) (bd ((jr64 (l8 * l8) l2)) (fun v13 => bd ((l10 / (2 : Int64))) (fun v14 => q_X8_square_32 n l2 v11 v13 v14)))))) else (ck (¬ l2 = 0) (bd ((jr64 (l8 * l8) l2)) (fun v8 => bd ((l10 / (2 : Int64))) (fun v9 => q_X8_square_32 n l2 l6 v8 v9)))))
set_option maxRecDepth 20000 in
set_option maxHeartbeats 4000000 in
theorem w_X8_square_32 {p : Program} {l : Launch} {e : Env} {s : State} {m : MethodId} {args : Array Value} {below : List Frame} {meth : Method} {c : Code} {r : Int32} (S : CallFix p m c cX8_square 12 s args gT RX8) (hr : meth.sig.returnType = (some .int)) (hlk : meth.locks = false) : ∀ (n : Nat), ∀ (l2 : Int64) (l6 : Int64) (l8 : Int64) (l10 : Int64) (ls : Array Slot), q_X8_square_32 n l2 l6 l8 l10 = some r → lv_has ls 12 [(2, .long l2), (6, .long l6), (8, .long l8), (10, .long l10)] → W p l e (pR 1 35) s m args below meth c s.heap [] 0 0 (MQ below (k2_QcV (.int r)) args s 0 0 (fun _ => False)) (F0 m 32 ls []) := by
  intro n
  induction n with
  | zero => intro l2 l6 l8 l10 ls h; cases h
  | succ n ih =>
    intro l2 l6 l8 l10 ls h hl
    rw [q_X8_square_32] at h
    refine lv_lload S.1 S.2.1 dX8_square_32 (lv_at hl 3 rfl) ?_
    refine lv_lconst (v := 0) S.1 S.2.1 dX8_square_34 (by decide) ?_
    refine pm_lle (tgt := 79) S dX8_square_35 dX8_square_36 (by decide) (fun c4 => ?_) (fun c4 => ?_)
    · rw [if_pos c4] at h
      refine lv_lload S.1 S.2.1 dX8_square_79 (lv_at hl 1 rfl) ?_
      refine lv_lconst (v := 1) S.1 S.2.1 dX8_square_81 (by decide) ?_
      refine pm_lne (tgt := 90) S dX8_square_82 dX8_square_83 (by decide) (fun c5 => ?_) (fun c5 => ?_)
      · rw [if_neg c5] at h
        refine lv_iconst (v := -1) S.1 S.2.1 dX8_square_90 (by decide) ?_
        exact pm_iretR S hr hlk (Option.some.inj h) dX8_square_91
      · rw [if_pos c5] at h
        refine lv_iconst (v := 1) S.1 S.2.1 dX8_square_86 (by decide) ?_
        refine lv_goto (tgt := 91) S.1 S.2.1 dX8_square_87 (by decide) ?_
        exact pm_iretR S hr hlk (Option.some.inj h) dX8_square_91
    · rw [if_neg c4] at h
      refine lv_lload S.1 S.2.1 dX8_square_39 (lv_at hl 3 rfl) ?_
      refine pm_ldc2 S mw_4_59 dX8_square_41 ?_
      refine pm_lrem S (by decide) dX8_square_44 ?_
      refine lv_lconst (v := 1) S.1 S.2.1 dX8_square_45 (by decide) ?_
      refine pm_lne (tgt := 59) S dX8_square_46 dX8_square_47 (by decide) (fun c6 => ?_) (fun c6 => ?_)
      · rw [if_neg c6] at h
        refine lv_lload S.1 S.2.1 dX8_square_59 (lv_at hl 2 rfl) ?_
        refine lv_lload S.1 S.2.1 dX8_square_61 (lv_at hl 2 rfl) ?_
        refine lv_lmul S.1 S.2.1 dX8_square_63 ?_
        refine lv_lload_n S.1 S.2.1 dX8_square_64 rfl (lv_at hl 0 rfl) ?_
        obtain ⟨hc7, h⟩ := ck_s h
        refine pm_lrem S hc7 dX8_square_65 ?_
        obtain ⟨v8, ev8, h⟩ := bd_s h
        refine pm_nmL ev8 ?_
        refine lv_lstore (lv' := [(8, .long v8), (2, .long l2), (6, .long l6), (10, .long l10)]) S.1 S.2.1 dX8_square_66 hl (by decide) rfl (fun ls hl => ?_)
        refine lv_lload S.1 S.2.1 dX8_square_68 (lv_at hl 3 rfl) ?_
        refine pm_ldc2 S mw_4_59 dX8_square_70 ?_
        refine lv_ldiv S.1 S.2.1 dX8_square_73 (by decide) ?_
        obtain ⟨v9, ev9, h⟩ := bd_s h
        refine pm_nmL ev9 ?_
        refine lv_lstore (lv' := [(10, .long v9), (8, .long v8), (2, .long l2), (6, .long l6)]) S.1 S.2.1 dX8_square_74 hl (by decide) rfl (fun ls hl => ?_)
        refine lv_goto (tgt := 32) S.1 S.2.1 dX8_square_76 (by decide) ?_
        exact ih l2 l6 v8 v9 ls h (lv_sub hl [2, 3, 1, 0] rfl)
      · rw [if_pos c6] at h
        refine lv_lload S.1 S.2.1 dX8_square_50 (lv_at hl 1 rfl) ?_
        refine lv_lload S.1 S.2.1 dX8_square_52 (lv_at hl 2 rfl) ?_
        refine lv_lmul S.1 S.2.1 dX8_square_54 ?_
        refine lv_lload_n S.1 S.2.1 dX8_square_55 rfl (lv_at hl 0 rfl) ?_
        obtain ⟨hc10, h⟩ := ck_s h
        refine pm_lrem S hc10 dX8_square_56 ?_
        obtain ⟨v11, ev11, h⟩ := bd_s h
        refine pm_nmL ev11 ?_
        refine lv_lstore (lv' := [(6, .long v11), (2, .long l2), (8, .long l8), (10, .long l10)]) S.1 S.2.1 dX8_square_57 hl (by decide) rfl (fun ls hl => ?_)
        refine lv_lload S.1 S.2.1 dX8_square_59 (lv_at hl 2 rfl) ?_
        refine lv_lload S.1 S.2.1 dX8_square_61 (lv_at hl 2 rfl) ?_
        refine lv_lmul S.1 S.2.1 dX8_square_63 ?_
        refine lv_lload_n S.1 S.2.1 dX8_square_64 rfl (lv_at hl 1 rfl) ?_
        obtain ⟨hc12, h⟩ := ck_s h
        refine pm_lrem S hc12 dX8_square_65 ?_
        obtain ⟨v13, ev13, h⟩ := bd_s h
        refine pm_nmL ev13 ?_
        refine lv_lstore (lv' := [(8, .long v13), (6, .long v11), (2, .long l2), (10, .long l10)]) S.1 S.2.1 dX8_square_66 hl (by decide) rfl (fun ls hl => ?_)
        refine lv_lload S.1 S.2.1 dX8_square_68 (lv_at hl 3 rfl) ?_
        refine pm_ldc2 S mw_4_59 dX8_square_70 ?_
        refine lv_ldiv S.1 S.2.1 dX8_square_73 (by decide) ?_
        obtain ⟨v14, ev14, h⟩ := bd_s h
        refine pm_nmL ev14 ?_
        refine lv_lstore (lv' := [(10, .long v14), (8, .long v13), (6, .long v11), (2, .long l2)]) S.1 S.2.1 dX8_square_74 hl (by decide) rfl (fun ls hl => ?_)
        refine lv_goto (tgt := 32) S.1 S.2.1 dX8_square_76 (by decide) ?_
        exact ih l2 v11 v13 v14 ls h (lv_sub hl [3, 2, 1, 0] rfl)
def g_X8_square (l0 : Int64) (l2 : Int64) : Option Int32 := ob (g_X8_modulo l0 l2) (fun v1 => if v1 = (0 : Int64) then (some (0 : Int32)) else (bd (((l2 - (1 : Int64)) / (2 : Int64))) (fun v3 => q_X8_square_32 FU l2 (1 : Int64) v1 v3)))
set_option maxRecDepth 20000 in
set_option maxHeartbeats 4000000 in
theorem c_X8_square (l : Launch) (l0 : Int64) (l2 : Int64) (r : Int32) (h : g_X8_square l0 l2 = some r) : Met l yX8_square (pWs yX8_square cX8_square 12 (some .int)) (pR 1 35) (va_Pc [.long l0, .long l2] (fun _ => True)) (k2_QcV (.int r)) 0 0 (fun _ => False) := by
  refine pm_of (by decide) (Nat.le_of_ble_eq_true rfl) ?_
  intro p e s m below meth c S hr hlk hv ls hl
  have hl : lv_has ls 12 [(0, .long l0), (2, .long l2)] := hl
  unfold g_X8_square at h
  refine lv_lload_n S.1 S.2.1 dX8_square_0 rfl (lv_at hl 0 rfl) ?_
  refine lv_lload_n S.1 S.2.1 dX8_square_1 rfl (lv_at hl 1 rfl) ?_
  obtain ⟨v1, ev1, h⟩ := ob_s h
  refine pm_cS (As := [.long l0, .long l2]) (rest := []) S (c_X8_modulo l l0 l2 v1 ev1) sm_X8_modulo mw_4_183 ⟨⟨rfl, rfl⟩, by decide, by decide⟩ rfl hl.1 rfl (Nat.le_of_ble_eq_true rfl) ⟨Nat.zero_le _, Nat.zero_le _⟩ dX8_square_2 ?_
  refine lv_lstore (lv' := [(4, .long v1), (0, .long l0), (2, .long l2)]) S.1 S.2.1 dX8_square_5 hl (by decide) rfl (fun ls hl => ?_)
  refine lv_lload S.1 S.2.1 dX8_square_7 (lv_at hl 0 rfl) ?_
  refine lv_lconst (v := 0) S.1 S.2.1 dX8_square_9 (by decide) ?_
  refine pm_lne (tgt := 16) S dX8_square_10 dX8_square_11 (by decide) (fun c2 => ?_) (fun c2 => ?_)
  · rw [if_neg c2] at h
    refine lv_lconst (v := 1) S.1 S.2.1 dX8_square_16 (by decide) ?_
    refine lv_lstore (lv' := [(6, .long (1 : Int64)), (4, .long v1), (0, .long l0), (2, .long l2)]) S.1 S.2.1 dX8_square_17 hl (by decide) rfl (fun ls hl => ?_)
    refine lv_lload S.1 S.2.1 dX8_square_19 (lv_at hl 1 rfl) ?_
    refine lv_lstore (lv' := [(8, .long v1), (6, .long (1 : Int64)), (4, .long v1), (0, .long l0), (2, .long l2)]) S.1 S.2.1 dX8_square_21 hl (by decide) rfl (fun ls hl => ?_)
    refine lv_lload_n S.1 S.2.1 dX8_square_23 rfl (lv_at hl 4 rfl) ?_
    refine lv_lconst (v := 1) S.1 S.2.1 dX8_square_24 (by decide) ?_
    refine lv_lsub S.1 S.2.1 dX8_square_25 ?_
    refine pm_ldc2 S mw_4_59 dX8_square_26 ?_
    refine lv_ldiv S.1 S.2.1 dX8_square_29 (by decide) ?_
    obtain ⟨v3, ev3, h⟩ := bd_s h
    refine pm_nmL ev3 ?_
    refine lv_lstore (lv' := [(10, .long v3), (8, .long v1), (6, .long (1 : Int64)), (4, .long v1), (0, .long l0), (2, .long l2)]) S.1 S.2.1 dX8_square_30 hl (by decide) rfl (fun ls hl => ?_)
    exact w_X8_square_32 S hr hlk FU l2 (1 : Int64) v1 v3 ls h (lv_sub hl [5, 2, 1, 0] rfl)
  · rw [if_pos c2] at h
    refine lv_iconst (v := 0) S.1 S.2.1 dX8_square_14 (by decide) ?_
    exact pm_iretR S hr hlk (Option.some.inj h) dX8_square_15
theorem sm_X8_square : pm_Sm yX8_square cX8_square 12 (some .int) 2 := ⟨mw_4_182, mw_4_181, mw_1_7, by decide, by decide⟩
def q_X8_isPrime_16 : Nat → Int64 → Int32 → Int64 → Option Int32
  | 0, _, _, _ => none
  | n + 1, l0, l2, l3 => if l0 < (l3 * l3) then (ck (l2 = 0 ∨ l2 = 1) (some l2)) else (if l2 = 0 then (ck (l2 = 0 ∨ l2 = 1) (some l2)) else (ck (¬ l3 = 0) (if (jr64 l0 l3) = (0 : Int64) then (bd ((l3 + (1 : Int64))) (fun v8 => q_X8_isPrime_16 n l0 (0 : Int32) v8)) else (bd ((l3 + (1 : Int64))) (fun v9 => q_X8_isPrime_16 n l0 (1 : Int32) v9)))))
set_option maxRecDepth 20000 in
set_option maxHeartbeats 4000000 in
theorem w_X8_isPrime_16 {p : Program} {l : Launch} {e : Env} {s : State} {m : MethodId} {args : Array Value} {below : List Frame} {meth : Method} {c : Code} {r : Int32} (S : CallFix p m c cX8_isPrime 5 s args gT RX8) (hr : meth.sig.returnType = (some .boolean)) (hlk : meth.locks = false) : ∀ (n : Nat), ∀ (l0 : Int64) (l2 : Int32) (l3 : Int64) (ls : Array Slot), q_X8_isPrime_16 n l0 l2 l3 = some r → lv_has ls 5 [(0, .long l0), (2, .int l2), (3, .long l3)] → W p l e (pR 0 0) s m args below meth c s.heap [] 0 0 (MQ below (k2_QcV (.int r)) args s 0 0 (fun _ => False)) (F0 m 16 ls []) := by
  intro n
  induction n with
  | zero => intro l0 l2 l3 ls h; cases h
  | succ n ih =>
    intro l0 l2 l3 ls h hl
    rw [q_X8_isPrime_16] at h
    refine lv_lload_n S.1 S.2.1 dX8_isPrime_16 rfl (lv_at hl 2 rfl) ?_
    refine lv_lload_n S.1 S.2.1 dX8_isPrime_17 rfl (lv_at hl 2 rfl) ?_
    refine lv_lmul S.1 S.2.1 dX8_isPrime_18 ?_
    refine lv_lload_n S.1 S.2.1 dX8_isPrime_19 rfl (lv_at hl 0 rfl) ?_
    refine pm_lgt (tgt := 49) S dX8_isPrime_20 dX8_isPrime_21 (by decide) (fun c2 => ?_) (fun c2 => ?_)
    · rw [if_pos c2] at h
      refine lv_iload_n S.1 S.2.1 dX8_isPrime_49 rfl (lv_at hl 1 rfl) ?_
      obtain ⟨hc3, h⟩ := ck_s h
      exact pm_zretR S hr hlk hc3 (Option.some.inj h) dX8_isPrime_50
    · rw [if_neg c2] at h
      refine lv_iload_n S.1 S.2.1 dX8_isPrime_24 rfl (lv_at hl 1 rfl) ?_
      refine lv_if_eq (tgt := 49) S.1 S.2.1 dX8_isPrime_25 (by decide) (fun c4 => ?_) (fun c4 => ?_)
      · rw [if_pos c4] at h
        refine lv_iload_n S.1 S.2.1 dX8_isPrime_49 rfl (lv_at hl 1 rfl) ?_
        obtain ⟨hc5, h⟩ := ck_s h
        exact pm_zretR S hr hlk hc5 (Option.some.inj h) dX8_isPrime_50
      · rw [if_neg c4] at h
        refine lv_lload_n S.1 S.2.1 dX8_isPrime_28 rfl (lv_at hl 0 rfl) ?_
        refine lv_lload_n S.1 S.2.1 dX8_isPrime_29 rfl (lv_at hl 2 rfl) ?_
        obtain ⟨hc6, h⟩ := ck_s h
        refine pm_lrem S hc6 dX8_isPrime_30 ?_
        refine lv_lconst (v := 0) S.1 S.2.1 dX8_isPrime_31 (by decide) ?_
        refine pm_leq (tgt := 40) S dX8_isPrime_32 dX8_isPrime_33 (by decide) (fun c7 => ?_) (fun c7 => ?_)
        · rw [if_pos c7] at h
          refine lv_iconst (v := 0) S.1 S.2.1 dX8_isPrime_40 (by decide) ?_
          refine lv_istore_n (lv' := [(2, .int (0 : Int32)), (0, .long l0), (3, .long l3)]) S.1 S.2.1 dX8_isPrime_41 rfl hl (by decide) rfl (fun ls hl => ?_)
          refine lv_lload_n S.1 S.2.1 dX8_isPrime_42 rfl (lv_at hl 2 rfl) ?_
          refine lv_lconst (v := 1) S.1 S.2.1 dX8_isPrime_43 (by decide) ?_
          refine lv_ladd S.1 S.2.1 dX8_isPrime_44 ?_
          obtain ⟨v8, ev8, h⟩ := bd_s h
          refine pm_nmL ev8 ?_
          refine lv_lstore_n (lv' := [(3, .long v8), (2, .int (0 : Int32)), (0, .long l0)]) S.1 S.2.1 dX8_isPrime_45 rfl hl (by decide) rfl (fun ls hl => ?_)
          refine lv_goto (tgt := 16) S.1 S.2.1 dX8_isPrime_46 (by decide) ?_
          exact ih l0 (0 : Int32) v8 ls h (lv_sub hl [2, 1, 0] rfl)
        · rw [if_neg c7] at h
          refine lv_iconst (v := 1) S.1 S.2.1 dX8_isPrime_36 (by decide) ?_
          refine lv_goto (tgt := 41) S.1 S.2.1 dX8_isPrime_37 (by decide) ?_
          refine lv_istore_n (lv' := [(2, .int (1 : Int32)), (0, .long l0), (3, .long l3)]) S.1 S.2.1 dX8_isPrime_41 rfl hl (by decide) rfl (fun ls hl => ?_)
          refine lv_lload_n S.1 S.2.1 dX8_isPrime_42 rfl (lv_at hl 2 rfl) ?_
          refine lv_lconst (v := 1) S.1 S.2.1 dX8_isPrime_43 (by decide) ?_
          refine lv_ladd S.1 S.2.1 dX8_isPrime_44 ?_
          obtain ⟨v9, ev9, h⟩ := bd_s h
          refine pm_nmL ev9 ?_
          refine lv_lstore_n (lv' := [(3, .long v9), (2, .int (1 : Int32)), (0, .long l0)]) S.1 S.2.1 dX8_isPrime_45 rfl hl (by decide) rfl (fun ls hl => ?_)
          refine lv_goto (tgt := 16) S.1 S.2.1 dX8_isPrime_46 (by decide) ?_
          exact ih l0 (1 : Int32) v9 ls h (lv_sub hl [2, 1, 0] rfl)
def g_X8_isPrime (l0 : Int64) : Option Int32 := if l0 ≤ (1 : Int64) then (q_X8_isPrime_16 FU l0 (0 : Int32) (2 : Int64)) else (q_X8_isPrime_16 FU l0 (1 : Int32) (2 : Int64))
set_option maxRecDepth 20000 in
set_option maxHeartbeats 4000000 in
theorem c_X8_isPrime (l : Launch) (l0 : Int64) (r : Int32) (h : g_X8_isPrime l0 = some r) : Met l yX8_isPrime (pWs yX8_isPrime cX8_isPrime 5 (some .boolean)) (pR 0 0) (va_Pc [.long l0] (fun _ => True)) (k2_QcV (.int r)) 0 0 (fun _ => False) := by
  refine pm_of (by decide) (Nat.le_of_ble_eq_true rfl) ?_
  intro p e s m below meth c S hr hlk hv ls hl
  have hl : lv_has ls 5 [(0, .long l0)] := hl
  unfold g_X8_isPrime at h
  refine lv_lload_n S.1 S.2.1 dX8_isPrime_0 rfl (lv_at hl 0 rfl) ?_
  refine lv_lconst (v := 1) S.1 S.2.1 dX8_isPrime_1 (by decide) ?_
  refine pm_lle (tgt := 10) S dX8_isPrime_2 dX8_isPrime_3 (by decide) (fun c1 => ?_) (fun c1 => ?_)
  · rw [if_pos c1] at h
    refine lv_iconst (v := 0) S.1 S.2.1 dX8_isPrime_10 (by decide) ?_
    refine lv_istore_n (lv' := [(2, .int (0 : Int32)), (0, .long l0)]) S.1 S.2.1 dX8_isPrime_11 rfl hl (by decide) rfl (fun ls hl => ?_)
    refine pm_ldc2 S mw_4_59 dX8_isPrime_12 ?_
    refine lv_lstore_n (lv' := [(3, .long (2 : Int64)), (2, .int (0 : Int32)), (0, .long l0)]) S.1 S.2.1 dX8_isPrime_15 rfl hl (by decide) rfl (fun ls hl => ?_)
    exact w_X8_isPrime_16 S hr hlk FU l0 (0 : Int32) (2 : Int64) ls h (lv_sub hl [2, 1, 0] rfl)
  · rw [if_neg c1] at h
    refine lv_iconst (v := 1) S.1 S.2.1 dX8_isPrime_6 (by decide) ?_
    refine lv_goto (tgt := 11) S.1 S.2.1 dX8_isPrime_7 (by decide) ?_
    refine lv_istore_n (lv' := [(2, .int (1 : Int32)), (0, .long l0)]) S.1 S.2.1 dX8_isPrime_11 rfl hl (by decide) rfl (fun ls hl => ?_)
    refine pm_ldc2 S mw_4_59 dX8_isPrime_12 ?_
    refine lv_lstore_n (lv' := [(3, .long (2 : Int64)), (2, .int (1 : Int32)), (0, .long l0)]) S.1 S.2.1 dX8_isPrime_15 rfl hl (by decide) rfl (fun ls hl => ?_)
    exact w_X8_isPrime_16 S hr hlk FU l0 (1 : Int32) (2 : Int64) ls h (lv_sub hl [2, 1, 0] rfl)
theorem sm_X8_isPrime : pm_Sm yX8_isPrime cX8_isPrime 5 (some .boolean) 1 := ⟨mw_5_58, mw_5_57, mw_1_7, by decide, by decide⟩
def q_X8_laysPrimes_60 (ev : EV) (th : Nat) (k15 : (Int64 → Int64 → PS → Option PS)) : Nat → Int64 → Int64 → PS → Option PS
  | 0, _, _, _ => none
  | n + 1, l3, l5, z => ck (¬ l5 = 0) (if (jr64 l3 l5) = (0 : Int64) then (ck (¬ l5 = 0) (bd ((l3 / l5)) (fun v21 => q_X8_laysPrimes_60 ev th k15 n v21 l5 z))) else (bd ((l5 + (1 : Int64))) (fun v19 => k15 l3 v19 z)))
set_option maxRecDepth 20000 in
set_option maxHeartbeats 4000000 in
theorem w_X8_laysPrimes_60 {ev : EV} {th : Nat} {p : Program} {l : Launch} {e : Env} {s : State} {m : MethodId} {args : Array Value} {below : List Frame} {meth : Method} {c : Code} {z9 : PS} (S : CallFix p m c cX8_laysPrimes 7 s args gT RX8) (hr : meth.sig.returnType = none) (hlk : meth.locks = false) (E : EWF ev) (hK : KK ev s) (hX : pXt ev s) (hth : isK ev 6 th) (k15 : (Int64 → Int64 → PS → Option PS)) (hk15 : ∀ (l3 : Int64) (l5 : Int64) (z : PS) (ls : Array Slot) (H : Heap) (locs : List Loc), k15 l3 l5 z = some z9 → lv_has ls 7 [(0, .ref th), (3, .long l3), (5, .long l5)] → Wd ev z H → SS ev s H locs → W p l e (pR 1 33) s m args below meth c H locs 0 0 (MQ below (pQv ev z9) args s 0 0 (eA ev)) (F0 m 15 ls [])) : ∀ (n : Nat), ∀ (l3 : Int64) (l5 : Int64) (z : PS) (ls : Array Slot) (H : Heap) (locs : List Loc), q_X8_laysPrimes_60 ev th k15 n l3 l5 z = some z9 → lv_has ls 7 [(0, .ref th), (3, .long l3), (5, .long l5)] → Wd ev z H → SS ev s H locs → W p l e (pR 1 33) s m args below meth c H locs 0 0 (MQ below (pQv ev z9) args s 0 0 (eA ev)) (F0 m 60 ls []) := by
  intro n
  induction n with
  | zero => intro l3 l5 z ls H locs h; cases h
  | succ n ih =>
    intro l3 l5 z ls H locs h hl hP hS
    rw [q_X8_laysPrimes_60] at h
    refine lv_lload_n S.1 S.2.1 dX8_laysPrimes_60 rfl (lv_at hl 1 rfl) ?_
    refine lv_lload S.1 S.2.1 dX8_laysPrimes_61 (lv_at hl 2 rfl) ?_
    obtain ⟨hc17, h⟩ := ck_s h
    refine pm_lrem S hc17 dX8_laysPrimes_63 ?_
    refine lv_lconst (v := 0) S.1 S.2.1 dX8_laysPrimes_64 (by decide) ?_
    refine pm_lne (tgt := 77) S dX8_laysPrimes_65 dX8_laysPrimes_66 (by decide) (fun c18 => ?_) (fun c18 => ?_)
    · rw [if_neg c18] at h
      refine lv_lload S.1 S.2.1 dX8_laysPrimes_77 (lv_at hl 2 rfl) ?_
      refine lv_lconst (v := 1) S.1 S.2.1 dX8_laysPrimes_79 (by decide) ?_
      refine lv_ladd S.1 S.2.1 dX8_laysPrimes_80 ?_
      obtain ⟨v19, ev19, h⟩ := bd_s h
      refine pm_nmL ev19 ?_
      refine lv_lstore (lv' := [(5, .long v19), (0, .ref th), (3, .long l3)]) S.1 S.2.1 dX8_laysPrimes_81 hl (by decide) rfl (fun ls hl => ?_)
      refine lv_goto (tgt := 15) S.1 S.2.1 dX8_laysPrimes_83 (by decide) ?_
      exact hk15 l3 v19 z ls _ _ h (lv_sub hl [1, 2, 0] rfl) hP hS
    · rw [if_pos c18] at h
      refine lv_lload_n S.1 S.2.1 dX8_laysPrimes_69 rfl (lv_at hl 1 rfl) ?_
      refine lv_lload S.1 S.2.1 dX8_laysPrimes_70 (lv_at hl 2 rfl) ?_
      obtain ⟨hc20, h⟩ := ck_s h
      refine lv_ldiv S.1 S.2.1 dX8_laysPrimes_72 hc20 ?_
      obtain ⟨v21, ev21, h⟩ := bd_s h
      refine pm_nmL ev21 ?_
      refine lv_lstore_n (lv' := [(3, .long v21), (0, .ref th), (5, .long l5)]) S.1 S.2.1 dX8_laysPrimes_73 rfl hl (by decide) rfl (fun ls hl => ?_)
      refine lv_goto (tgt := 60) S.1 S.2.1 dX8_laysPrimes_74 (by decide) ?_
      exact ih v21 l5 z ls _ _ h (lv_sub hl [1, 0, 2] rfl) hP hS
def q_X8_laysPrimes_86 (ev : EV) (th : Nat) (l3 : Int64) (z : PS) : Option PS := if l3 ≤ (1 : Int64) then (some z) else (ck (inB (r32 z 126 th) 20) (bd (wJ z (rf ev 125 th) (r32 z 126 th).toNatClampNeg l3) (fun z14 => bd (((r32 z14 126 th) + (1 : Int32))) (fun v15 => bd (w32 z14 126 th v15) (fun z16 => some z16)))))
set_option maxRecDepth 20000 in
set_option maxHeartbeats 4000000 in
theorem w_X8_laysPrimes_86 {ev : EV} {th : Nat} {p : Program} {l : Launch} {e : Env} {s : State} {m : MethodId} {args : Array Value} {below : List Frame} {meth : Method} {c : Code} {z9 : PS} (S : CallFix p m c cX8_laysPrimes 7 s args gT RX8) (hr : meth.sig.returnType = none) (hlk : meth.locks = false) (E : EWF ev) (hK : KK ev s) (hX : pXt ev s) (hth : isK ev 6 th) : ∀ (l3 : Int64) (z : PS) (ls : Array Slot) (H : Heap) (locs : List Loc), q_X8_laysPrimes_86 ev th l3 z = some z9 → lv_has ls 7 [(0, .ref th), (3, .long l3)] → Wd ev z H → SS ev s H locs → W p l e (pR 1 33) s m args below meth c H locs 0 0 (MQ below (pQv ev z9) args s 0 0 (eA ev)) (F0 m 86 ls []) := by
  intro l3 z ls H locs h hl hP hS
  unfold q_X8_laysPrimes_86 at h
  refine lv_lload_n S.1 S.2.1 dX8_laysPrimes_86 rfl (lv_at hl 1 rfl) ?_
  refine lv_lconst (v := 1) S.1 S.2.1 dX8_laysPrimes_87 (by decide) ?_
  refine pm_lle (tgt := 112) S dX8_laysPrimes_88 dX8_laysPrimes_89 (by decide) (fun c12 => ?_) (fun c12 => ?_)
  · rw [if_pos c12] at h
    exact pm_vretW S hr hlk hP hS (Option.some.inj h) dX8_laysPrimes_112
  · rw [if_neg c12] at h
    refine lv_aload_n S.1 S.2.1 dX8_laysPrimes_92 rfl (lv_at hl 0 rfl) ?_
    refine gf_6_5 S hK hP hth mw_3_226 dX8_laysPrimes_93 ?_
    refine lv_aload_n S.1 S.2.1 dX8_laysPrimes_96 rfl (lv_at hl 0 rfl) ?_
    refine gf_6_6 S hK hP hth mw_3_227 dX8_laysPrimes_97 ?_
    refine lv_lload_n S.1 S.2.1 dX8_laysPrimes_100 rfl (lv_at hl 1 rfl) ?_
    obtain ⟨hc13, h⟩ := ck_s h
    obtain ⟨z14, ez14, h⟩ := bd_s h
    refine as_J S E hK hP hS (E_6_5 E hth) (by rw [N_6_5 E hth]; exact hc13) dX8_laysPrimes_101 (fun H locs hP hS => ?_)
    rw [← ez14] at hP
    refine lv_aload_n S.1 S.2.1 dX8_laysPrimes_102 rfl (lv_at hl 0 rfl) ?_
    refine lv_dup S.1 S.2.1 dX8_laysPrimes_103 rfl ?_
    refine gf_6_6 S hK hP hth mw_3_227 dX8_laysPrimes_104 ?_
    refine lv_iconst (v := 1) S.1 S.2.1 dX8_laysPrimes_107 (by decide) ?_
    refine lv_iadd S.1 S.2.1 dX8_laysPrimes_108 ?_
    obtain ⟨v15, ev15, h⟩ := bd_s h
    refine pm_nmI ev15 ?_
    obtain ⟨z16, ez16, h⟩ := bd_s h
    refine pf_6_6 S E hK hP hS hth mw_3_227 dX8_laysPrimes_109 (fun H locs hP hS => ?_)
    rw [← ez16] at hP
    exact pm_vretW S hr hlk hP hS (Option.some.inj h) dX8_laysPrimes_112
def q_X8_laysPrimes_15 (ev : EV) (th : Nat) : Nat → Int64 → Int64 → PS → Option PS
  | 0, _, _, _ => none
  | n + 1, l3, l5, z => if (31623 : Int64) < l5 then (q_X8_laysPrimes_86 ev th l3 z) else (if l3 ≤ (1 : Int64) then (q_X8_laysPrimes_86 ev th l3 z) else (ck (¬ l5 = 0) (if (jr64 l3 l5) = (0 : Int64) then (ck (inB (r32 z 126 th) 20) (bd (wJ z (rf ev 125 th) (r32 z 126 th).toNatClampNeg l5) (fun z9 => bd (((r32 z9 126 th) + (1 : Int32))) (fun v10 => bd (w32 z9 126 th v10) (fun z11 => q_X8_laysPrimes_60 ev th (q_X8_laysPrimes_15 ev th n) FU l3 l5 z11))))) else (bd ((l5 + (1 : Int64))) (fun v7 => q_X8_laysPrimes_15 ev th n l3 v7 z)))))
set_option maxRecDepth 20000 in
set_option maxHeartbeats 4000000 in
theorem w_X8_laysPrimes_15 {ev : EV} {th : Nat} {p : Program} {l : Launch} {e : Env} {s : State} {m : MethodId} {args : Array Value} {below : List Frame} {meth : Method} {c : Code} {z9 : PS} (S : CallFix p m c cX8_laysPrimes 7 s args gT RX8) (hr : meth.sig.returnType = none) (hlk : meth.locks = false) (E : EWF ev) (hK : KK ev s) (hX : pXt ev s) (hth : isK ev 6 th) : ∀ (n : Nat), ∀ (l3 : Int64) (l5 : Int64) (z : PS) (ls : Array Slot) (H : Heap) (locs : List Loc), q_X8_laysPrimes_15 ev th n l3 l5 z = some z9 → lv_has ls 7 [(0, .ref th), (3, .long l3), (5, .long l5)] → Wd ev z H → SS ev s H locs → W p l e (pR 1 33) s m args below meth c H locs 0 0 (MQ below (pQv ev z9) args s 0 0 (eA ev)) (F0 m 15 ls []) := by
  intro n
  induction n with
  | zero => intro l3 l5 z ls H locs h; cases h
  | succ n ih =>
    intro l3 l5 z ls H locs h hl hP hS
    rw [q_X8_laysPrimes_15] at h
    refine lv_lload S.1 S.2.1 dX8_laysPrimes_15 (lv_at hl 2 rfl) ?_
    refine pm_ldc2 S mw_4_142 dX8_laysPrimes_17 ?_
    refine pm_lgt (tgt := 86) S dX8_laysPrimes_20 dX8_laysPrimes_21 (by decide) (fun c3 => ?_) (fun c3 => ?_)
    · rw [if_pos c3] at h
      exact w_X8_laysPrimes_86 S hr hlk E hK hX hth l3 z ls _ _ h (lv_sub hl [0, 1] rfl) hP hS
    · rw [if_neg c3] at h
      refine lv_lload_n S.1 S.2.1 dX8_laysPrimes_24 rfl (lv_at hl 1 rfl) ?_
      refine lv_lconst (v := 1) S.1 S.2.1 dX8_laysPrimes_25 (by decide) ?_
      refine pm_lle (tgt := 86) S dX8_laysPrimes_26 dX8_laysPrimes_27 (by decide) (fun c4 => ?_) (fun c4 => ?_)
      · rw [if_pos c4] at h
        exact w_X8_laysPrimes_86 S hr hlk E hK hX hth l3 z ls _ _ h (lv_sub hl [0, 1] rfl) hP hS
      · rw [if_neg c4] at h
        refine lv_lload_n S.1 S.2.1 dX8_laysPrimes_30 rfl (lv_at hl 1 rfl) ?_
        refine lv_lload S.1 S.2.1 dX8_laysPrimes_31 (lv_at hl 2 rfl) ?_
        obtain ⟨hc5, h⟩ := ck_s h
        refine pm_lrem S hc5 dX8_laysPrimes_33 ?_
        refine lv_lconst (v := 0) S.1 S.2.1 dX8_laysPrimes_34 (by decide) ?_
        refine pm_lne (tgt := 77) S dX8_laysPrimes_35 dX8_laysPrimes_36 (by decide) (fun c6 => ?_) (fun c6 => ?_)
        · rw [if_neg c6] at h
          refine lv_lload S.1 S.2.1 dX8_laysPrimes_77 (lv_at hl 2 rfl) ?_
          refine lv_lconst (v := 1) S.1 S.2.1 dX8_laysPrimes_79 (by decide) ?_
          refine lv_ladd S.1 S.2.1 dX8_laysPrimes_80 ?_
          obtain ⟨v7, ev7, h⟩ := bd_s h
          refine pm_nmL ev7 ?_
          refine lv_lstore (lv' := [(5, .long v7), (0, .ref th), (3, .long l3)]) S.1 S.2.1 dX8_laysPrimes_81 hl (by decide) rfl (fun ls hl => ?_)
          refine lv_goto (tgt := 15) S.1 S.2.1 dX8_laysPrimes_83 (by decide) ?_
          exact ih l3 v7 z ls _ _ h (lv_sub hl [1, 2, 0] rfl) hP hS
        · rw [if_pos c6] at h
          refine lv_aload_n S.1 S.2.1 dX8_laysPrimes_39 rfl (lv_at hl 0 rfl) ?_
          refine gf_6_5 S hK hP hth mw_3_226 dX8_laysPrimes_40 ?_
          refine lv_aload_n S.1 S.2.1 dX8_laysPrimes_43 rfl (lv_at hl 0 rfl) ?_
          refine gf_6_6 S hK hP hth mw_3_227 dX8_laysPrimes_44 ?_
          refine lv_lload S.1 S.2.1 dX8_laysPrimes_47 (lv_at hl 2 rfl) ?_
          obtain ⟨hc8, h⟩ := ck_s h
          obtain ⟨z9, ez9, h⟩ := bd_s h
          refine as_J S E hK hP hS (E_6_5 E hth) (by rw [N_6_5 E hth]; exact hc8) dX8_laysPrimes_49 (fun H locs hP hS => ?_)
          rw [← ez9] at hP
          refine lv_aload_n S.1 S.2.1 dX8_laysPrimes_50 rfl (lv_at hl 0 rfl) ?_
          refine lv_dup S.1 S.2.1 dX8_laysPrimes_51 rfl ?_
          refine gf_6_6 S hK hP hth mw_3_227 dX8_laysPrimes_52 ?_
          refine lv_iconst (v := 1) S.1 S.2.1 dX8_laysPrimes_55 (by decide) ?_
          refine lv_iadd S.1 S.2.1 dX8_laysPrimes_56 ?_
          obtain ⟨v10, ev10, h⟩ := bd_s h
          refine pm_nmI ev10 ?_
          obtain ⟨z11, ez11, h⟩ := bd_s h
          refine pf_6_6 S E hK hP hS hth mw_3_227 dX8_laysPrimes_57 (fun H locs hP hS => ?_)
          rw [← ez11] at hP
          exact w_X8_laysPrimes_60 S hr hlk E hK hX hth (q_X8_laysPrimes_15 ev th n) ih FU l3 l5 z11 ls _ _ h (lv_sub hl [0, 1, 2] rfl) hP hS
def g_X8_laysPrimes (ev : EV) (z : PS) (th : Nat) (l1 : Int64) : Option PS := ob (g_X8_size l1) (fun v1 => bd (w32 z 126 th (0 : Int32)) (fun z2 => q_X8_laysPrimes_15 ev th FU v1 (2 : Int64) z2))
set_option maxRecDepth 20000 in
set_option maxHeartbeats 4000000 in
theorem c_X8_laysPrimes (l : Launch) (ev : EV) (z : PS) (E : EWF ev) {th : Nat} (hth : isK ev 6 th) (th_ : Nat) (l1 : Int64) (z9 : PS) (h : g_X8_laysPrimes ev z th l1 = some z9) : Met l yX8_laysPrimes (pWs yX8_laysPrimes cX8_laysPrimes 7 none) (pR 1 33) (va_Pc [.ref th, .long l1] (pPe ev z)) (pQv ev z9) 0 0 (eA ev) := by
  refine pm_of (by decide) (Nat.le_of_ble_eq_true rfl) ?_
  intro p e s m below meth c S hr hlk hv ls hl
  obtain ⟨hP, hK, hX⟩ := hv
  have hS : SS ev s s.heap [] := va_S.rf
  have hl : lv_has ls 7 [(0, .ref th), (1, .long l1)] := hl
  unfold g_X8_laysPrimes at h
  refine lv_lload_n S.1 S.2.1 dX8_laysPrimes_0 rfl (lv_at hl 1 rfl) ?_
  obtain ⟨v1, ev1, h⟩ := ob_s h
  refine pm_cS (As := [.long l1]) (rest := []) S (c_X8_size l l1 v1 ev1) sm_X8_size mw_4_78 ⟨⟨rfl, rfl⟩, by decide, by decide⟩ rfl hl.1 rfl (Nat.le_of_ble_eq_true rfl) ⟨Nat.zero_le _, Nat.zero_le _⟩ dX8_laysPrimes_1 ?_
  refine lv_lstore_n (lv' := [(3, .long v1), (0, .ref th), (1, .long l1)]) S.1 S.2.1 dX8_laysPrimes_4 rfl hl (by decide) rfl (fun ls hl => ?_)
  refine lv_aload_n S.1 S.2.1 dX8_laysPrimes_5 rfl (lv_at hl 1 rfl) ?_
  refine lv_iconst (v := 0) S.1 S.2.1 dX8_laysPrimes_6 (by decide) ?_
  obtain ⟨z2, ez2, h⟩ := bd_s h
  refine pf_6_6 S E hK hP hS hth mw_3_227 dX8_laysPrimes_7 (fun H locs hP hS => ?_)
  rw [← ez2] at hP
  refine pm_ldc2 S mw_4_59 dX8_laysPrimes_10 ?_
  refine lv_lstore (lv' := [(5, .long (2 : Int64)), (3, .long v1), (0, .ref th), (1, .long l1)]) S.1 S.2.1 dX8_laysPrimes_13 hl (by decide) rfl (fun ls hl => ?_)
  exact w_X8_laysPrimes_15 S hr hlk E hK hX hth FU v1 (2 : Int64) z2 ls _ _ h (lv_sub hl [2, 1, 0] rfl) hP hS
theorem vm_X8_laysPrimes : pm_Vm yX8_laysPrimes cX8_laysPrimes 7 none 1 := ⟨mw_4_141, mw_4_140, ms_570, mw_1_7, by decide, by decide⟩
def g_X8_is (ev : EV) (z : PS) (th : Nat) (l1 : Int32) (l2 : Int32) (l3 : Int32) (l4 : Int32) (l5 : Int32) (l6 : Int32) : Option PS := bd (wI z (rf ev 127 th) 0 l1) (fun z1 => bd (wI z1 (rf ev 127 th) 1 l2) (fun z2 => bd (wI z2 (rf ev 127 th) 2 l3) (fun z3 => bd (wI z3 (rf ev 127 th) 3 l4) (fun z4 => bd (wI z4 (rf ev 127 th) 4 l5) (fun z5 => bd (wI z5 (rf ev 127 th) 5 l6) (fun z6 => bd (wI z6 (rf ev 127 th) 6 (0 : Int32)) (fun z7 => some z7)))))))
set_option maxRecDepth 20000 in
set_option maxHeartbeats 4000000 in
theorem c_X8_is (l : Launch) (ev : EV) (z : PS) (E : EWF ev) {th : Nat} (hth : isK ev 6 th) (th_ : Nat) (l1 : Int32) (l2 : Int32) (l3 : Int32) (l4 : Int32) (l5 : Int32) (l6 : Int32) (z9 : PS) (h : g_X8_is ev z th l1 l2 l3 l4 l5 l6 = some z9) : Met l yX8_is (pWs yX8_is cX8_is 7 none) (pR 0 0) (va_Pc [.ref th, .int l1, .int l2, .int l3, .int l4, .int l5, .int l6] (pPe ev z)) (pQv ev z9) 0 0 (eA ev) := by
  refine pm_of (by decide) (Nat.le_of_ble_eq_true rfl) ?_
  intro p e s m below meth c S hr hlk hv ls hl
  obtain ⟨hP, hK, hX⟩ := hv
  have hS : SS ev s s.heap [] := va_S.rf
  have hl : lv_has ls 7 [(0, .ref th), (1, .int l1), (2, .int l2), (3, .int l3), (4, .int l4), (5, .int l5), (6, .int l6)] := hl
  unfold g_X8_is at h
  refine lv_aload_n S.1 S.2.1 dX8_is_0 rfl (lv_at hl 0 rfl) ?_
  refine gf_6_7 S hK hP hth mw_3_228 dX8_is_1 ?_
  refine lv_iconst (v := 0) S.1 S.2.1 dX8_is_4 (by decide) ?_
  refine lv_iload_n S.1 S.2.1 dX8_is_5 rfl (lv_at hl 1 rfl) ?_
  obtain ⟨z1, ez1, h⟩ := bd_s h
  refine as_I S E hK hP hS (E_6_7 E hth) (by rw [N_6_7 E hth]; decide) dX8_is_6 (fun H locs hP hS => ?_)
  have hP : Wd ev (wI z (rf ev 127 th) 0 l1) H := hP
  rw [← ez1] at hP
  refine lv_aload_n S.1 S.2.1 dX8_is_7 rfl (lv_at hl 0 rfl) ?_
  refine gf_6_7 S hK hP hth mw_3_228 dX8_is_8 ?_
  refine lv_iconst (v := 1) S.1 S.2.1 dX8_is_11 (by decide) ?_
  refine lv_iload_n S.1 S.2.1 dX8_is_12 rfl (lv_at hl 2 rfl) ?_
  obtain ⟨z2, ez2, h⟩ := bd_s h
  refine as_I S E hK hP hS (E_6_7 E hth) (by rw [N_6_7 E hth]; decide) dX8_is_13 (fun H locs hP hS => ?_)
  have hP : Wd ev (wI z1 (rf ev 127 th) 1 l2) H := hP
  rw [← ez2] at hP
  refine lv_aload_n S.1 S.2.1 dX8_is_14 rfl (lv_at hl 0 rfl) ?_
  refine gf_6_7 S hK hP hth mw_3_228 dX8_is_15 ?_
  refine lv_iconst (v := 2) S.1 S.2.1 dX8_is_18 (by decide) ?_
  refine lv_iload_n S.1 S.2.1 dX8_is_19 rfl (lv_at hl 3 rfl) ?_
  obtain ⟨z3, ez3, h⟩ := bd_s h
  refine as_I S E hK hP hS (E_6_7 E hth) (by rw [N_6_7 E hth]; decide) dX8_is_20 (fun H locs hP hS => ?_)
  have hP : Wd ev (wI z2 (rf ev 127 th) 2 l3) H := hP
  rw [← ez3] at hP
  refine lv_aload_n S.1 S.2.1 dX8_is_21 rfl (lv_at hl 0 rfl) ?_
  refine gf_6_7 S hK hP hth mw_3_228 dX8_is_22 ?_
  refine lv_iconst (v := 3) S.1 S.2.1 dX8_is_25 (by decide) ?_
  refine lv_iload S.1 S.2.1 dX8_is_26 (lv_at hl 4 rfl) ?_
  obtain ⟨z4, ez4, h⟩ := bd_s h
  refine as_I S E hK hP hS (E_6_7 E hth) (by rw [N_6_7 E hth]; decide) dX8_is_28 (fun H locs hP hS => ?_)
  have hP : Wd ev (wI z3 (rf ev 127 th) 3 l4) H := hP
  rw [← ez4] at hP
  refine lv_aload_n S.1 S.2.1 dX8_is_29 rfl (lv_at hl 0 rfl) ?_
  refine gf_6_7 S hK hP hth mw_3_228 dX8_is_30 ?_
  refine lv_iconst (v := 4) S.1 S.2.1 dX8_is_33 (by decide) ?_
  refine lv_iload S.1 S.2.1 dX8_is_34 (lv_at hl 5 rfl) ?_
  obtain ⟨z5, ez5, h⟩ := bd_s h
  refine as_I S E hK hP hS (E_6_7 E hth) (by rw [N_6_7 E hth]; decide) dX8_is_36 (fun H locs hP hS => ?_)
  have hP : Wd ev (wI z4 (rf ev 127 th) 4 l5) H := hP
  rw [← ez5] at hP
  refine lv_aload_n S.1 S.2.1 dX8_is_37 rfl (lv_at hl 0 rfl) ?_
  refine gf_6_7 S hK hP hth mw_3_228 dX8_is_38 ?_
  refine lv_iconst (v := 5) S.1 S.2.1 dX8_is_41 (by decide) ?_
  refine lv_iload S.1 S.2.1 dX8_is_42 (lv_at hl 6 rfl) ?_
  obtain ⟨z6, ez6, h⟩ := bd_s h
  refine as_I S E hK hP hS (E_6_7 E hth) (by rw [N_6_7 E hth]; decide) dX8_is_44 (fun H locs hP hS => ?_)
  have hP : Wd ev (wI z5 (rf ev 127 th) 5 l6) H := hP
  rw [← ez6] at hP
  refine lv_aload_n S.1 S.2.1 dX8_is_45 rfl (lv_at hl 0 rfl) ?_
  refine gf_6_7 S hK hP hth mw_3_228 dX8_is_46 ?_
  refine lv_bipush (v := 6) S.1 S.2.1 dX8_is_49 (by decide) ?_
  refine lv_iconst (v := 0) S.1 S.2.1 dX8_is_51 (by decide) ?_
  obtain ⟨z7, ez7, h⟩ := bd_s h
  refine as_I S E hK hP hS (E_6_7 E hth) (by rw [N_6_7 E hth]; decide) dX8_is_52 (fun H locs hP hS => ?_)
  have hP : Wd ev (wI z6 (rf ev 127 th) 6 (0 : Int32)) H := hP
  rw [← ez7] at hP
  exact pm_vretW S hr hlk hP hS (Option.some.inj h) dX8_is_53
theorem vm_X8_is : pm_Vm yX8_is cX8_is 7 none 6 := ⟨mw_4_178, mw_4_177, ms_574, mw_1_7, by decide, by decide⟩
def g_X8_lesser (l0 : Int32) (l1 : Int32) : Option Int32 := if l1 ≤ l0 then (some l1) else (some l0)
set_option maxRecDepth 20000 in
set_option maxHeartbeats 4000000 in
theorem c_X8_lesser (l : Launch) (l0 : Int32) (l1 : Int32) (r : Int32) (h : g_X8_lesser l0 l1 = some r) : Met l yX8_lesser (pWs yX8_lesser cX8_lesser 2 (some .int)) (pR 0 0) (va_Pc [.int l0, .int l1] (fun _ => True)) (k2_QcV (.int r)) 0 0 (fun _ => False) := by
  refine pm_of (by decide) (Nat.le_of_ble_eq_true rfl) ?_
  intro p e s m below meth c S hr hlk hv ls hl
  have hl : lv_has ls 2 [(0, .int l0), (1, .int l1)] := hl
  unfold g_X8_lesser at h
  refine lv_iload_n S.1 S.2.1 dX8_lesser_0 rfl (lv_at hl 0 rfl) ?_
  refine lv_iload_n S.1 S.2.1 dX8_lesser_1 rfl (lv_at hl 1 rfl) ?_
  refine lv_icmp_ge (tgt := 9) S.1 S.2.1 dX8_lesser_2 (by decide) (fun c1 => ?_) (fun c1 => ?_)
  · rw [if_pos c1] at h
    refine lv_iload_n S.1 S.2.1 dX8_lesser_9 rfl (lv_at hl 1 rfl) ?_
    exact pm_iretR S hr hlk (Option.some.inj h) dX8_lesser_10
  · rw [if_neg c1] at h
    refine lv_iload_n S.1 S.2.1 dX8_lesser_5 rfl (lv_at hl 0 rfl) ?_
    refine lv_goto (tgt := 10) S.1 S.2.1 dX8_lesser_6 (by decide) ?_
    exact pm_iretR S hr hlk (Option.some.inj h) dX8_lesser_10
theorem sm_X8_lesser : pm_Sm yX8_lesser cX8_lesser 2 (some .int) 2 := ⟨mw_4_171, mw_4_170, mw_1_7, by decide, by decide⟩
def q_X8_cubicRoots_21 : Nat → Int64 → Int64 → Int64 → Int32 → Int64 → Option Int32
  | 0, _, _, _, _, _ => none
  | n + 1, l0, l6, l8, l10, l11 => if l0 ≤ l11 then (some l10) else (ck (¬ l0 = 0) (ck (¬ l0 = 0) (ck (¬ l0 = 0) (bd (((((jr64 ((jr64 (l11 * l11) l0) * l11) l0) * (4 : Int64)) - ((3 : Int64) * (jr64 (l6 * l11) l0))) - l8)) (fun v7 => ck (¬ l0 = 0) (if (jr64 v7 l0) = (0 : Int64) then (bd ((l10 + (1 : Int32))) (fun v12 => bd ((l11 + (1 : Int64))) (fun v13 => q_X8_cubicRoots_21 n l0 l6 l8 v12 v13))) else (bd ((l10 + (0 : Int32))) (fun v10 => bd ((l11 + (1 : Int64))) (fun v11 => q_X8_cubicRoots_21 n l0 l6 l8 v10 v11)))))))))
set_option maxRecDepth 20000 in
set_option maxHeartbeats 4000000 in
theorem w_X8_cubicRoots_21 {p : Program} {l : Launch} {e : Env} {s : State} {m : MethodId} {args : Array Value} {below : List Frame} {meth : Method} {c : Code} {r : Int32} (S : CallFix p m c cX8_cubicRoots 15 s args gT RX8) (hr : meth.sig.returnType = (some .int)) (hlk : meth.locks = false) : ∀ (n : Nat), ∀ (l0 : Int64) (l6 : Int64) (l8 : Int64) (l10 : Int32) (l11 : Int64) (ls : Array Slot), q_X8_cubicRoots_21 n l0 l6 l8 l10 l11 = some r → lv_has ls 15 [(0, .long l0), (6, .long l6), (8, .long l8), (10, .int l10), (11, .long l11)] → W p l e (pR 1 35) s m args below meth c s.heap [] 0 0 (MQ below (k2_QcV (.int r)) args s 0 0 (fun _ => False)) (F0 m 21 ls []) := by
  intro n
  induction n with
  | zero => intro l0 l6 l8 l10 l11 ls h; cases h
  | succ n ih =>
    intro l0 l6 l8 l10 l11 ls h hl
    rw [q_X8_cubicRoots_21] at h
    refine lv_lload S.1 S.2.1 dX8_cubicRoots_21 (lv_at hl 4 rfl) ?_
    refine lv_lload_n S.1 S.2.1 dX8_cubicRoots_23 rfl (lv_at hl 0 rfl) ?_
    refine pm_lge (tgt := 89) S dX8_cubicRoots_24 dX8_cubicRoots_25 (by decide) (fun c3 => ?_) (fun c3 => ?_)
    · rw [if_pos c3] at h
      refine lv_iload S.1 S.2.1 dX8_cubicRoots_89 (lv_at hl 3 rfl) ?_
      exact pm_iretR S hr hlk (Option.some.inj h) dX8_cubicRoots_91
    · rw [if_neg c3] at h
      refine lv_lload S.1 S.2.1 dX8_cubicRoots_28 (lv_at hl 4 rfl) ?_
      refine lv_lload S.1 S.2.1 dX8_cubicRoots_30 (lv_at hl 4 rfl) ?_
      refine lv_lmul S.1 S.2.1 dX8_cubicRoots_32 ?_
      refine lv_lload_n S.1 S.2.1 dX8_cubicRoots_33 rfl (lv_at hl 0 rfl) ?_
      obtain ⟨hc4, h⟩ := ck_s h
      refine pm_lrem S hc4 dX8_cubicRoots_34 ?_
      refine lv_lload S.1 S.2.1 dX8_cubicRoots_35 (lv_at hl 4 rfl) ?_
      refine lv_lmul S.1 S.2.1 dX8_cubicRoots_37 ?_
      refine lv_lload_n S.1 S.2.1 dX8_cubicRoots_38 rfl (lv_at hl 0 rfl) ?_
      obtain ⟨hc5, h⟩ := ck_s h
      refine pm_lrem S hc5 dX8_cubicRoots_39 ?_
      refine pm_ldc2 S mw_4_54 dX8_cubicRoots_40 ?_
      refine lv_lmul S.1 S.2.1 dX8_cubicRoots_43 ?_
      refine pm_ldc2 S mw_4_99 dX8_cubicRoots_44 ?_
      refine lv_lload S.1 S.2.1 dX8_cubicRoots_47 (lv_at hl 1 rfl) ?_
      refine lv_lload S.1 S.2.1 dX8_cubicRoots_49 (lv_at hl 4 rfl) ?_
      refine lv_lmul S.1 S.2.1 dX8_cubicRoots_51 ?_
      refine lv_lload_n S.1 S.2.1 dX8_cubicRoots_52 rfl (lv_at hl 0 rfl) ?_
      obtain ⟨hc6, h⟩ := ck_s h
      refine pm_lrem S hc6 dX8_cubicRoots_53 ?_
      refine lv_lmul S.1 S.2.1 dX8_cubicRoots_54 ?_
      refine lv_lsub S.1 S.2.1 dX8_cubicRoots_55 ?_
      refine lv_lload S.1 S.2.1 dX8_cubicRoots_56 (lv_at hl 2 rfl) ?_
      refine lv_lsub S.1 S.2.1 dX8_cubicRoots_58 ?_
      obtain ⟨v7, ev7, h⟩ := bd_s h
      refine pm_nmL ev7 ?_
      refine lv_lstore (lv' := [(13, .long v7), (0, .long l0), (6, .long l6), (8, .long l8), (10, .int l10), (11, .long l11)]) S.1 S.2.1 dX8_cubicRoots_59 hl (by decide) rfl (fun ls hl => ?_)
      refine lv_iload S.1 S.2.1 dX8_cubicRoots_61 (lv_at hl 4 rfl) ?_
      refine lv_lload S.1 S.2.1 dX8_cubicRoots_63 (lv_at hl 0 rfl) ?_
      refine lv_lload_n S.1 S.2.1 dX8_cubicRoots_65 rfl (lv_at hl 1 rfl) ?_
      obtain ⟨hc8, h⟩ := ck_s h
      refine pm_lrem S hc8 dX8_cubicRoots_66 ?_
      refine lv_lconst (v := 0) S.1 S.2.1 dX8_cubicRoots_67 (by decide) ?_
      refine pm_lne (tgt := 76) S dX8_cubicRoots_68 dX8_cubicRoots_69 (by decide) (fun c9 => ?_) (fun c9 => ?_)
      · rw [if_neg c9] at h
        refine lv_iconst (v := 0) S.1 S.2.1 dX8_cubicRoots_76 (by decide) ?_
        refine lv_iadd S.1 S.2.1 dX8_cubicRoots_77 ?_
        obtain ⟨v10, ev10, h⟩ := bd_s h
        refine pm_nmI ev10 ?_
        refine lv_istore (lv' := [(10, .int v10), (13, .long v7), (0, .long l0), (6, .long l6), (8, .long l8), (11, .long l11)]) S.1 S.2.1 dX8_cubicRoots_78 hl (by decide) rfl (fun ls hl => ?_)
        refine lv_lload S.1 S.2.1 dX8_cubicRoots_80 (lv_at hl 5 rfl) ?_
        refine lv_lconst (v := 1) S.1 S.2.1 dX8_cubicRoots_82 (by decide) ?_
        refine lv_ladd S.1 S.2.1 dX8_cubicRoots_83 ?_
        obtain ⟨v11, ev11, h⟩ := bd_s h
        refine pm_nmL ev11 ?_
        refine lv_lstore (lv' := [(11, .long v11), (10, .int v10), (13, .long v7), (0, .long l0), (6, .long l6), (8, .long l8)]) S.1 S.2.1 dX8_cubicRoots_84 hl (by decide) rfl (fun ls hl => ?_)
        refine lv_goto (tgt := 21) S.1 S.2.1 dX8_cubicRoots_86 (by decide) ?_
        exact ih l0 l6 l8 v10 v11 ls h (lv_sub hl [3, 4, 5, 1, 0] rfl)
      · rw [if_pos c9] at h
        refine lv_iconst (v := 1) S.1 S.2.1 dX8_cubicRoots_72 (by decide) ?_
        refine lv_goto (tgt := 77) S.1 S.2.1 dX8_cubicRoots_73 (by decide) ?_
        refine lv_iadd S.1 S.2.1 dX8_cubicRoots_77 ?_
        obtain ⟨v12, ev12, h⟩ := bd_s h
        refine pm_nmI ev12 ?_
        refine lv_istore (lv' := [(10, .int v12), (13, .long v7), (0, .long l0), (6, .long l6), (8, .long l8), (11, .long l11)]) S.1 S.2.1 dX8_cubicRoots_78 hl (by decide) rfl (fun ls hl => ?_)
        refine lv_lload S.1 S.2.1 dX8_cubicRoots_80 (lv_at hl 5 rfl) ?_
        refine lv_lconst (v := 1) S.1 S.2.1 dX8_cubicRoots_82 (by decide) ?_
        refine lv_ladd S.1 S.2.1 dX8_cubicRoots_83 ?_
        obtain ⟨v13, ev13, h⟩ := bd_s h
        refine pm_nmL ev13 ?_
        refine lv_lstore (lv' := [(11, .long v13), (10, .int v12), (13, .long v7), (0, .long l0), (6, .long l6), (8, .long l8)]) S.1 S.2.1 dX8_cubicRoots_84 hl (by decide) rfl (fun ls hl => ?_)
        refine lv_goto (tgt := 21) S.1 S.2.1 dX8_cubicRoots_86 (by decide) ?_
        exact ih l0 l6 l8 v12 v13 ls h (lv_sub hl [3, 4, 5, 1, 0] rfl)
def g_X8_cubicRoots (l0 : Int64) (l2 : Int64) (l4 : Int64) : Option Int32 := ob (g_X8_modulo l2 l0) (fun v1 => ob (g_X8_modulo l4 l0) (fun v2 => q_X8_cubicRoots_21 FU l0 v1 v2 (0 : Int32) (0 : Int64)))
set_option maxRecDepth 20000 in
set_option maxHeartbeats 4000000 in
theorem c_X8_cubicRoots (l : Launch) (l0 : Int64) (l2 : Int64) (l4 : Int64) (r : Int32) (h : g_X8_cubicRoots l0 l2 l4 = some r) : Met l yX8_cubicRoots (pWs yX8_cubicRoots cX8_cubicRoots 15 (some .int)) (pR 1 35) (va_Pc [.long l0, .long l2, .long l4] (fun _ => True)) (k2_QcV (.int r)) 0 0 (fun _ => False) := by
  refine pm_of (by decide) (Nat.le_of_ble_eq_true rfl) ?_
  intro p e s m below meth c S hr hlk hv ls hl
  have hl : lv_has ls 15 [(0, .long l0), (2, .long l2), (4, .long l4)] := hl
  unfold g_X8_cubicRoots at h
  refine lv_lload_n S.1 S.2.1 dX8_cubicRoots_0 rfl (lv_at hl 1 rfl) ?_
  refine lv_lload_n S.1 S.2.1 dX8_cubicRoots_1 rfl (lv_at hl 0 rfl) ?_
  obtain ⟨v1, ev1, h⟩ := ob_s h
  refine pm_cS (As := [.long l2, .long l0]) (rest := []) S (c_X8_modulo l l2 l0 v1 ev1) sm_X8_modulo mw_4_183 ⟨⟨rfl, rfl⟩, by decide, by decide⟩ rfl hl.1 rfl (Nat.le_of_ble_eq_true rfl) ⟨Nat.zero_le _, Nat.zero_le _⟩ dX8_cubicRoots_2 ?_
  refine lv_lstore (lv' := [(6, .long v1), (0, .long l0), (2, .long l2), (4, .long l4)]) S.1 S.2.1 dX8_cubicRoots_5 hl (by decide) rfl (fun ls hl => ?_)
  refine lv_lload S.1 S.2.1 dX8_cubicRoots_7 (lv_at hl 3 rfl) ?_
  refine lv_lload_n S.1 S.2.1 dX8_cubicRoots_9 rfl (lv_at hl 1 rfl) ?_
  obtain ⟨v2, ev2, h⟩ := ob_s h
  refine pm_cS (As := [.long l4, .long l0]) (rest := []) S (c_X8_modulo l l4 l0 v2 ev2) sm_X8_modulo mw_4_183 ⟨⟨rfl, rfl⟩, by decide, by decide⟩ rfl hl.1 rfl (Nat.le_of_ble_eq_true rfl) ⟨Nat.zero_le _, Nat.zero_le _⟩ dX8_cubicRoots_10 ?_
  refine lv_lstore (lv' := [(8, .long v2), (6, .long v1), (0, .long l0), (2, .long l2), (4, .long l4)]) S.1 S.2.1 dX8_cubicRoots_13 hl (by decide) rfl (fun ls hl => ?_)
  refine lv_iconst (v := 0) S.1 S.2.1 dX8_cubicRoots_15 (by decide) ?_
  refine lv_istore (lv' := [(10, .int (0 : Int32)), (8, .long v2), (6, .long v1), (0, .long l0), (2, .long l2), (4, .long l4)]) S.1 S.2.1 dX8_cubicRoots_16 hl (by decide) rfl (fun ls hl => ?_)
  refine lv_lconst (v := 0) S.1 S.2.1 dX8_cubicRoots_18 (by decide) ?_
  refine lv_lstore (lv' := [(11, .long (0 : Int64)), (10, .int (0 : Int32)), (8, .long v2), (6, .long v1), (0, .long l0), (2, .long l2), (4, .long l4)]) S.1 S.2.1 dX8_cubicRoots_19 hl (by decide) rfl (fun ls hl => ?_)
  exact w_X8_cubicRoots_21 S hr hlk FU l0 v1 v2 (0 : Int32) (0 : Int64) ls h (lv_sub hl [4, 3, 2, 1, 0] rfl)
theorem sm_X8_cubicRoots : pm_Sm yX8_cubicRoots cX8_cubicRoots 15 (some .int) 3 := ⟨mw_4_193, mw_4_192, mw_1_7, by decide, by decide⟩
def q_X8_additive_69 (ev : EV) (th : Nat) (l1 : Int64) (l9 : Int32) (t0 : Int64) (t1 : Int64) (z : PS) : Option PS := bd ((t1 * t0)) (fun v34 => ob (g_X8_square v34 l1) (fun v35 => ob (g_X8_is ev z th (6 : Int32) (l9 - (6 : Int32)) (2 : Int32) (l9 - (1 : Int32)) ((3 : Int32) + v35) l9) (fun z36 => some z36)))
set_option maxRecDepth 20000 in
set_option maxHeartbeats 4000000 in
theorem w_X8_additive_69 {ev : EV} {th : Nat} {p : Program} {l : Launch} {e : Env} {s : State} {m : MethodId} {args : Array Value} {below : List Frame} {meth : Method} {c : Code} {z9 : PS} (S : CallFix p m c cX8_additive 13 s args gT RX8) (hr : meth.sig.returnType = none) (hlk : meth.locks = false) (E : EWF ev) (hK : KK ev s) (hX : pXt ev s) (hth : isK ev 6 th) : ∀ (l1 : Int64) (l9 : Int32) (t0 : Int64) (t1 : Int64) (z : PS) (ls : Array Slot) (H : Heap) (locs : List Loc), q_X8_additive_69 ev th l1 l9 t0 t1 z = some z9 → lv_has ls 13 [(0, .ref th), (1, .long l1), (9, .int l9)] → Wd ev z H → SS ev s H locs → W p l e (pR 2 81) s m args below meth c H locs 0 0 (MQ below (pQv ev z9) args s 0 0 (eA ev)) (F0 m 69 ls [.long t0, .long t1]) := by
  intro l1 l9 t0 t1 z ls H locs h hl hP hS
  unfold q_X8_additive_69 at h
  refine lv_lmul S.1 S.2.1 dX8_additive_69 ?_
  obtain ⟨v34, ev34, h⟩ := bd_s h
  refine pm_nmL ev34 ?_
  refine lv_lstore (lv' := [(11, .long v34), (0, .ref th), (1, .long l1), (9, .int l9)]) S.1 S.2.1 dX8_additive_70 hl (by decide) rfl (fun ls hl => ?_)
  refine lv_aload_n S.1 S.2.1 dX8_additive_72 rfl (lv_at hl 1 rfl) ?_
  refine lv_bipush (v := 6) S.1 S.2.1 dX8_additive_73 (by decide) ?_
  refine lv_iload S.1 S.2.1 dX8_additive_75 (lv_at hl 3 rfl) ?_
  refine lv_bipush (v := 6) S.1 S.2.1 dX8_additive_77 (by decide) ?_
  refine lv_isub S.1 S.2.1 dX8_additive_79 ?_
  refine lv_iconst (v := 2) S.1 S.2.1 dX8_additive_80 (by decide) ?_
  refine lv_iload S.1 S.2.1 dX8_additive_81 (lv_at hl 3 rfl) ?_
  refine lv_iconst (v := 1) S.1 S.2.1 dX8_additive_83 (by decide) ?_
  refine lv_isub S.1 S.2.1 dX8_additive_84 ?_
  refine lv_iconst (v := 3) S.1 S.2.1 dX8_additive_85 (by decide) ?_
  refine lv_lload S.1 S.2.1 dX8_additive_86 (lv_at hl 0 rfl) ?_
  refine lv_lload_n S.1 S.2.1 dX8_additive_88 rfl (lv_at hl 2 rfl) ?_
  obtain ⟨v35, ev35, h⟩ := ob_s h
  refine pm_cS (As := [.long v34, .long l1]) (rest := [.int (3 : Int32), .int (l9 - (1 : Int32)), .int (2 : Int32), .int (l9 - (6 : Int32)), .int (6 : Int32), .ref th]) S (c_X8_square l v34 l1 v35 ev35) sm_X8_square mw_4_180 ⟨⟨rfl, rfl⟩, by decide, by decide⟩ rfl hl.1 rfl (Nat.le_of_ble_eq_true rfl) ⟨Nat.zero_le _, Nat.zero_le _⟩ dX8_additive_89 ?_
  refine lv_iadd S.1 S.2.1 dX8_additive_92 ?_
  refine lv_iload S.1 S.2.1 dX8_additive_93 (lv_at hl 3 rfl) ?_
  obtain ⟨z36, ez36, h⟩ := ob_s h
  refine pm_cVv (As := [.int (6 : Int32), .int (l9 - (6 : Int32)), .int (2 : Int32), .int (l9 - (1 : Int32)), .int ((3 : Int32) + v35), .int l9]) (rest := []) S hK hX hP hS (c_X8_is l ev z E hth th (6 : Int32) (l9 - (6 : Int32)) (2 : Int32) (l9 - (1 : Int32)) ((3 : Int32) + v35) l9 z36 ez36) vm_X8_is mw_4_175 (rc_6 hK hP hth) ⟨⟨rfl, rfl⟩, by decide, by decide⟩ rfl hl.1 rfl (Nat.le_of_ble_eq_true rfl) ⟨Nat.zero_le _, Nat.zero_le _⟩ dX8_additive_95 (fun H locs hP hS => ?_)
  refine lv_goto (tgt := 295) S.1 S.2.1 dX8_additive_98 (by decide) ?_
  exact pm_vretW S hr hlk hP hS (Option.some.inj h) dX8_additive_295
def q_X8_additive_31 (ev : EV) (th : Nat) (l1 : Int64) (l3 : Int64) (l5 : Int64) (l7 : Int64) (l9 : Int32) (t0 : Int32) (z : PS) : Option PS := if t0 = 0 then (if l9 = (2 : Int32) then (ob (g_X8_is ev z th (2 : Int32) (0 : Int32) (2 : Int32) (1 : Int32) (1 : Int32) l9) (fun z28 => some z28)) else (if l9 = (3 : Int32) then (ob (g_X8_is ev z th (3 : Int32) (0 : Int32) (2 : Int32) (2 : Int32) (2 : Int32) l9) (fun z27 => some z27)) else (if l9 = (4 : Int32) then (ob (g_X8_without l5 l1 (2 : Int32)) (fun v23 => ck (¬ l1 = 0) (ob (g_X8_square ((-6 : Int64) * (jr64 v23 l1)) l1) (fun v25 => ob (g_X8_is ev z th (4 : Int32) (0 : Int32) (2 : Int32) (3 : Int32) ((2 : Int32) + v25) l9) (fun z26 => some z26))))) else (if l9 = (6 : Int32) then (ob (g_X8_without l3 l1 (2 : Int32)) (fun v19 => ob (g_X8_without l5 l1 (3 : Int32)) (fun v20 => ob (g_X8_cubicRoots l1 v19 v20) (fun v21 => ob (g_X8_is ev z th (5 : Int32) (0 : Int32) (2 : Int32) (5 : Int32) ((1 : Int32) + v21) l9) (fun z22 => some z22))))) else (if l9 = (8 : Int32) then (ob (g_X8_without l5 l1 (4 : Int32)) (fun v15 => ck (¬ l1 = 0) (ob (g_X8_square ((-6 : Int64) * (jr64 v15 l1)) l1) (fun v17 => ob (g_X8_is ev z th (7 : Int32) (0 : Int32) (2 : Int32) (7 : Int32) ((2 : Int32) + v17) l9) (fun z18 => some z18))))) else (if l9 = (9 : Int32) then (ob (g_X8_is ev z th (8 : Int32) (0 : Int32) (2 : Int32) (8 : Int32) (2 : Int32) l9) (fun z14 => some z14)) else (ob (g_X8_is ev z th (9 : Int32) (0 : Int32) (2 : Int32) (9 : Int32) (1 : Int32) l9) (fun z13 => some z13)))))))) else (ob (g_X8_without l7 l1 l9) (fun v29 => ck (¬ l1 = 0) (if (jr32 l9 (2 : Int32)) = (1 : Int32) then (ob (g_X8_without l5 l1 (3 : Int32)) (fun v32 => ck (¬ l1 = 0) (q_X8_additive_69 ev th l1 l9 (jr64 v32 l1) (jr64 v29 l1) z))) else (q_X8_additive_69 ev th l1 l9 (1 : Int64) (jr64 v29 l1) z))))
set_option maxRecDepth 20000 in
set_option maxHeartbeats 4000000 in
theorem w_X8_additive_31 {ev : EV} {th : Nat} {p : Program} {l : Launch} {e : Env} {s : State} {m : MethodId} {args : Array Value} {below : List Frame} {meth : Method} {c : Code} {z9 : PS} (S : CallFix p m c cX8_additive 13 s args gT RX8) (hr : meth.sig.returnType = none) (hlk : meth.locks = false) (E : EWF ev) (hK : KK ev s) (hX : pXt ev s) (hth : isK ev 6 th) : ∀ (l1 : Int64) (l3 : Int64) (l5 : Int64) (l7 : Int64) (l9 : Int32) (t0 : Int32) (z : PS) (ls : Array Slot) (H : Heap) (locs : List Loc), q_X8_additive_31 ev th l1 l3 l5 l7 l9 t0 z = some z9 → lv_has ls 13 [(0, .ref th), (1, .long l1), (3, .long l3), (5, .long l5), (7, .long l7), (9, .int l9)] → Wd ev z H → SS ev s H locs → W p l e (pR 2 81) s m args below meth c H locs 0 0 (MQ below (pQv ev z9) args s 0 0 (eA ev)) (F0 m 31 ls [.int t0]) := by
  intro l1 l3 l5 l7 l9 t0 z ls H locs h hl hP hS
  unfold q_X8_additive_31 at h
  refine lv_istore (lv' := [(10, .int t0), (0, .ref th), (1, .long l1), (3, .long l3), (5, .long l5), (7, .long l7), (9, .int l9)]) S.1 S.2.1 dX8_additive_31 hl (by decide) rfl (fun ls hl => ?_)
  refine lv_iload S.1 S.2.1 dX8_additive_33 (lv_at hl 0 rfl) ?_
  refine lv_if_eq (tgt := 101) S.1 S.2.1 dX8_additive_35 (by decide) (fun c6 => ?_) (fun c6 => ?_)
  · rw [if_pos c6] at h
    refine lv_iload S.1 S.2.1 dX8_additive_101 (lv_at hl 6 rfl) ?_
    refine lv_iconst (v := 2) S.1 S.2.1 dX8_additive_103 (by decide) ?_
    refine lv_icmp_ne (tgt := 121) S.1 S.2.1 dX8_additive_104 (by decide) (fun c7 => ?_) (fun c7 => ?_)
    · rw [if_neg c7] at h
      refine lv_iload S.1 S.2.1 dX8_additive_121 (lv_at hl 6 rfl) ?_
      refine lv_iconst (v := 3) S.1 S.2.1 dX8_additive_123 (by decide) ?_
      refine lv_icmp_ne (tgt := 141) S.1 S.2.1 dX8_additive_124 (by decide) (fun c8 => ?_) (fun c8 => ?_)
      · rw [if_neg c8] at h
        refine lv_iload S.1 S.2.1 dX8_additive_141 (lv_at hl 6 rfl) ?_
        refine lv_iconst (v := 4) S.1 S.2.1 dX8_additive_143 (by decide) ?_
        refine lv_icmp_ne (tgt := 179) S.1 S.2.1 dX8_additive_144 (by decide) (fun c9 => ?_) (fun c9 => ?_)
        · rw [if_neg c9] at h
          refine lv_iload S.1 S.2.1 dX8_additive_179 (lv_at hl 6 rfl) ?_
          refine lv_bipush (v := 6) S.1 S.2.1 dX8_additive_181 (by decide) ?_
          refine lv_icmp_ne (tgt := 218) S.1 S.2.1 dX8_additive_183 (by decide) (fun c10 => ?_) (fun c10 => ?_)
          · rw [if_neg c10] at h
            refine lv_iload S.1 S.2.1 dX8_additive_218 (lv_at hl 6 rfl) ?_
            refine lv_bipush (v := 8) S.1 S.2.1 dX8_additive_220 (by decide) ?_
            refine lv_icmp_ne (tgt := 259) S.1 S.2.1 dX8_additive_222 (by decide) (fun c11 => ?_) (fun c11 => ?_)
            · rw [if_neg c11] at h
              refine lv_iload S.1 S.2.1 dX8_additive_259 (lv_at hl 6 rfl) ?_
              refine lv_bipush (v := 9) S.1 S.2.1 dX8_additive_261 (by decide) ?_
              refine lv_icmp_ne (tgt := 282) S.1 S.2.1 dX8_additive_263 (by decide) (fun c12 => ?_) (fun c12 => ?_)
              · rw [if_neg c12] at h
                refine lv_aload_n S.1 S.2.1 dX8_additive_282 rfl (lv_at hl 1 rfl) ?_
                refine lv_bipush (v := 9) S.1 S.2.1 dX8_additive_283 (by decide) ?_
                refine lv_iconst (v := 0) S.1 S.2.1 dX8_additive_285 (by decide) ?_
                refine lv_iconst (v := 2) S.1 S.2.1 dX8_additive_286 (by decide) ?_
                refine lv_bipush (v := 9) S.1 S.2.1 dX8_additive_287 (by decide) ?_
                refine lv_iconst (v := 1) S.1 S.2.1 dX8_additive_289 (by decide) ?_
                refine lv_iload S.1 S.2.1 dX8_additive_290 (lv_at hl 6 rfl) ?_
                obtain ⟨z13, ez13, h⟩ := ob_s h
                refine pm_cVv (As := [.int (9 : Int32), .int (0 : Int32), .int (2 : Int32), .int (9 : Int32), .int (1 : Int32), .int l9]) (rest := []) S hK hX hP hS (c_X8_is l ev z E hth th (9 : Int32) (0 : Int32) (2 : Int32) (9 : Int32) (1 : Int32) l9 z13 ez13) vm_X8_is mw_4_175 (rc_6 hK hP hth) ⟨⟨rfl, rfl⟩, by decide, by decide⟩ rfl hl.1 rfl (Nat.le_of_ble_eq_true rfl) ⟨Nat.zero_le _, Nat.zero_le _⟩ dX8_additive_292 (fun H locs hP hS => ?_)
                exact pm_vretW S hr hlk hP hS (Option.some.inj h) dX8_additive_295
              · rw [if_pos c12] at h
                refine lv_aload_n S.1 S.2.1 dX8_additive_266 rfl (lv_at hl 1 rfl) ?_
                refine lv_bipush (v := 8) S.1 S.2.1 dX8_additive_267 (by decide) ?_
                refine lv_iconst (v := 0) S.1 S.2.1 dX8_additive_269 (by decide) ?_
                refine lv_iconst (v := 2) S.1 S.2.1 dX8_additive_270 (by decide) ?_
                refine lv_bipush (v := 8) S.1 S.2.1 dX8_additive_271 (by decide) ?_
                refine lv_iconst (v := 2) S.1 S.2.1 dX8_additive_273 (by decide) ?_
                refine lv_iload S.1 S.2.1 dX8_additive_274 (lv_at hl 6 rfl) ?_
                obtain ⟨z14, ez14, h⟩ := ob_s h
                refine pm_cVv (As := [.int (8 : Int32), .int (0 : Int32), .int (2 : Int32), .int (8 : Int32), .int (2 : Int32), .int l9]) (rest := []) S hK hX hP hS (c_X8_is l ev z E hth th (8 : Int32) (0 : Int32) (2 : Int32) (8 : Int32) (2 : Int32) l9 z14 ez14) vm_X8_is mw_4_175 (rc_6 hK hP hth) ⟨⟨rfl, rfl⟩, by decide, by decide⟩ rfl hl.1 rfl (Nat.le_of_ble_eq_true rfl) ⟨Nat.zero_le _, Nat.zero_le _⟩ dX8_additive_276 (fun H locs hP hS => ?_)
                refine lv_goto (tgt := 295) S.1 S.2.1 dX8_additive_279 (by decide) ?_
                exact pm_vretW S hr hlk hP hS (Option.some.inj h) dX8_additive_295
            · rw [if_pos c11] at h
              refine lv_aload_n S.1 S.2.1 dX8_additive_225 rfl (lv_at hl 1 rfl) ?_
              refine lv_bipush (v := 7) S.1 S.2.1 dX8_additive_226 (by decide) ?_
              refine lv_iconst (v := 0) S.1 S.2.1 dX8_additive_228 (by decide) ?_
              refine lv_iconst (v := 2) S.1 S.2.1 dX8_additive_229 (by decide) ?_
              refine lv_bipush (v := 7) S.1 S.2.1 dX8_additive_230 (by decide) ?_
              refine lv_iconst (v := 2) S.1 S.2.1 dX8_additive_232 (by decide) ?_
              refine pm_ldc2 S mw_4_190 dX8_additive_233 ?_
              refine lv_lload S.1 S.2.1 dX8_additive_236 (lv_at hl 4 rfl) ?_
              refine lv_lload_n S.1 S.2.1 dX8_additive_238 rfl (lv_at hl 2 rfl) ?_
              refine lv_iconst (v := 4) S.1 S.2.1 dX8_additive_239 (by decide) ?_
              obtain ⟨v15, ev15, h⟩ := ob_s h
              refine pm_cS (As := [.long l5, .long l1, .int (4 : Int32)]) (rest := [.long (-6 : Int64), .int (2 : Int32), .int (7 : Int32), .int (2 : Int32), .int (0 : Int32), .int (7 : Int32), .ref th]) S (c_X8_without l l5 l1 (4 : Int32) v15 ev15) sm_X8_without mw_4_172 ⟨⟨rfl, rfl⟩, by decide, by decide⟩ rfl hl.1 rfl (Nat.le_of_ble_eq_true rfl) ⟨Nat.zero_le _, Nat.zero_le _⟩ dX8_additive_240 ?_
              refine lv_lload_n S.1 S.2.1 dX8_additive_243 rfl (lv_at hl 2 rfl) ?_
              obtain ⟨hc16, h⟩ := ck_s h
              refine pm_lrem S hc16 dX8_additive_244 ?_
              refine lv_lmul S.1 S.2.1 dX8_additive_245 ?_
              refine lv_lload_n S.1 S.2.1 dX8_additive_246 rfl (lv_at hl 2 rfl) ?_
              obtain ⟨v17, ev17, h⟩ := ob_s h
              refine pm_cS (As := [.long ((-6 : Int64) * (jr64 v15 l1)), .long l1]) (rest := [.int (2 : Int32), .int (7 : Int32), .int (2 : Int32), .int (0 : Int32), .int (7 : Int32), .ref th]) S (c_X8_square l ((-6 : Int64) * (jr64 v15 l1)) l1 v17 ev17) sm_X8_square mw_4_180 ⟨⟨rfl, rfl⟩, by decide, by decide⟩ rfl hl.1 rfl (Nat.le_of_ble_eq_true rfl) ⟨Nat.zero_le _, Nat.zero_le _⟩ dX8_additive_247 ?_
              refine lv_iadd S.1 S.2.1 dX8_additive_250 ?_
              refine lv_iload S.1 S.2.1 dX8_additive_251 (lv_at hl 6 rfl) ?_
              obtain ⟨z18, ez18, h⟩ := ob_s h
              refine pm_cVv (As := [.int (7 : Int32), .int (0 : Int32), .int (2 : Int32), .int (7 : Int32), .int ((2 : Int32) + v17), .int l9]) (rest := []) S hK hX hP hS (c_X8_is l ev z E hth th (7 : Int32) (0 : Int32) (2 : Int32) (7 : Int32) ((2 : Int32) + v17) l9 z18 ez18) vm_X8_is mw_4_175 (rc_6 hK hP hth) ⟨⟨rfl, rfl⟩, by decide, by decide⟩ rfl hl.1 rfl (Nat.le_of_ble_eq_true rfl) ⟨Nat.zero_le _, Nat.zero_le _⟩ dX8_additive_253 (fun H locs hP hS => ?_)
              refine lv_goto (tgt := 295) S.1 S.2.1 dX8_additive_256 (by decide) ?_
              exact pm_vretW S hr hlk hP hS (Option.some.inj h) dX8_additive_295
          · rw [if_pos c10] at h
            refine lv_aload_n S.1 S.2.1 dX8_additive_186 rfl (lv_at hl 1 rfl) ?_
            refine lv_iconst (v := 5) S.1 S.2.1 dX8_additive_187 (by decide) ?_
            refine lv_iconst (v := 0) S.1 S.2.1 dX8_additive_188 (by decide) ?_
            refine lv_iconst (v := 2) S.1 S.2.1 dX8_additive_189 (by decide) ?_
            refine lv_iconst (v := 5) S.1 S.2.1 dX8_additive_190 (by decide) ?_
            refine lv_iconst (v := 1) S.1 S.2.1 dX8_additive_191 (by decide) ?_
            refine lv_lload_n S.1 S.2.1 dX8_additive_192 rfl (lv_at hl 2 rfl) ?_
            refine lv_lload_n S.1 S.2.1 dX8_additive_193 rfl (lv_at hl 3 rfl) ?_
            refine lv_lload_n S.1 S.2.1 dX8_additive_194 rfl (lv_at hl 2 rfl) ?_
            refine lv_iconst (v := 2) S.1 S.2.1 dX8_additive_195 (by decide) ?_
            obtain ⟨v19, ev19, h⟩ := ob_s h
            refine pm_cS (As := [.long l3, .long l1, .int (2 : Int32)]) (rest := [.long l1, .int (1 : Int32), .int (5 : Int32), .int (2 : Int32), .int (0 : Int32), .int (5 : Int32), .ref th]) S (c_X8_without l l3 l1 (2 : Int32) v19 ev19) sm_X8_without mw_4_172 ⟨⟨rfl, rfl⟩, by decide, by decide⟩ rfl hl.1 rfl (Nat.le_of_ble_eq_true rfl) ⟨Nat.zero_le _, Nat.zero_le _⟩ dX8_additive_196 ?_
            refine lv_lload S.1 S.2.1 dX8_additive_199 (lv_at hl 4 rfl) ?_
            refine lv_lload_n S.1 S.2.1 dX8_additive_201 rfl (lv_at hl 2 rfl) ?_
            refine lv_iconst (v := 3) S.1 S.2.1 dX8_additive_202 (by decide) ?_
            obtain ⟨v20, ev20, h⟩ := ob_s h
            refine pm_cS (As := [.long l5, .long l1, .int (3 : Int32)]) (rest := [.long v19, .long l1, .int (1 : Int32), .int (5 : Int32), .int (2 : Int32), .int (0 : Int32), .int (5 : Int32), .ref th]) S (c_X8_without l l5 l1 (3 : Int32) v20 ev20) sm_X8_without mw_4_172 ⟨⟨rfl, rfl⟩, by decide, by decide⟩ rfl hl.1 rfl (Nat.le_of_ble_eq_true rfl) ⟨Nat.zero_le _, Nat.zero_le _⟩ dX8_additive_203 ?_
            obtain ⟨v21, ev21, h⟩ := ob_s h
            refine pm_cS (As := [.long l1, .long v19, .long v20]) (rest := [.int (1 : Int32), .int (5 : Int32), .int (2 : Int32), .int (0 : Int32), .int (5 : Int32), .ref th]) S (c_X8_cubicRoots l l1 v19 v20 v21 ev21) sm_X8_cubicRoots mw_4_191 ⟨⟨rfl, rfl⟩, by decide, by decide⟩ rfl hl.1 rfl (Nat.le_of_ble_eq_true rfl) ⟨Nat.zero_le _, Nat.zero_le _⟩ dX8_additive_206 ?_
            refine lv_iadd S.1 S.2.1 dX8_additive_209 ?_
            refine lv_iload S.1 S.2.1 dX8_additive_210 (lv_at hl 6 rfl) ?_
            obtain ⟨z22, ez22, h⟩ := ob_s h
            refine pm_cVv (As := [.int (5 : Int32), .int (0 : Int32), .int (2 : Int32), .int (5 : Int32), .int ((1 : Int32) + v21), .int l9]) (rest := []) S hK hX hP hS (c_X8_is l ev z E hth th (5 : Int32) (0 : Int32) (2 : Int32) (5 : Int32) ((1 : Int32) + v21) l9 z22 ez22) vm_X8_is mw_4_175 (rc_6 hK hP hth) ⟨⟨rfl, rfl⟩, by decide, by decide⟩ rfl hl.1 rfl (Nat.le_of_ble_eq_true rfl) ⟨Nat.zero_le _, Nat.zero_le _⟩ dX8_additive_212 (fun H locs hP hS => ?_)
            refine lv_goto (tgt := 295) S.1 S.2.1 dX8_additive_215 (by decide) ?_
            exact pm_vretW S hr hlk hP hS (Option.some.inj h) dX8_additive_295
        · rw [if_pos c9] at h
          refine lv_aload_n S.1 S.2.1 dX8_additive_147 rfl (lv_at hl 1 rfl) ?_
          refine lv_iconst (v := 4) S.1 S.2.1 dX8_additive_148 (by decide) ?_
          refine lv_iconst (v := 0) S.1 S.2.1 dX8_additive_149 (by decide) ?_
          refine lv_iconst (v := 2) S.1 S.2.1 dX8_additive_150 (by decide) ?_
          refine lv_iconst (v := 3) S.1 S.2.1 dX8_additive_151 (by decide) ?_
          refine lv_iconst (v := 2) S.1 S.2.1 dX8_additive_152 (by decide) ?_
          refine pm_ldc2 S mw_4_190 dX8_additive_153 ?_
          refine lv_lload S.1 S.2.1 dX8_additive_156 (lv_at hl 4 rfl) ?_
          refine lv_lload_n S.1 S.2.1 dX8_additive_158 rfl (lv_at hl 2 rfl) ?_
          refine lv_iconst (v := 2) S.1 S.2.1 dX8_additive_159 (by decide) ?_
          obtain ⟨v23, ev23, h⟩ := ob_s h
          refine pm_cS (As := [.long l5, .long l1, .int (2 : Int32)]) (rest := [.long (-6 : Int64), .int (2 : Int32), .int (3 : Int32), .int (2 : Int32), .int (0 : Int32), .int (4 : Int32), .ref th]) S (c_X8_without l l5 l1 (2 : Int32) v23 ev23) sm_X8_without mw_4_172 ⟨⟨rfl, rfl⟩, by decide, by decide⟩ rfl hl.1 rfl (Nat.le_of_ble_eq_true rfl) ⟨Nat.zero_le _, Nat.zero_le _⟩ dX8_additive_160 ?_
          refine lv_lload_n S.1 S.2.1 dX8_additive_163 rfl (lv_at hl 2 rfl) ?_
          obtain ⟨hc24, h⟩ := ck_s h
          refine pm_lrem S hc24 dX8_additive_164 ?_
          refine lv_lmul S.1 S.2.1 dX8_additive_165 ?_
          refine lv_lload_n S.1 S.2.1 dX8_additive_166 rfl (lv_at hl 2 rfl) ?_
          obtain ⟨v25, ev25, h⟩ := ob_s h
          refine pm_cS (As := [.long ((-6 : Int64) * (jr64 v23 l1)), .long l1]) (rest := [.int (2 : Int32), .int (3 : Int32), .int (2 : Int32), .int (0 : Int32), .int (4 : Int32), .ref th]) S (c_X8_square l ((-6 : Int64) * (jr64 v23 l1)) l1 v25 ev25) sm_X8_square mw_4_180 ⟨⟨rfl, rfl⟩, by decide, by decide⟩ rfl hl.1 rfl (Nat.le_of_ble_eq_true rfl) ⟨Nat.zero_le _, Nat.zero_le _⟩ dX8_additive_167 ?_
          refine lv_iadd S.1 S.2.1 dX8_additive_170 ?_
          refine lv_iload S.1 S.2.1 dX8_additive_171 (lv_at hl 6 rfl) ?_
          obtain ⟨z26, ez26, h⟩ := ob_s h
          refine pm_cVv (As := [.int (4 : Int32), .int (0 : Int32), .int (2 : Int32), .int (3 : Int32), .int ((2 : Int32) + v25), .int l9]) (rest := []) S hK hX hP hS (c_X8_is l ev z E hth th (4 : Int32) (0 : Int32) (2 : Int32) (3 : Int32) ((2 : Int32) + v25) l9 z26 ez26) vm_X8_is mw_4_175 (rc_6 hK hP hth) ⟨⟨rfl, rfl⟩, by decide, by decide⟩ rfl hl.1 rfl (Nat.le_of_ble_eq_true rfl) ⟨Nat.zero_le _, Nat.zero_le _⟩ dX8_additive_173 (fun H locs hP hS => ?_)
          refine lv_goto (tgt := 295) S.1 S.2.1 dX8_additive_176 (by decide) ?_
          exact pm_vretW S hr hlk hP hS (Option.some.inj h) dX8_additive_295
      · rw [if_pos c8] at h
        refine lv_aload_n S.1 S.2.1 dX8_additive_127 rfl (lv_at hl 1 rfl) ?_
        refine lv_iconst (v := 3) S.1 S.2.1 dX8_additive_128 (by decide) ?_
        refine lv_iconst (v := 0) S.1 S.2.1 dX8_additive_129 (by decide) ?_
        refine lv_iconst (v := 2) S.1 S.2.1 dX8_additive_130 (by decide) ?_
        refine lv_iconst (v := 2) S.1 S.2.1 dX8_additive_131 (by decide) ?_
        refine lv_iconst (v := 2) S.1 S.2.1 dX8_additive_132 (by decide) ?_
        refine lv_iload S.1 S.2.1 dX8_additive_133 (lv_at hl 6 rfl) ?_
        obtain ⟨z27, ez27, h⟩ := ob_s h
        refine pm_cVv (As := [.int (3 : Int32), .int (0 : Int32), .int (2 : Int32), .int (2 : Int32), .int (2 : Int32), .int l9]) (rest := []) S hK hX hP hS (c_X8_is l ev z E hth th (3 : Int32) (0 : Int32) (2 : Int32) (2 : Int32) (2 : Int32) l9 z27 ez27) vm_X8_is mw_4_175 (rc_6 hK hP hth) ⟨⟨rfl, rfl⟩, by decide, by decide⟩ rfl hl.1 rfl (Nat.le_of_ble_eq_true rfl) ⟨Nat.zero_le _, Nat.zero_le _⟩ dX8_additive_135 (fun H locs hP hS => ?_)
        refine lv_goto (tgt := 295) S.1 S.2.1 dX8_additive_138 (by decide) ?_
        exact pm_vretW S hr hlk hP hS (Option.some.inj h) dX8_additive_295
    · rw [if_pos c7] at h
      refine lv_aload_n S.1 S.2.1 dX8_additive_107 rfl (lv_at hl 1 rfl) ?_
      refine lv_iconst (v := 2) S.1 S.2.1 dX8_additive_108 (by decide) ?_
      refine lv_iconst (v := 0) S.1 S.2.1 dX8_additive_109 (by decide) ?_
      refine lv_iconst (v := 2) S.1 S.2.1 dX8_additive_110 (by decide) ?_
      refine lv_iconst (v := 1) S.1 S.2.1 dX8_additive_111 (by decide) ?_
      refine lv_iconst (v := 1) S.1 S.2.1 dX8_additive_112 (by decide) ?_
      refine lv_iload S.1 S.2.1 dX8_additive_113 (lv_at hl 6 rfl) ?_
      obtain ⟨z28, ez28, h⟩ := ob_s h
      refine pm_cVv (As := [.int (2 : Int32), .int (0 : Int32), .int (2 : Int32), .int (1 : Int32), .int (1 : Int32), .int l9]) (rest := []) S hK hX hP hS (c_X8_is l ev z E hth th (2 : Int32) (0 : Int32) (2 : Int32) (1 : Int32) (1 : Int32) l9 z28 ez28) vm_X8_is mw_4_175 (rc_6 hK hP hth) ⟨⟨rfl, rfl⟩, by decide, by decide⟩ rfl hl.1 rfl (Nat.le_of_ble_eq_true rfl) ⟨Nat.zero_le _, Nat.zero_le _⟩ dX8_additive_115 (fun H locs hP hS => ?_)
      refine lv_goto (tgt := 295) S.1 S.2.1 dX8_additive_118 (by decide) ?_
      exact pm_vretW S hr hlk hP hS (Option.some.inj h) dX8_additive_295
  · rw [if_neg c6] at h
    refine lv_lload S.1 S.2.1 dX8_additive_38 (lv_at hl 5 rfl) ?_
    refine lv_lload_n S.1 S.2.1 dX8_additive_40 rfl (lv_at hl 2 rfl) ?_
    refine lv_iload S.1 S.2.1 dX8_additive_41 (lv_at hl 6 rfl) ?_
    obtain ⟨v29, ev29, h⟩ := ob_s h
    refine pm_cS (As := [.long l7, .long l1, .int l9]) (rest := []) S (c_X8_without l l7 l1 l9 v29 ev29) sm_X8_without mw_4_172 ⟨⟨rfl, rfl⟩, by decide, by decide⟩ rfl hl.1 rfl (Nat.le_of_ble_eq_true rfl) ⟨Nat.zero_le _, Nat.zero_le _⟩ dX8_additive_43 ?_
    refine lv_lload_n S.1 S.2.1 dX8_additive_46 rfl (lv_at hl 2 rfl) ?_
    obtain ⟨hc30, h⟩ := ck_s h
    refine pm_lrem S hc30 dX8_additive_47 ?_
    refine lv_iload S.1 S.2.1 dX8_additive_48 (lv_at hl 6 rfl) ?_
    refine lv_iconst (v := 2) S.1 S.2.1 dX8_additive_50 (by decide) ?_
    refine pm_irem S (by decide) dX8_additive_51 ?_
    refine lv_iconst (v := 1) S.1 S.2.1 dX8_additive_52 (by decide) ?_
    refine lv_icmp_ne (tgt := 68) S.1 S.2.1 dX8_additive_53 (by decide) (fun c31 => ?_) (fun c31 => ?_)
    · rw [if_neg c31] at h
      refine lv_lconst (v := 1) S.1 S.2.1 dX8_additive_68 (by decide) ?_
      exact w_X8_additive_69 S hr hlk E hK hX hth l1 l9 (1 : Int64) (jr64 v29 l1) z ls _ _ h (lv_sub hl [1, 2, 6] rfl) hP hS
    · rw [if_pos c31] at h
      refine lv_lload S.1 S.2.1 dX8_additive_56 (lv_at hl 4 rfl) ?_
      refine lv_lload_n S.1 S.2.1 dX8_additive_58 rfl (lv_at hl 2 rfl) ?_
      refine lv_iconst (v := 3) S.1 S.2.1 dX8_additive_59 (by decide) ?_
      obtain ⟨v32, ev32, h⟩ := ob_s h
      refine pm_cS (As := [.long l5, .long l1, .int (3 : Int32)]) (rest := [.long (jr64 v29 l1)]) S (c_X8_without l l5 l1 (3 : Int32) v32 ev32) sm_X8_without mw_4_172 ⟨⟨rfl, rfl⟩, by decide, by decide⟩ rfl hl.1 rfl (Nat.le_of_ble_eq_true rfl) ⟨Nat.zero_le _, Nat.zero_le _⟩ dX8_additive_60 ?_
      refine lv_lload_n S.1 S.2.1 dX8_additive_63 rfl (lv_at hl 2 rfl) ?_
      obtain ⟨hc33, h⟩ := ck_s h
      refine pm_lrem S hc33 dX8_additive_64 ?_
      refine lv_goto (tgt := 69) S.1 S.2.1 dX8_additive_65 (by decide) ?_
      exact w_X8_additive_69 S hr hlk E hK hX hth l1 l9 (jr64 v32 l1) (jr64 v29 l1) z ls _ _ h (lv_sub hl [1, 2, 6] rfl) hP hS
def q_X8_additive_30 (ev : EV) (th : Nat) (l1 : Int64) (l3 : Int64) (l5 : Int64) (l7 : Int64) (l9 : Int32) (z : PS) : Option PS := q_X8_additive_31 ev th l1 l3 l5 l7 l9 (0 : Int32) z
set_option maxRecDepth 20000 in
set_option maxHeartbeats 4000000 in
theorem w_X8_additive_30 {ev : EV} {th : Nat} {p : Program} {l : Launch} {e : Env} {s : State} {m : MethodId} {args : Array Value} {below : List Frame} {meth : Method} {c : Code} {z9 : PS} (S : CallFix p m c cX8_additive 13 s args gT RX8) (hr : meth.sig.returnType = none) (hlk : meth.locks = false) (E : EWF ev) (hK : KK ev s) (hX : pXt ev s) (hth : isK ev 6 th) : ∀ (l1 : Int64) (l3 : Int64) (l5 : Int64) (l7 : Int64) (l9 : Int32) (z : PS) (ls : Array Slot) (H : Heap) (locs : List Loc), q_X8_additive_30 ev th l1 l3 l5 l7 l9 z = some z9 → lv_has ls 13 [(0, .ref th), (1, .long l1), (3, .long l3), (5, .long l5), (7, .long l7), (9, .int l9)] → Wd ev z H → SS ev s H locs → W p l e (pR 2 81) s m args below meth c H locs 0 0 (MQ below (pQv ev z9) args s 0 0 (eA ev)) (F0 m 30 ls []) := by
  intro l1 l3 l5 l7 l9 z ls H locs h hl hP hS
  unfold q_X8_additive_30 at h
  refine lv_iconst (v := 0) S.1 S.2.1 dX8_additive_30 (by decide) ?_
  exact w_X8_additive_31 S hr hlk E hK hX hth l1 l3 l5 l7 l9 (0 : Int32) z ls _ _ h (lv_sub hl [0, 1, 2, 3, 4, 5] rfl) hP hS
def g_X8_additive (ev : EV) (z : PS) (th : Nat) (l1 : Int64) (l3 : Int64) (l5 : Int64) (l7 : Int64) (l9 : Int32) : Option PS := if l9 ≤ (6 : Int32) then (q_X8_additive_30 ev th l1 l3 l5 l7 l9 z) else (ob (g_X8_times l1 l3) (fun v2 => if v2 = (2 : Int32) then (ob (g_X8_times l1 l5) (fun v4 => if v4 = (3 : Int32) then (q_X8_additive_31 ev th l1 l3 l5 l7 l9 (1 : Int32) z) else (q_X8_additive_30 ev th l1 l3 l5 l7 l9 z))) else (q_X8_additive_30 ev th l1 l3 l5 l7 l9 z)))
set_option maxRecDepth 20000 in
set_option maxHeartbeats 4000000 in
theorem c_X8_additive (l : Launch) (ev : EV) (z : PS) (E : EWF ev) {th : Nat} (hth : isK ev 6 th) (th_ : Nat) (l1 : Int64) (l3 : Int64) (l5 : Int64) (l7 : Int64) (l9 : Int32) (z9 : PS) (h : g_X8_additive ev z th l1 l3 l5 l7 l9 = some z9) : Met l yX8_additive (pWs yX8_additive cX8_additive 13 none) (pR 2 81) (va_Pc [.ref th, .long l1, .long l3, .long l5, .long l7, .int l9] (pPe ev z)) (pQv ev z9) 0 0 (eA ev) := by
  refine pm_of (by decide) (Nat.le_of_ble_eq_true rfl) ?_
  intro p e s m below meth c S hr hlk hv ls hl
  obtain ⟨hP, hK, hX⟩ := hv
  have hS : SS ev s s.heap [] := va_S.rf
  have hl : lv_has ls 13 [(0, .ref th), (1, .long l1), (3, .long l3), (5, .long l5), (7, .long l7), (9, .int l9)] := hl
  unfold g_X8_additive at h
  refine lv_iload S.1 S.2.1 dX8_additive_0 (lv_at hl 5 rfl) ?_
  refine lv_bipush (v := 6) S.1 S.2.1 dX8_additive_2 (by decide) ?_
  refine lv_icmp_le (tgt := 30) S.1 S.2.1 dX8_additive_4 (by decide) (fun c1 => ?_) (fun c1 => ?_)
  · rw [if_pos c1] at h
    exact w_X8_additive_30 S hr hlk E hK hX hth l1 l3 l5 l7 l9 z ls _ _ h (lv_sub hl [0, 1, 2, 3, 4, 5] rfl) hP hS
  · rw [if_neg c1] at h
    refine lv_lload_n S.1 S.2.1 dX8_additive_7 rfl (lv_at hl 1 rfl) ?_
    refine lv_lload_n S.1 S.2.1 dX8_additive_8 rfl (lv_at hl 2 rfl) ?_
    obtain ⟨v2, ev2, h⟩ := ob_s h
    refine pm_cS (As := [.long l1, .long l3]) (rest := []) S (c_X8_times l l1 l3 v2 ev2) sm_X8_times mw_4_166 ⟨⟨rfl, rfl⟩, by decide, by decide⟩ rfl hl.1 rfl (Nat.le_of_ble_eq_true rfl) ⟨Nat.zero_le _, Nat.zero_le _⟩ dX8_additive_9 ?_
    refine lv_iconst (v := 2) S.1 S.2.1 dX8_additive_12 (by decide) ?_
    refine lv_icmp_ne (tgt := 30) S.1 S.2.1 dX8_additive_13 (by decide) (fun c3 => ?_) (fun c3 => ?_)
    · rw [if_neg c3] at h
      exact w_X8_additive_30 S hr hlk E hK hX hth l1 l3 l5 l7 l9 z ls _ _ h (lv_sub hl [0, 1, 2, 3, 4, 5] rfl) hP hS
    · rw [if_pos c3] at h
      refine lv_lload_n S.1 S.2.1 dX8_additive_16 rfl (lv_at hl 1 rfl) ?_
      refine lv_lload S.1 S.2.1 dX8_additive_17 (lv_at hl 3 rfl) ?_
      obtain ⟨v4, ev4, h⟩ := ob_s h
      refine pm_cS (As := [.long l1, .long l5]) (rest := []) S (c_X8_times l l1 l5 v4 ev4) sm_X8_times mw_4_166 ⟨⟨rfl, rfl⟩, by decide, by decide⟩ rfl hl.1 rfl (Nat.le_of_ble_eq_true rfl) ⟨Nat.zero_le _, Nat.zero_le _⟩ dX8_additive_19 ?_
      refine lv_iconst (v := 3) S.1 S.2.1 dX8_additive_22 (by decide) ?_
      refine lv_icmp_ne (tgt := 30) S.1 S.2.1 dX8_additive_23 (by decide) (fun c5 => ?_) (fun c5 => ?_)
      · rw [if_neg c5] at h
        exact w_X8_additive_30 S hr hlk E hK hX hth l1 l3 l5 l7 l9 z ls _ _ h (lv_sub hl [0, 1, 2, 3, 4, 5] rfl) hP hS
      · rw [if_pos c5] at h
        refine lv_iconst (v := 1) S.1 S.2.1 dX8_additive_26 (by decide) ?_
        refine lv_goto (tgt := 31) S.1 S.2.1 dX8_additive_27 (by decide) ?_
        exact w_X8_additive_31 S hr hlk E hK hX hth l1 l3 l5 l7 l9 (1 : Int32) z ls _ _ h (lv_sub hl [0, 1, 2, 3, 4, 5] rfl) hP hS
theorem vm_X8_additive : pm_Vm yX8_additive cX8_additive 13 none 5 := ⟨mw_4_189, mw_4_188, ms_587, mw_1_7, by decide, by decide⟩
def q_X8_fallsFar_163 (ev : EV) (th : Nat) (l10 : Int32) (t0 : Int32) (z : PS) : Option PS := if t0 = (1 : Int32) then (ob (g_X8_is ev z th (1 : Int32) l10 (1 : Int32) l10 l10 l10) (fun z29 => bd (wI z29 (rf ev 127 th) 6 t0) (fun z30 => some z30))) else (if (jr32 l10 (2 : Int32)) = 0 then (ob (g_X8_is ev z th (1 : Int32) l10 (1 : Int32) l10 (2 : Int32) l10) (fun z27 => bd (wI z27 (rf ev 127 th) 6 t0) (fun z28 => some z28))) else (ob (g_X8_is ev z th (1 : Int32) l10 (1 : Int32) l10 (1 : Int32) l10) (fun z25 => bd (wI z25 (rf ev 127 th) 6 t0) (fun z26 => some z26))))
set_option maxRecDepth 20000 in
set_option maxHeartbeats 4000000 in
theorem w_X8_fallsFar_163 {ev : EV} {th : Nat} {p : Program} {l : Launch} {e : Env} {s : State} {m : MethodId} {args : Array Value} {below : List Frame} {meth : Method} {c : Code} {z9 : PS} (S : CallFix p m c cX8_fallsFar 12 s args gT RX8) (hr : meth.sig.returnType = none) (hlk : meth.locks = false) (E : EWF ev) (hK : KK ev s) (hX : pXt ev s) (hth : isK ev 6 th) : ∀ (l10 : Int32) (t0 : Int32) (z : PS) (ls : Array Slot) (H : Heap) (locs : List Loc), q_X8_fallsFar_163 ev th l10 t0 z = some z9 → lv_has ls 12 [(0, .ref th), (10, .int l10)] → Wd ev z H → SS ev s H locs → W p l e (pR 3 125) s m args below meth c H locs 0 0 (MQ below (pQv ev z9) args s 0 0 (eA ev)) (F0 m 163 ls [.int t0]) := by
  intro l10 t0 z ls H locs h hl hP hS
  unfold q_X8_fallsFar_163 at h
  refine lv_istore (lv' := [(11, .int t0), (0, .ref th), (10, .int l10)]) S.1 S.2.1 dX8_fallsFar_163 hl (by decide) rfl (fun ls hl => ?_)
  refine lv_aload_n S.1 S.2.1 dX8_fallsFar_165 rfl (lv_at hl 1 rfl) ?_
  refine lv_iconst (v := 1) S.1 S.2.1 dX8_fallsFar_166 (by decide) ?_
  refine lv_iload S.1 S.2.1 dX8_fallsFar_167 (lv_at hl 2 rfl) ?_
  refine lv_iconst (v := 1) S.1 S.2.1 dX8_fallsFar_169 (by decide) ?_
  refine lv_iload S.1 S.2.1 dX8_fallsFar_170 (lv_at hl 2 rfl) ?_
  refine lv_iload S.1 S.2.1 dX8_fallsFar_172 (lv_at hl 0 rfl) ?_
  refine lv_iconst (v := 1) S.1 S.2.1 dX8_fallsFar_174 (by decide) ?_
  refine lv_icmp_ne (tgt := 183) S.1 S.2.1 dX8_fallsFar_175 (by decide) (fun c23 => ?_) (fun c23 => ?_)
  · rw [if_neg c23] at h
    refine lv_iload S.1 S.2.1 dX8_fallsFar_183 (lv_at hl 2 rfl) ?_
    refine lv_iconst (v := 2) S.1 S.2.1 dX8_fallsFar_185 (by decide) ?_
    refine pm_irem S (by decide) dX8_fallsFar_186 ?_
    refine lv_if_ne (tgt := 194) S.1 S.2.1 dX8_fallsFar_187 (by decide) (fun c24 => ?_) (fun c24 => ?_)
    · rw [if_neg c24] at h
      refine lv_iconst (v := 1) S.1 S.2.1 dX8_fallsFar_194 (by decide) ?_
      refine lv_iload S.1 S.2.1 dX8_fallsFar_195 (lv_at hl 2 rfl) ?_
      obtain ⟨z25, ez25, h⟩ := ob_s h
      refine pm_cVv (As := [.int (1 : Int32), .int l10, .int (1 : Int32), .int l10, .int (1 : Int32), .int l10]) (rest := []) S hK hX hP hS (c_X8_is l ev z E hth th (1 : Int32) l10 (1 : Int32) l10 (1 : Int32) l10 z25 ez25) vm_X8_is mw_4_175 (rc_6 hK hP hth) ⟨⟨rfl, rfl⟩, by decide, by decide⟩ rfl hl.1 rfl (Nat.le_of_ble_eq_true rfl) ⟨Nat.zero_le _, Nat.zero_le _⟩ dX8_fallsFar_197 (fun H locs hP hS => ?_)
      refine lv_aload_n S.1 S.2.1 dX8_fallsFar_200 rfl (lv_at hl 1 rfl) ?_
      refine gf_6_7 S hK hP hth mw_3_228 dX8_fallsFar_201 ?_
      refine lv_bipush (v := 6) S.1 S.2.1 dX8_fallsFar_204 (by decide) ?_
      refine lv_iload S.1 S.2.1 dX8_fallsFar_206 (lv_at hl 0 rfl) ?_
      obtain ⟨z26, ez26, h⟩ := bd_s h
      refine as_I S E hK hP hS (E_6_7 E hth) (by rw [N_6_7 E hth]; decide) dX8_fallsFar_208 (fun H locs hP hS => ?_)
      have hP : Wd ev (wI z25 (rf ev 127 th) 6 t0) H := hP
      rw [← ez26] at hP
      refine lv_goto (tgt := 224) S.1 S.2.1 dX8_fallsFar_209 (by decide) ?_
      exact pm_vretW S hr hlk hP hS (Option.some.inj h) dX8_fallsFar_224
    · rw [if_pos c24] at h
      refine lv_iconst (v := 2) S.1 S.2.1 dX8_fallsFar_190 (by decide) ?_
      refine lv_goto (tgt := 195) S.1 S.2.1 dX8_fallsFar_191 (by decide) ?_
      refine lv_iload S.1 S.2.1 dX8_fallsFar_195 (lv_at hl 2 rfl) ?_
      obtain ⟨z27, ez27, h⟩ := ob_s h
      refine pm_cVv (As := [.int (1 : Int32), .int l10, .int (1 : Int32), .int l10, .int (2 : Int32), .int l10]) (rest := []) S hK hX hP hS (c_X8_is l ev z E hth th (1 : Int32) l10 (1 : Int32) l10 (2 : Int32) l10 z27 ez27) vm_X8_is mw_4_175 (rc_6 hK hP hth) ⟨⟨rfl, rfl⟩, by decide, by decide⟩ rfl hl.1 rfl (Nat.le_of_ble_eq_true rfl) ⟨Nat.zero_le _, Nat.zero_le _⟩ dX8_fallsFar_197 (fun H locs hP hS => ?_)
      refine lv_aload_n S.1 S.2.1 dX8_fallsFar_200 rfl (lv_at hl 1 rfl) ?_
      refine gf_6_7 S hK hP hth mw_3_228 dX8_fallsFar_201 ?_
      refine lv_bipush (v := 6) S.1 S.2.1 dX8_fallsFar_204 (by decide) ?_
      refine lv_iload S.1 S.2.1 dX8_fallsFar_206 (lv_at hl 0 rfl) ?_
      obtain ⟨z28, ez28, h⟩ := bd_s h
      refine as_I S E hK hP hS (E_6_7 E hth) (by rw [N_6_7 E hth]; decide) dX8_fallsFar_208 (fun H locs hP hS => ?_)
      have hP : Wd ev (wI z27 (rf ev 127 th) 6 t0) H := hP
      rw [← ez28] at hP
      refine lv_goto (tgt := 224) S.1 S.2.1 dX8_fallsFar_209 (by decide) ?_
      exact pm_vretW S hr hlk hP hS (Option.some.inj h) dX8_fallsFar_224
  · rw [if_pos c23] at h
    refine lv_iload S.1 S.2.1 dX8_fallsFar_178 (lv_at hl 2 rfl) ?_
    refine lv_goto (tgt := 195) S.1 S.2.1 dX8_fallsFar_180 (by decide) ?_
    refine lv_iload S.1 S.2.1 dX8_fallsFar_195 (lv_at hl 2 rfl) ?_
    obtain ⟨z29, ez29, h⟩ := ob_s h
    refine pm_cVv (As := [.int (1 : Int32), .int l10, .int (1 : Int32), .int l10, .int l10, .int l10]) (rest := []) S hK hX hP hS (c_X8_is l ev z E hth th (1 : Int32) l10 (1 : Int32) l10 l10 l10 z29 ez29) vm_X8_is mw_4_175 (rc_6 hK hP hth) ⟨⟨rfl, rfl⟩, by decide, by decide⟩ rfl hl.1 rfl (Nat.le_of_ble_eq_true rfl) ⟨Nat.zero_le _, Nat.zero_le _⟩ dX8_fallsFar_197 (fun H locs hP hS => ?_)
    refine lv_aload_n S.1 S.2.1 dX8_fallsFar_200 rfl (lv_at hl 1 rfl) ?_
    refine gf_6_7 S hK hP hth mw_3_228 dX8_fallsFar_201 ?_
    refine lv_bipush (v := 6) S.1 S.2.1 dX8_fallsFar_204 (by decide) ?_
    refine lv_iload S.1 S.2.1 dX8_fallsFar_206 (lv_at hl 0 rfl) ?_
    obtain ⟨z30, ez30, h⟩ := bd_s h
    refine as_I S E hK hP hS (E_6_7 E hth) (by rw [N_6_7 E hth]; decide) dX8_fallsFar_208 (fun H locs hP hS => ?_)
    have hP : Wd ev (wI z29 (rf ev 127 th) 6 t0) H := hP
    rw [← ez30] at hP
    refine lv_goto (tgt := 224) S.1 S.2.1 dX8_fallsFar_209 (by decide) ?_
    exact pm_vretW S hr hlk hP hS (Option.some.inj h) dX8_fallsFar_224
def q_X8_fallsFar_147 (ev : EV) (th : Nat) (l1 : Int64) (l5 : Int64) (l10 : Int32) (z : PS) : Option PS := ob (g_X8_square (-l5) l1) (fun v21 => if v21 = (1 : Int32) then (q_X8_fallsFar_163 ev th l10 (1 : Int32) z) else (q_X8_fallsFar_163 ev th l10 (0 : Int32) z))
set_option maxRecDepth 20000 in
set_option maxHeartbeats 4000000 in
theorem w_X8_fallsFar_147 {ev : EV} {th : Nat} {p : Program} {l : Launch} {e : Env} {s : State} {m : MethodId} {args : Array Value} {below : List Frame} {meth : Method} {c : Code} {z9 : PS} (S : CallFix p m c cX8_fallsFar 12 s args gT RX8) (hr : meth.sig.returnType = none) (hlk : meth.locks = false) (E : EWF ev) (hK : KK ev s) (hX : pXt ev s) (hth : isK ev 6 th) : ∀ (l1 : Int64) (l5 : Int64) (l10 : Int32) (z : PS) (ls : Array Slot) (H : Heap) (locs : List Loc), q_X8_fallsFar_147 ev th l1 l5 l10 z = some z9 → lv_has ls 12 [(0, .ref th), (1, .long l1), (5, .long l5), (10, .int l10)] → Wd ev z H → SS ev s H locs → W p l e (pR 3 125) s m args below meth c H locs 0 0 (MQ below (pQv ev z9) args s 0 0 (eA ev)) (F0 m 147 ls []) := by
  intro l1 l5 l10 z ls H locs h hl hP hS
  unfold q_X8_fallsFar_147 at h
  refine lv_lload S.1 S.2.1 dX8_fallsFar_147 (lv_at hl 2 rfl) ?_
  refine lv_lneg S.1 S.2.1 dX8_fallsFar_149 ?_
  refine lv_lload_n S.1 S.2.1 dX8_fallsFar_150 rfl (lv_at hl 1 rfl) ?_
  obtain ⟨v21, ev21, h⟩ := ob_s h
  refine pm_cS (As := [.long (-l5), .long l1]) (rest := []) S (c_X8_square l (-l5) l1 v21 ev21) sm_X8_square mw_4_180 ⟨⟨rfl, rfl⟩, by decide, by decide⟩ rfl hl.1 rfl (Nat.le_of_ble_eq_true rfl) ⟨Nat.zero_le _, Nat.zero_le _⟩ dX8_fallsFar_151 ?_
  refine lv_iconst (v := 1) S.1 S.2.1 dX8_fallsFar_154 (by decide) ?_
  refine lv_icmp_ne (tgt := 162) S.1 S.2.1 dX8_fallsFar_155 (by decide) (fun c22 => ?_) (fun c22 => ?_)
  · rw [if_neg c22] at h
    refine lv_iconst (v := 0) S.1 S.2.1 dX8_fallsFar_162 (by decide) ?_
    exact w_X8_fallsFar_163 S hr hlk E hK hX hth l10 (0 : Int32) z ls _ _ h (lv_sub hl [0, 3] rfl) hP hS
  · rw [if_pos c22] at h
    refine lv_iconst (v := 1) S.1 S.2.1 dX8_fallsFar_158 (by decide) ?_
    refine lv_goto (tgt := 163) S.1 S.2.1 dX8_fallsFar_159 (by decide) ?_
    exact w_X8_fallsFar_163 S hr hlk E hK hX hth l10 (1 : Int32) z ls _ _ h (lv_sub hl [0, 3] rfl) hP hS
def g_X8_fallsFar (ev : EV) (z : PS) (th : Nat) (l1 : Int64) : Option PS := ob (g_X8_c4 ev z th) (fun v1 => ob (g_X8_c6 ev z th) (fun v2 => ob (g_X8_disc ev z th) (fun v3 => ob (g_X8_times l1 v1) (fun v4 => ob (g_X8_times l1 v2) (fun v5 => ob (g_X8_lesser (v4 / (4 : Int32)) (v5 / (6 : Int32))) (fun v6 => ob (g_X8_times l1 v3) (fun v7 => ob (g_X8_lesser v6 (v7 / (12 : Int32))) (fun v8 => ob (g_X8_without v1 l1 ((4 : Int32) * v8)) (fun v9 => ob (g_X8_without v2 l1 ((6 : Int32) * v8)) (fun v10 => ob (g_X8_without v3 l1 ((12 : Int32) * v8)) (fun v11 => bd (wI z (rf ev 127 th) 7 v8) (fun z12 => ob (g_X8_times l1 v11) (fun v13 => if v13 = 0 then (ob (g_X8_is ev z12 th (0 : Int32) (0 : Int32) (0 : Int32) (1 : Int32) (1 : Int32) (0 : Int32)) (fun z20 => some z20)) else (ob (g_X8_times l1 v9) (fun v15 => if v15 = 0 then (if v13 = (1 : Int32) then (if l1 ≤ (999983 : Int64) then (q_X8_fallsFar_147 ev th l1 v10 v13 z12) else (q_X8_fallsFar_163 ev th v13 (0 : Int32) z12)) else (q_X8_fallsFar_147 ev th l1 v10 v13 z12)) else (ob (g_X8_additive ev z12 th l1 v9 v10 v11 v13) (fun z17 => some z17)))))))))))))))))
set_option maxRecDepth 20000 in
set_option maxHeartbeats 4000000 in
theorem c_X8_fallsFar (l : Launch) (ev : EV) (z : PS) (E : EWF ev) {th : Nat} (hth : isK ev 6 th) (th_ : Nat) (l1 : Int64) (z9 : PS) (h : g_X8_fallsFar ev z th l1 = some z9) : Met l yX8_fallsFar (pWs yX8_fallsFar cX8_fallsFar 12 none) (pR 3 125) (va_Pc [.ref th, .long l1] (pPe ev z)) (pQv ev z9) 0 0 (eA ev) := by
  refine pm_of (by decide) (Nat.le_of_ble_eq_true rfl) ?_
  intro p e s m below meth c S hr hlk hv ls hl
  obtain ⟨hP, hK, hX⟩ := hv
  have hS : SS ev s s.heap [] := va_S.rf
  have hl : lv_has ls 12 [(0, .ref th), (1, .long l1)] := hl
  unfold g_X8_fallsFar at h
  refine lv_aload_n S.1 S.2.1 dX8_fallsFar_0 rfl (lv_at hl 0 rfl) ?_
  obtain ⟨v1, ev1, h⟩ := ob_s h
  refine pm_cVr (As := []) (rest := []) S hK hX hP hS (c_X8_c4 l ev z E hth th v1 ev1) vm_X8_c4 mw_4_155 (rc_6 hK hP hth) ⟨⟨rfl, rfl⟩, by decide, by decide⟩ rfl hl.1 rfl (Nat.le_of_ble_eq_true rfl) ⟨Nat.zero_le _, Nat.zero_le _⟩ dX8_fallsFar_1 ?_
  refine lv_lstore_n (lv' := [(3, .long v1), (0, .ref th), (1, .long l1)]) S.1 S.2.1 dX8_fallsFar_4 rfl hl (by decide) rfl (fun ls hl => ?_)
  refine lv_aload_n S.1 S.2.1 dX8_fallsFar_5 rfl (lv_at hl 1 rfl) ?_
  obtain ⟨v2, ev2, h⟩ := ob_s h
  refine pm_cVr (As := []) (rest := []) S hK hX hP hS (c_X8_c6 l ev z E hth th v2 ev2) vm_X8_c6 mw_4_160 (rc_6 hK hP hth) ⟨⟨rfl, rfl⟩, by decide, by decide⟩ rfl hl.1 rfl (Nat.le_of_ble_eq_true rfl) ⟨Nat.zero_le _, Nat.zero_le _⟩ dX8_fallsFar_6 ?_
  refine lv_lstore (lv' := [(5, .long v2), (3, .long v1), (0, .ref th), (1, .long l1)]) S.1 S.2.1 dX8_fallsFar_9 hl (by decide) rfl (fun ls hl => ?_)
  refine lv_aload_n S.1 S.2.1 dX8_fallsFar_11 rfl (lv_at hl 2 rfl) ?_
  obtain ⟨v3, ev3, h⟩ := ob_s h
  refine pm_cVr (As := []) (rest := []) S hK hX hP hS (c_X8_disc l ev z E hth th v3 ev3) vm_X8_disc mw_4_46 (rc_6 hK hP hth) ⟨⟨rfl, rfl⟩, by decide, by decide⟩ rfl hl.1 rfl (Nat.le_of_ble_eq_true rfl) ⟨Nat.zero_le _, Nat.zero_le _⟩ dX8_fallsFar_12 ?_
  refine lv_lstore (lv' := [(7, .long v3), (5, .long v2), (3, .long v1), (0, .ref th), (1, .long l1)]) S.1 S.2.1 dX8_fallsFar_15 hl (by decide) rfl (fun ls hl => ?_)
  refine lv_lload_n S.1 S.2.1 dX8_fallsFar_17 rfl (lv_at hl 4 rfl) ?_
  refine lv_lload_n S.1 S.2.1 dX8_fallsFar_18 rfl (lv_at hl 2 rfl) ?_
  obtain ⟨v4, ev4, h⟩ := ob_s h
  refine pm_cS (As := [.long l1, .long v1]) (rest := []) S (c_X8_times l l1 v1 v4 ev4) sm_X8_times mw_4_166 ⟨⟨rfl, rfl⟩, by decide, by decide⟩ rfl hl.1 rfl (Nat.le_of_ble_eq_true rfl) ⟨Nat.zero_le _, Nat.zero_le _⟩ dX8_fallsFar_19 ?_
  refine lv_iconst (v := 4) S.1 S.2.1 dX8_fallsFar_22 (by decide) ?_
  refine lv_idiv S.1 S.2.1 dX8_fallsFar_23 (by decide) ?_
  refine lv_lload_n S.1 S.2.1 dX8_fallsFar_24 rfl (lv_at hl 4 rfl) ?_
  refine lv_lload S.1 S.2.1 dX8_fallsFar_25 (lv_at hl 1 rfl) ?_
  obtain ⟨v5, ev5, h⟩ := ob_s h
  refine pm_cS (As := [.long l1, .long v2]) (rest := [.int (v4 / (4 : Int32))]) S (c_X8_times l l1 v2 v5 ev5) sm_X8_times mw_4_166 ⟨⟨rfl, rfl⟩, by decide, by decide⟩ rfl hl.1 rfl (Nat.le_of_ble_eq_true rfl) ⟨Nat.zero_le _, Nat.zero_le _⟩ dX8_fallsFar_27 ?_
  refine lv_bipush (v := 6) S.1 S.2.1 dX8_fallsFar_30 (by decide) ?_
  refine lv_idiv S.1 S.2.1 dX8_fallsFar_32 (by decide) ?_
  obtain ⟨v6, ev6, h⟩ := ob_s h
  refine pm_cS (As := [.int (v4 / (4 : Int32)), .int (v5 / (6 : Int32))]) (rest := []) S (c_X8_lesser l (v4 / (4 : Int32)) (v5 / (6 : Int32)) v6 ev6) sm_X8_lesser mw_4_169 ⟨⟨rfl, rfl⟩, by decide, by decide⟩ rfl hl.1 rfl (Nat.le_of_ble_eq_true rfl) ⟨Nat.zero_le _, Nat.zero_le _⟩ dX8_fallsFar_33 ?_
  refine lv_lload_n S.1 S.2.1 dX8_fallsFar_36 rfl (lv_at hl 4 rfl) ?_
  refine lv_lload S.1 S.2.1 dX8_fallsFar_37 (lv_at hl 0 rfl) ?_
  obtain ⟨v7, ev7, h⟩ := ob_s h
  refine pm_cS (As := [.long l1, .long v3]) (rest := [.int v6]) S (c_X8_times l l1 v3 v7 ev7) sm_X8_times mw_4_166 ⟨⟨rfl, rfl⟩, by decide, by decide⟩ rfl hl.1 rfl (Nat.le_of_ble_eq_true rfl) ⟨Nat.zero_le _, Nat.zero_le _⟩ dX8_fallsFar_39 ?_
  refine lv_bipush (v := 12) S.1 S.2.1 dX8_fallsFar_42 (by decide) ?_
  refine lv_idiv S.1 S.2.1 dX8_fallsFar_44 (by decide) ?_
  obtain ⟨v8, ev8, h⟩ := ob_s h
  refine pm_cS (As := [.int v6, .int (v7 / (12 : Int32))]) (rest := []) S (c_X8_lesser l v6 (v7 / (12 : Int32)) v8 ev8) sm_X8_lesser mw_4_169 ⟨⟨rfl, rfl⟩, by decide, by decide⟩ rfl hl.1 rfl (Nat.le_of_ble_eq_true rfl) ⟨Nat.zero_le _, Nat.zero_le _⟩ dX8_fallsFar_45 ?_
  refine lv_istore (lv' := [(9, .int v8), (7, .long v3), (5, .long v2), (3, .long v1), (0, .ref th), (1, .long l1)]) S.1 S.2.1 dX8_fallsFar_48 hl (by decide) rfl (fun ls hl => ?_)
  refine lv_lload_n S.1 S.2.1 dX8_fallsFar_50 rfl (lv_at hl 3 rfl) ?_
  refine lv_lload_n S.1 S.2.1 dX8_fallsFar_51 rfl (lv_at hl 5 rfl) ?_
  refine lv_iconst (v := 4) S.1 S.2.1 dX8_fallsFar_52 (by decide) ?_
  refine lv_iload S.1 S.2.1 dX8_fallsFar_53 (lv_at hl 0 rfl) ?_
  refine lv_imul S.1 S.2.1 dX8_fallsFar_55 ?_
  obtain ⟨v9, ev9, h⟩ := ob_s h
  refine pm_cS (As := [.long v1, .long l1, .int ((4 : Int32) * v8)]) (rest := []) S (c_X8_without l v1 l1 ((4 : Int32) * v8) v9 ev9) sm_X8_without mw_4_172 ⟨⟨rfl, rfl⟩, by decide, by decide⟩ rfl hl.1 rfl (Nat.le_of_ble_eq_true rfl) ⟨Nat.zero_le _, Nat.zero_le _⟩ dX8_fallsFar_56 ?_
  refine lv_lstore_n (lv' := [(3, .long v9), (9, .int v8), (7, .long v3), (5, .long v2), (0, .ref th), (1, .long l1)]) S.1 S.2.1 dX8_fallsFar_59 rfl hl (by decide) rfl (fun ls hl => ?_)
  refine lv_lload S.1 S.2.1 dX8_fallsFar_60 (lv_at hl 3 rfl) ?_
  refine lv_lload_n S.1 S.2.1 dX8_fallsFar_62 rfl (lv_at hl 5 rfl) ?_
  refine lv_bipush (v := 6) S.1 S.2.1 dX8_fallsFar_63 (by decide) ?_
  refine lv_iload S.1 S.2.1 dX8_fallsFar_65 (lv_at hl 1 rfl) ?_
  refine lv_imul S.1 S.2.1 dX8_fallsFar_67 ?_
  obtain ⟨v10, ev10, h⟩ := ob_s h
  refine pm_cS (As := [.long v2, .long l1, .int ((6 : Int32) * v8)]) (rest := []) S (c_X8_without l v2 l1 ((6 : Int32) * v8) v10 ev10) sm_X8_without mw_4_172 ⟨⟨rfl, rfl⟩, by decide, by decide⟩ rfl hl.1 rfl (Nat.le_of_ble_eq_true rfl) ⟨Nat.zero_le _, Nat.zero_le _⟩ dX8_fallsFar_68 ?_
  refine lv_lstore (lv' := [(5, .long v10), (3, .long v9), (9, .int v8), (7, .long v3), (0, .ref th), (1, .long l1)]) S.1 S.2.1 dX8_fallsFar_71 hl (by decide) rfl (fun ls hl => ?_)
  refine lv_lload S.1 S.2.1 dX8_fallsFar_73 (lv_at hl 3 rfl) ?_
  refine lv_lload_n S.1 S.2.1 dX8_fallsFar_75 rfl (lv_at hl 5 rfl) ?_
  refine lv_bipush (v := 12) S.1 S.2.1 dX8_fallsFar_76 (by decide) ?_
  refine lv_iload S.1 S.2.1 dX8_fallsFar_78 (lv_at hl 2 rfl) ?_
  refine lv_imul S.1 S.2.1 dX8_fallsFar_80 ?_
  obtain ⟨v11, ev11, h⟩ := ob_s h
  refine pm_cS (As := [.long v3, .long l1, .int ((12 : Int32) * v8)]) (rest := []) S (c_X8_without l v3 l1 ((12 : Int32) * v8) v11 ev11) sm_X8_without mw_4_172 ⟨⟨rfl, rfl⟩, by decide, by decide⟩ rfl hl.1 rfl (Nat.le_of_ble_eq_true rfl) ⟨Nat.zero_le _, Nat.zero_le _⟩ dX8_fallsFar_81 ?_
  refine lv_lstore (lv' := [(7, .long v11), (5, .long v10), (3, .long v9), (9, .int v8), (0, .ref th), (1, .long l1)]) S.1 S.2.1 dX8_fallsFar_84 hl (by decide) rfl (fun ls hl => ?_)
  refine lv_aload_n S.1 S.2.1 dX8_fallsFar_86 rfl (lv_at hl 4 rfl) ?_
  refine gf_6_7 S hK hP hth mw_3_228 dX8_fallsFar_87 ?_
  refine lv_bipush (v := 7) S.1 S.2.1 dX8_fallsFar_90 (by decide) ?_
  refine lv_iload S.1 S.2.1 dX8_fallsFar_92 (lv_at hl 3 rfl) ?_
  obtain ⟨z12, ez12, h⟩ := bd_s h
  refine as_I S E hK hP hS (E_6_7 E hth) (by rw [N_6_7 E hth]; decide) dX8_fallsFar_94 (fun H locs hP hS => ?_)
  have hP : Wd ev (wI z (rf ev 127 th) 7 v8) H := hP
  rw [← ez12] at hP
  refine lv_lload_n S.1 S.2.1 dX8_fallsFar_95 rfl (lv_at hl 5 rfl) ?_
  refine lv_lload S.1 S.2.1 dX8_fallsFar_96 (lv_at hl 0 rfl) ?_
  obtain ⟨v13, ev13, h⟩ := ob_s h
  refine pm_cS (As := [.long l1, .long v11]) (rest := []) S (c_X8_times l l1 v11 v13 ev13) sm_X8_times mw_4_166 ⟨⟨rfl, rfl⟩, by decide, by decide⟩ rfl hl.1 rfl (Nat.le_of_ble_eq_true rfl) ⟨Nat.zero_le _, Nat.zero_le _⟩ dX8_fallsFar_98 ?_
  refine lv_istore (lv' := [(10, .int v13), (7, .long v11), (5, .long v10), (3, .long v9), (9, .int v8), (0, .ref th), (1, .long l1)]) S.1 S.2.1 dX8_fallsFar_101 hl (by decide) rfl (fun ls hl => ?_)
  refine lv_iload S.1 S.2.1 dX8_fallsFar_103 (lv_at hl 0 rfl) ?_
  refine lv_if_ne (tgt := 121) S.1 S.2.1 dX8_fallsFar_105 (by decide) (fun c14 => ?_) (fun c14 => ?_)
  · rw [if_neg c14] at h
    refine lv_lload_n S.1 S.2.1 dX8_fallsFar_121 rfl (lv_at hl 6 rfl) ?_
    refine lv_lload_n S.1 S.2.1 dX8_fallsFar_122 rfl (lv_at hl 3 rfl) ?_
    obtain ⟨v15, ev15, h⟩ := ob_s h
    refine pm_cS (As := [.long l1, .long v9]) (rest := []) S (c_X8_times l l1 v9 v15 ev15) sm_X8_times mw_4_166 ⟨⟨rfl, rfl⟩, by decide, by decide⟩ rfl hl.1 rfl (Nat.le_of_ble_eq_true rfl) ⟨Nat.zero_le _, Nat.zero_le _⟩ dX8_fallsFar_123 ?_
    refine lv_if_ne (tgt := 212) S.1 S.2.1 dX8_fallsFar_126 (by decide) (fun c16 => ?_) (fun c16 => ?_)
    · rw [if_neg c16] at h
      refine lv_aload_n S.1 S.2.1 dX8_fallsFar_212 rfl (lv_at hl 5 rfl) ?_
      refine lv_lload_n S.1 S.2.1 dX8_fallsFar_213 rfl (lv_at hl 6 rfl) ?_
      refine lv_lload_n S.1 S.2.1 dX8_fallsFar_214 rfl (lv_at hl 3 rfl) ?_
      refine lv_lload S.1 S.2.1 dX8_fallsFar_215 (lv_at hl 2 rfl) ?_
      refine lv_lload S.1 S.2.1 dX8_fallsFar_217 (lv_at hl 1 rfl) ?_
      refine lv_iload S.1 S.2.1 dX8_fallsFar_219 (lv_at hl 0 rfl) ?_
      obtain ⟨z17, ez17, h⟩ := ob_s h
      refine pm_cVv (As := [.long l1, .long v9, .long v10, .long v11, .int v13]) (rest := []) S hK hX hP hS (c_X8_additive l ev z12 E hth th l1 v9 v10 v11 v13 z17 ez17) vm_X8_additive mw_4_186 (rc_6 hK hP hth) ⟨⟨rfl, rfl⟩, by decide, by decide⟩ rfl hl.1 rfl (Nat.le_of_ble_eq_true rfl) ⟨Nat.zero_le _, Nat.zero_le _⟩ dX8_fallsFar_221 (fun H locs hP hS => ?_)
      exact pm_vretW S hr hlk hP hS (Option.some.inj h) dX8_fallsFar_224
    · rw [if_pos c16] at h
      refine lv_iload S.1 S.2.1 dX8_fallsFar_129 (lv_at hl 0 rfl) ?_
      refine lv_iconst (v := 1) S.1 S.2.1 dX8_fallsFar_131 (by decide) ?_
      refine lv_icmp_ne (tgt := 147) S.1 S.2.1 dX8_fallsFar_132 (by decide) (fun c18 => ?_) (fun c18 => ?_)
      · rw [if_neg c18] at h
        exact w_X8_fallsFar_147 S hr hlk E hK hX hth l1 v10 v13 z12 ls _ _ h (lv_sub hl [5, 6, 2, 0] rfl) hP hS
      · rw [if_pos c18] at h
        refine lv_lload_n S.1 S.2.1 dX8_fallsFar_135 rfl (lv_at hl 6 rfl) ?_
        refine pm_ldc2 S mw_4_179 dX8_fallsFar_136 ?_
        refine pm_lle (tgt := 147) S dX8_fallsFar_139 dX8_fallsFar_140 (by decide) (fun c19 => ?_) (fun c19 => ?_)
        · rw [if_pos c19] at h
          exact w_X8_fallsFar_147 S hr hlk E hK hX hth l1 v10 v13 z12 ls _ _ h (lv_sub hl [5, 6, 2, 0] rfl) hP hS
        · rw [if_neg c19] at h
          refine lv_iconst (v := 0) S.1 S.2.1 dX8_fallsFar_143 (by decide) ?_
          refine lv_goto (tgt := 163) S.1 S.2.1 dX8_fallsFar_144 (by decide) ?_
          exact w_X8_fallsFar_163 S hr hlk E hK hX hth v13 (0 : Int32) z12 ls _ _ h (lv_sub hl [5, 0] rfl) hP hS
  · rw [if_pos c14] at h
    refine lv_aload_n S.1 S.2.1 dX8_fallsFar_108 rfl (lv_at hl 5 rfl) ?_
    refine lv_iconst (v := 0) S.1 S.2.1 dX8_fallsFar_109 (by decide) ?_
    refine lv_iconst (v := 0) S.1 S.2.1 dX8_fallsFar_110 (by decide) ?_
    refine lv_iconst (v := 0) S.1 S.2.1 dX8_fallsFar_111 (by decide) ?_
    refine lv_iconst (v := 1) S.1 S.2.1 dX8_fallsFar_112 (by decide) ?_
    refine lv_iconst (v := 1) S.1 S.2.1 dX8_fallsFar_113 (by decide) ?_
    refine lv_iconst (v := 0) S.1 S.2.1 dX8_fallsFar_114 (by decide) ?_
    obtain ⟨z20, ez20, h⟩ := ob_s h
    refine pm_cVv (As := [.int (0 : Int32), .int (0 : Int32), .int (0 : Int32), .int (1 : Int32), .int (1 : Int32), .int (0 : Int32)]) (rest := []) S hK hX hP hS (c_X8_is l ev z12 E hth th (0 : Int32) (0 : Int32) (0 : Int32) (1 : Int32) (1 : Int32) (0 : Int32) z20 ez20) vm_X8_is mw_4_175 (rc_6 hK hP hth) ⟨⟨rfl, rfl⟩, by decide, by decide⟩ rfl hl.1 rfl (Nat.le_of_ble_eq_true rfl) ⟨Nat.zero_le _, Nat.zero_le _⟩ dX8_fallsFar_115 (fun H locs hP hS => ?_)
    refine lv_goto (tgt := 224) S.1 S.2.1 dX8_fallsFar_118 (by decide) ?_
    exact pm_vretW S hr hlk hP hS (Option.some.inj h) dX8_fallsFar_224
theorem vm_X8_fallsFar : pm_Vm yX8_fallsFar cX8_fallsFar 12 none 1 := ⟨mw_4_154, mw_4_153, ms_595, mw_1_7, by decide, by decide⟩
def q_X8_roots_6 (ev : EV) (th : Nat) : Nat → Int64 → Int64 → Int64 → Int64 → Int32 → Int64 → PS → Option (Int32 × PS)
  | 0, _, _, _, _, _, _, _ => none
  | n + 1, l1, l3, l5, l7, l9, l10, z => if l1 ≤ l10 then (some (l9, z)) else (ob (g_X8_modulo ((((l3 * l10) * l10) + (l5 * l10)) + l7) l1) (fun v2 => if v2 = (0 : Int64) then (bd (w64 z 128 th l10) (fun z5 => bd (l9 + (1 : Int32)) (fun v6 => bd ((l10 + (1 : Int64))) (fun v7 => q_X8_roots_6 ev th n l1 l3 l5 l7 v6 v7 z5)))) else (bd ((l10 + (1 : Int64))) (fun v4 => q_X8_roots_6 ev th n l1 l3 l5 l7 l9 v4 z))))
set_option maxRecDepth 20000 in
set_option maxHeartbeats 4000000 in
theorem w_X8_roots_6 {ev : EV} {th : Nat} {p : Program} {l : Launch} {e : Env} {s : State} {m : MethodId} {args : Array Value} {below : List Frame} {meth : Method} {c : Code} {r : Int32} {z9 : PS} (S : CallFix p m c cX8_roots 12 s args gT RX8) (hr : meth.sig.returnType = (some .int)) (hlk : meth.locks = false) (E : EWF ev) (hK : KK ev s) (hX : pXt ev s) (hth : isK ev 6 th) : ∀ (n : Nat), ∀ (l1 : Int64) (l3 : Int64) (l5 : Int64) (l7 : Int64) (l9 : Int32) (l10 : Int64) (z : PS) (ls : Array Slot) (H : Heap) (locs : List Loc), q_X8_roots_6 ev th n l1 l3 l5 l7 l9 l10 z = some (r, z9) → lv_has ls 12 [(0, .ref th), (1, .long l1), (3, .long l3), (5, .long l5), (7, .long l7), (9, .int l9), (10, .long l10)] → Wd ev z H → SS ev s H locs → W p l e (pR 1 35) s m args below meth c H locs 0 0 (MQ below (pQi ev r z9) args s 0 0 (eA ev)) (F0 m 6 ls []) := by
  intro n
  induction n with
  | zero => intro l1 l3 l5 l7 l9 l10 z ls H locs h; cases h
  | succ n ih =>
    intro l1 l3 l5 l7 l9 l10 z ls H locs h hl hP hS
    rw [q_X8_roots_6] at h
    refine lv_lload S.1 S.2.1 dX8_roots_6 (lv_at hl 6 rfl) ?_
    refine lv_lload_n S.1 S.2.1 dX8_roots_8 rfl (lv_at hl 1 rfl) ?_
    refine pm_lge (tgt := 56) S dX8_roots_9 dX8_roots_10 (by decide) (fun c1 => ?_) (fun c1 => ?_)
    · rw [if_pos c1] at h
      refine lv_iload S.1 S.2.1 dX8_roots_56 (lv_at hl 5 rfl) ?_
      have h9 := Option.some.inj h
      exact pm_iretW S hr hlk hP hS (congrArg Prod.fst h9) (congrArg Prod.snd h9) dX8_roots_58
    · rw [if_neg c1] at h
      refine lv_lload_n S.1 S.2.1 dX8_roots_13 rfl (lv_at hl 2 rfl) ?_
      refine lv_lload S.1 S.2.1 dX8_roots_14 (lv_at hl 6 rfl) ?_
      refine lv_lmul S.1 S.2.1 dX8_roots_16 ?_
      refine lv_lload S.1 S.2.1 dX8_roots_17 (lv_at hl 6 rfl) ?_
      refine lv_lmul S.1 S.2.1 dX8_roots_19 ?_
      refine lv_lload S.1 S.2.1 dX8_roots_20 (lv_at hl 3 rfl) ?_
      refine lv_lload S.1 S.2.1 dX8_roots_22 (lv_at hl 6 rfl) ?_
      refine lv_lmul S.1 S.2.1 dX8_roots_24 ?_
      refine lv_ladd S.1 S.2.1 dX8_roots_25 ?_
      refine lv_lload S.1 S.2.1 dX8_roots_26 (lv_at hl 4 rfl) ?_
      refine lv_ladd S.1 S.2.1 dX8_roots_28 ?_
      refine lv_lload_n S.1 S.2.1 dX8_roots_29 rfl (lv_at hl 1 rfl) ?_
      obtain ⟨v2, ev2, h⟩ := ob_s h
      refine pm_cS (As := [.long ((((l3 * l10) * l10) + (l5 * l10)) + l7), .long l1]) (rest := []) S (c_X8_modulo l ((((l3 * l10) * l10) + (l5 * l10)) + l7) l1 v2 ev2) sm_X8_modulo mw_4_183 ⟨⟨rfl, rfl⟩, by decide, by decide⟩ rfl hl.1 rfl (Nat.le_of_ble_eq_true rfl) ⟨Nat.zero_le _, Nat.zero_le _⟩ dX8_roots_30 ?_
      refine lv_lconst (v := 0) S.1 S.2.1 dX8_roots_33 (by decide) ?_
      refine pm_lne (tgt := 47) S dX8_roots_34 dX8_roots_35 (by decide) (fun c3 => ?_) (fun c3 => ?_)
      · rw [if_neg c3] at h
        refine lv_lload S.1 S.2.1 dX8_roots_47 (lv_at hl 6 rfl) ?_
        refine lv_lconst (v := 1) S.1 S.2.1 dX8_roots_49 (by decide) ?_
        refine lv_ladd S.1 S.2.1 dX8_roots_50 ?_
        obtain ⟨v4, ev4, h⟩ := bd_s h
        refine pm_nmL ev4 ?_
        refine lv_lstore (lv' := [(10, .long v4), (0, .ref th), (1, .long l1), (3, .long l3), (5, .long l5), (7, .long l7), (9, .int l9)]) S.1 S.2.1 dX8_roots_51 hl (by decide) rfl (fun ls hl => ?_)
        refine lv_goto (tgt := 6) S.1 S.2.1 dX8_roots_53 (by decide) ?_
        exact ih l1 l3 l5 l7 l9 v4 z ls _ _ h (lv_sub hl [1, 2, 3, 4, 5, 6, 0] rfl) hP hS
      · rw [if_pos c3] at h
        refine lv_aload_n S.1 S.2.1 dX8_roots_38 rfl (lv_at hl 0 rfl) ?_
        refine lv_lload S.1 S.2.1 dX8_roots_39 (lv_at hl 6 rfl) ?_
        obtain ⟨z5, ez5, h⟩ := bd_s h
        refine pf_6_8 S E hK hP hS hth mw_3_229 dX8_roots_41 (fun H locs hP hS => ?_)
        rw [← ez5] at hP
        obtain ⟨v6, ev6, h⟩ := bd_s h
        refine lv_iinc (v := v6) (lv' := [(9, .int v6), (0, .ref th), (1, .long l1), (3, .long l3), (5, .long l5), (7, .long l7), (10, .long l10)]) S.1 S.2.1 dX8_roots_44 hl (k := 5) rfl (by rw [ev6]; rfl) (by decide) rfl (fun ls hl => ?_)
        refine lv_lload S.1 S.2.1 dX8_roots_47 (lv_at hl 6 rfl) ?_
        refine lv_lconst (v := 1) S.1 S.2.1 dX8_roots_49 (by decide) ?_
        refine lv_ladd S.1 S.2.1 dX8_roots_50 ?_
        obtain ⟨v7, ev7, h⟩ := bd_s h
        refine pm_nmL ev7 ?_
        refine lv_lstore (lv' := [(10, .long v7), (9, .int v6), (0, .ref th), (1, .long l1), (3, .long l3), (5, .long l5), (7, .long l7)]) S.1 S.2.1 dX8_roots_51 hl (by decide) rfl (fun ls hl => ?_)
        refine lv_goto (tgt := 6) S.1 S.2.1 dX8_roots_53 (by decide) ?_
        exact ih l1 l3 l5 l7 v6 v7 z5 ls _ _ h (lv_sub hl [2, 3, 4, 5, 6, 1, 0] rfl) hP hS
def g_X8_roots (ev : EV) (z : PS) (th : Nat) (l1 : Int64) (l3 : Int64) (l5 : Int64) (l7 : Int64) : Option (Int32 × PS) := q_X8_roots_6 ev th FU l1 l3 l5 l7 (0 : Int32) (0 : Int64) z
set_option maxRecDepth 20000 in
set_option maxHeartbeats 4000000 in
theorem c_X8_roots (l : Launch) (ev : EV) (z : PS) (E : EWF ev) {th : Nat} (hth : isK ev 6 th) (th_ : Nat) (l1 : Int64) (l3 : Int64) (l5 : Int64) (l7 : Int64) (r : Int32) (z9 : PS) (h : g_X8_roots ev z th l1 l3 l5 l7 = some (r, z9)) : Met l yX8_roots (pWs yX8_roots cX8_roots 12 (some .int)) (pR 1 35) (va_Pc [.ref th, .long l1, .long l3, .long l5, .long l7] (pPe ev z)) (pQi ev r z9) 0 0 (eA ev) := by
  refine pm_of (by decide) (Nat.le_of_ble_eq_true rfl) ?_
  intro p e s m below meth c S hr hlk hv ls hl
  obtain ⟨hP, hK, hX⟩ := hv
  have hS : SS ev s s.heap [] := va_S.rf
  have hl : lv_has ls 12 [(0, .ref th), (1, .long l1), (3, .long l3), (5, .long l5), (7, .long l7)] := hl
  unfold g_X8_roots at h
  refine lv_iconst (v := 0) S.1 S.2.1 dX8_roots_0 (by decide) ?_
  refine lv_istore (lv' := [(9, .int (0 : Int32)), (0, .ref th), (1, .long l1), (3, .long l3), (5, .long l5), (7, .long l7)]) S.1 S.2.1 dX8_roots_1 hl (by decide) rfl (fun ls hl => ?_)
  refine lv_lconst (v := 0) S.1 S.2.1 dX8_roots_3 (by decide) ?_
  refine lv_lstore (lv' := [(10, .long (0 : Int64)), (9, .int (0 : Int32)), (0, .ref th), (1, .long l1), (3, .long l3), (5, .long l5), (7, .long l7)]) S.1 S.2.1 dX8_roots_4 hl (by decide) rfl (fun ls hl => ?_)
  exact w_X8_roots_6 S hr hlk E hK hX hth FU l1 l3 l5 l7 (0 : Int32) (0 : Int64) z ls _ _ h (lv_sub hl [2, 3, 4, 5, 6, 1, 0] rfl) hP hS
theorem vm_X8_roots : pm_Vm yX8_roots cX8_roots 12 (some .int) 4 := ⟨mw_4_213, mw_4_212, ms_599, mw_1_7, by decide, by decide⟩
def g_X8_areUnlike (l0 : Int64) (l2 : Int64) (l4 : Int64) (l6 : Int64) : Option Int32 := ob (g_X8_modulo ((l4 * l4) - (((4 : Int64) * l2) * l6)) l0) (fun v1 => if v1 = (0 : Int64) then (some (0 : Int32)) else (some (1 : Int32)))
set_option maxRecDepth 20000 in
set_option maxHeartbeats 4000000 in
theorem c_X8_areUnlike (l : Launch) (l0 : Int64) (l2 : Int64) (l4 : Int64) (l6 : Int64) (r : Int32) (h : g_X8_areUnlike l0 l2 l4 l6 = some r) : Met l yX8_areUnlike (pWs yX8_areUnlike cX8_areUnlike 8 (some .boolean)) (pR 1 35) (va_Pc [.long l0, .long l2, .long l4, .long l6] (fun _ => True)) (k2_QcV (.int r)) 0 0 (fun _ => False) := by
  refine pm_of (by decide) (Nat.le_of_ble_eq_true rfl) ?_
  intro p e s m below meth c S hr hlk hv ls hl
  have hl : lv_has ls 8 [(0, .long l0), (2, .long l2), (4, .long l4), (6, .long l6)] := hl
  unfold g_X8_areUnlike at h
  refine lv_lload S.1 S.2.1 dX8_areUnlike_0 (lv_at hl 2 rfl) ?_
  refine lv_lload S.1 S.2.1 dX8_areUnlike_2 (lv_at hl 2 rfl) ?_
  refine lv_lmul S.1 S.2.1 dX8_areUnlike_4 ?_
  refine pm_ldc2 S mw_4_54 dX8_areUnlike_5 ?_
  refine lv_lload_n S.1 S.2.1 dX8_areUnlike_8 rfl (lv_at hl 1 rfl) ?_
  refine lv_lmul S.1 S.2.1 dX8_areUnlike_9 ?_
  refine lv_lload S.1 S.2.1 dX8_areUnlike_10 (lv_at hl 3 rfl) ?_
  refine lv_lmul S.1 S.2.1 dX8_areUnlike_12 ?_
  refine lv_lsub S.1 S.2.1 dX8_areUnlike_13 ?_
  refine lv_lload_n S.1 S.2.1 dX8_areUnlike_14 rfl (lv_at hl 0 rfl) ?_
  obtain ⟨v1, ev1, h⟩ := ob_s h
  refine pm_cS (As := [.long ((l4 * l4) - (((4 : Int64) * l2) * l6)), .long l0]) (rest := []) S (c_X8_modulo l ((l4 * l4) - (((4 : Int64) * l2) * l6)) l0 v1 ev1) sm_X8_modulo mw_4_183 ⟨⟨rfl, rfl⟩, by decide, by decide⟩ rfl hl.1 rfl (Nat.le_of_ble_eq_true rfl) ⟨Nat.zero_le _, Nat.zero_le _⟩ dX8_areUnlike_15 ?_
  refine lv_lconst (v := 0) S.1 S.2.1 dX8_areUnlike_18 (by decide) ?_
  refine pm_leq (tgt := 27) S dX8_areUnlike_19 dX8_areUnlike_20 (by decide) (fun c2 => ?_) (fun c2 => ?_)
  · rw [if_pos c2] at h
    refine lv_iconst (v := 0) S.1 S.2.1 dX8_areUnlike_27 (by decide) ?_
    exact pm_zretR S hr hlk (Or.inl rfl) (Option.some.inj h) dX8_areUnlike_28
  · rw [if_neg c2] at h
    refine lv_iconst (v := 1) S.1 S.2.1 dX8_areUnlike_23 (by decide) ?_
    refine lv_goto (tgt := 28) S.1 S.2.1 dX8_areUnlike_24 (by decide) ?_
    exact pm_zretR S hr hlk (Or.inr rfl) (Option.some.inj h) dX8_areUnlike_28
theorem sm_X8_areUnlike : pm_Sm yX8_areUnlike cX8_areUnlike 8 (some .boolean) 4 := ⟨mw_5_17, mw_5_16, mw_1_7, by decide, by decide⟩
def g_X8_goesIn (ev : EV) (z : PS) (th : Nat) (l1 : Int64) (l3 : Int32) (l4 : Int32) : Option Int32 := ck (inB l3 5) (ob (g_X8_power l1 l4) (fun v2 => ck (¬ v2 = 0) (if (jr64 (rJ z (rf ev 123 th) l3.toNatClampNeg) v2) = (0 : Int64) then (some (1 : Int32)) else (some (0 : Int32)))))
set_option maxRecDepth 20000 in
set_option maxHeartbeats 4000000 in
theorem c_X8_goesIn (l : Launch) (ev : EV) (z : PS) (E : EWF ev) {th : Nat} (hth : isK ev 6 th) (th_ : Nat) (l1 : Int64) (l3 : Int32) (l4 : Int32) (r : Int32) (h : g_X8_goesIn ev z th l1 l3 l4 = some r) : Met l yX8_goesIn (pWs yX8_goesIn cX8_goesIn 5 (some .boolean)) (pR 1 37) (va_Pc [.ref th, .long l1, .int l3, .int l4] (pPe ev z)) (k2_QcV (.int r)) 0 0 (fun _ => False) := by
  refine pm_of (by decide) (Nat.le_of_ble_eq_true rfl) ?_
  intro p e s m below meth c S hr hlk hv ls hl
  obtain ⟨hP, hK, hX⟩ := hv
  have hl : lv_has ls 5 [(0, .ref th), (1, .long l1), (3, .int l3), (4, .int l4)] := hl
  unfold g_X8_goesIn at h
  refine lv_aload_n S.1 S.2.1 dX8_goesIn_0 rfl (lv_at hl 0 rfl) ?_
  refine gf_6_3 S hK hP hth mw_3_224 dX8_goesIn_1 ?_
  refine lv_iload_n S.1 S.2.1 dX8_goesIn_4 rfl (lv_at hl 2 rfl) ?_
  obtain ⟨hc1, h⟩ := ck_s h
  refine al_J S hK hP (E_6_3 E hth) (by rw [N_6_3 E hth]; exact hc1) dX8_goesIn_5 ?_
  refine lv_lload_n S.1 S.2.1 dX8_goesIn_6 rfl (lv_at hl 1 rfl) ?_
  refine lv_iload S.1 S.2.1 dX8_goesIn_7 (lv_at hl 3 rfl) ?_
  obtain ⟨v2, ev2, h⟩ := ob_s h
  refine pm_cS (As := [.long l1, .int l4]) (rest := [.long (rJ z (rf ev 123 th) l3.toNatClampNeg)]) S (c_X8_power l l1 l4 v2 ev2) sm_X8_power mw_4_111 ⟨⟨rfl, rfl⟩, by decide, by decide⟩ rfl hl.1 rfl (Nat.le_of_ble_eq_true rfl) ⟨Nat.zero_le _, Nat.zero_le _⟩ dX8_goesIn_9 ?_
  obtain ⟨hc3, h⟩ := ck_s h
  refine pm_lrem S hc3 dX8_goesIn_12 ?_
  refine lv_lconst (v := 0) S.1 S.2.1 dX8_goesIn_13 (by decide) ?_
  refine pm_lne (tgt := 22) S dX8_goesIn_14 dX8_goesIn_15 (by decide) (fun c4 => ?_) (fun c4 => ?_)
  · rw [if_neg c4] at h
    refine lv_iconst (v := 0) S.1 S.2.1 dX8_goesIn_22 (by decide) ?_
    exact pm_zretR S hr hlk (Or.inl rfl) (Option.some.inj h) dX8_goesIn_23
  · rw [if_pos c4] at h
    refine lv_iconst (v := 1) S.1 S.2.1 dX8_goesIn_18 (by decide) ?_
    refine lv_goto (tgt := 23) S.1 S.2.1 dX8_goesIn_19 (by decide) ?_
    exact pm_zretR S hr hlk (Or.inr rfl) (Option.some.inj h) dX8_goesIn_23
theorem vm_X8_goesIn : pm_Vm yX8_goesIn cX8_goesIn 5 (some .boolean) 3 := ⟨mw_4_205, mw_4_204, ms_604, mw_1_7, by decide, by decide⟩
def q_X8_comesToMidst_71 (ev : EV) (th : Nat) (k5 : (Int64 → Int64 → Int64 → PS → Option PS)) (l1 : Int64) (l5 : Int64) (t0 : Int64) (t1 : Int64) (z : PS) : Option PS := bd ((t1 + t0)) (fun v11 => ck (¬ l1 = 0) (bd ((jr64 l5 l1)) (fun v13 => ob (g_X8_changes ev z th (0 : Int64) (0 : Int64) v13) (fun z14 => ob (g_X8_changes ev z14 th v11 (0 : Int64) (0 : Int64)) (fun z15 => k5 l1 v11 v13 z15)))))
set_option maxRecDepth 20000 in
set_option maxHeartbeats 4000000 in
theorem w_X8_comesToMidst_71 {ev : EV} {th : Nat} {p : Program} {l : Launch} {e : Env} {s : State} {m : MethodId} {args : Array Value} {below : List Frame} {meth : Method} {c : Code} {z9 : PS} (S : CallFix p m c cX8_comesToMidst 7 s args gT RX8) (hr : meth.sig.returnType = none) (hlk : meth.locks = false) (E : EWF ev) (hK : KK ev s) (hX : pXt ev s) (hth : isK ev 6 th) (k5 : (Int64 → Int64 → Int64 → PS → Option PS)) (hk5 : ∀ (l1 : Int64) (l3 : Int64) (l5 : Int64) (z : PS) (ls : Array Slot) (H : Heap) (locs : List Loc), k5 l1 l3 l5 z = some z9 → lv_has ls 7 [(0, .ref th), (1, .long l1), (3, .long l3), (5, .long l5)] → Wd ev z H → SS ev s H locs → W p l e (pR 2 73) s m args below meth c H locs 0 0 (MQ below (pQv ev z9) args s 0 0 (eA ev)) (F0 m 5 ls [])) : ∀ (l1 : Int64) (l5 : Int64) (t0 : Int64) (t1 : Int64) (z : PS) (ls : Array Slot) (H : Heap) (locs : List Loc), q_X8_comesToMidst_71 ev th k5 l1 l5 t0 t1 z = some z9 → lv_has ls 7 [(0, .ref th), (1, .long l1), (5, .long l5)] → Wd ev z H → SS ev s H locs → W p l e (pR 2 73) s m args below meth c H locs 0 0 (MQ below (pQv ev z9) args s 0 0 (eA ev)) (F0 m 71 ls [.long t0, .long t1]) := by
  intro l1 l5 t0 t1 z ls H locs h hl hP hS
  unfold q_X8_comesToMidst_71 at h
  refine lv_ladd S.1 S.2.1 dX8_comesToMidst_71 ?_
  obtain ⟨v11, ev11, h⟩ := bd_s h
  refine pm_nmL ev11 ?_
  refine lv_lstore_n (lv' := [(3, .long v11), (0, .ref th), (1, .long l1), (5, .long l5)]) S.1 S.2.1 dX8_comesToMidst_72 rfl hl (by decide) rfl (fun ls hl => ?_)
  refine lv_lload S.1 S.2.1 dX8_comesToMidst_73 (lv_at hl 3 rfl) ?_
  refine lv_lload_n S.1 S.2.1 dX8_comesToMidst_75 rfl (lv_at hl 2 rfl) ?_
  obtain ⟨hc12, h⟩ := ck_s h
  refine pm_lrem S hc12 dX8_comesToMidst_76 ?_
  obtain ⟨v13, ev13, h⟩ := bd_s h
  refine pm_nmL ev13 ?_
  refine lv_lstore (lv' := [(5, .long v13), (3, .long v11), (0, .ref th), (1, .long l1)]) S.1 S.2.1 dX8_comesToMidst_77 hl (by decide) rfl (fun ls hl => ?_)
  refine lv_aload_n S.1 S.2.1 dX8_comesToMidst_79 rfl (lv_at hl 2 rfl) ?_
  refine lv_lconst (v := 0) S.1 S.2.1 dX8_comesToMidst_80 (by decide) ?_
  refine lv_lconst (v := 0) S.1 S.2.1 dX8_comesToMidst_81 (by decide) ?_
  refine lv_lload S.1 S.2.1 dX8_comesToMidst_82 (lv_at hl 0 rfl) ?_
  obtain ⟨z14, ez14, h⟩ := ob_s h
  refine pm_cVv (As := [.long (0 : Int64), .long (0 : Int64), .long v13]) (rest := []) S hK hX hP hS (c_X8_changes l ev z E hth th (0 : Int64) (0 : Int64) v13 z14 ez14) vm_X8_changes mw_4_95 (rc_6 hK hP hth) ⟨⟨rfl, rfl⟩, by decide, by decide⟩ rfl hl.1 rfl (Nat.le_of_ble_eq_true rfl) ⟨Nat.zero_le _, Nat.zero_le _⟩ dX8_comesToMidst_84 (fun H locs hP hS => ?_)
  refine lv_aload_n S.1 S.2.1 dX8_comesToMidst_87 rfl (lv_at hl 2 rfl) ?_
  refine lv_lload_n S.1 S.2.1 dX8_comesToMidst_88 rfl (lv_at hl 1 rfl) ?_
  refine lv_lconst (v := 0) S.1 S.2.1 dX8_comesToMidst_89 (by decide) ?_
  refine lv_lconst (v := 0) S.1 S.2.1 dX8_comesToMidst_90 (by decide) ?_
  obtain ⟨z15, ez15, h⟩ := ob_s h
  refine pm_cVv (As := [.long v11, .long (0 : Int64), .long (0 : Int64)]) (rest := []) S hK hX hP hS (c_X8_changes l ev z14 E hth th v11 (0 : Int64) (0 : Int64) z15 ez15) vm_X8_changes mw_4_95 (rc_6 hK hP hth) ⟨⟨rfl, rfl⟩, by decide, by decide⟩ rfl hl.1 rfl (Nat.le_of_ble_eq_true rfl) ⟨Nat.zero_le _, Nat.zero_le _⟩ dX8_comesToMidst_91 (fun H locs hP hS => ?_)
  refine lv_goto (tgt := 5) S.1 S.2.1 dX8_comesToMidst_94 (by decide) ?_
  exact hk5 l1 v11 v13 z15 ls _ _ h (lv_sub hl [2, 3, 1, 0] rfl) hP hS
def q_X8_comesToMidst_35 (ev : EV) (th : Nat) (k5 : (Int64 → Int64 → Int64 → PS → Option PS)) (l1 : Int64) (l3 : Int64) (l5 : Int64) (z : PS) : Option PS := ob (g_X8_changes ev z th (-l3) (0 : Int64) (0 : Int64)) (fun z7 => ob (g_X8_changes ev z7 th (0 : Int64) (0 : Int64) (-l5)) (fun z8 => bd ((l5 + (1 : Int64))) (fun v9 => if v9 = l1 then (q_X8_comesToMidst_71 ev th k5 l1 v9 (1 : Int64) l3 z8) else (q_X8_comesToMidst_71 ev th k5 l1 v9 (0 : Int64) l3 z8))))
set_option maxRecDepth 20000 in
set_option maxHeartbeats 4000000 in
theorem w_X8_comesToMidst_35 {ev : EV} {th : Nat} {p : Program} {l : Launch} {e : Env} {s : State} {m : MethodId} {args : Array Value} {below : List Frame} {meth : Method} {c : Code} {z9 : PS} (S : CallFix p m c cX8_comesToMidst 7 s args gT RX8) (hr : meth.sig.returnType = none) (hlk : meth.locks = false) (E : EWF ev) (hK : KK ev s) (hX : pXt ev s) (hth : isK ev 6 th) (k5 : (Int64 → Int64 → Int64 → PS → Option PS)) (hk5 : ∀ (l1 : Int64) (l3 : Int64) (l5 : Int64) (z : PS) (ls : Array Slot) (H : Heap) (locs : List Loc), k5 l1 l3 l5 z = some z9 → lv_has ls 7 [(0, .ref th), (1, .long l1), (3, .long l3), (5, .long l5)] → Wd ev z H → SS ev s H locs → W p l e (pR 2 73) s m args below meth c H locs 0 0 (MQ below (pQv ev z9) args s 0 0 (eA ev)) (F0 m 5 ls [])) : ∀ (l1 : Int64) (l3 : Int64) (l5 : Int64) (z : PS) (ls : Array Slot) (H : Heap) (locs : List Loc), q_X8_comesToMidst_35 ev th k5 l1 l3 l5 z = some z9 → lv_has ls 7 [(0, .ref th), (1, .long l1), (3, .long l3), (5, .long l5)] → Wd ev z H → SS ev s H locs → W p l e (pR 2 73) s m args below meth c H locs 0 0 (MQ below (pQv ev z9) args s 0 0 (eA ev)) (F0 m 35 ls []) := by
  intro l1 l3 l5 z ls H locs h hl hP hS
  unfold q_X8_comesToMidst_35 at h
  refine lv_aload_n S.1 S.2.1 dX8_comesToMidst_35 rfl (lv_at hl 0 rfl) ?_
  refine lv_lload_n S.1 S.2.1 dX8_comesToMidst_36 rfl (lv_at hl 2 rfl) ?_
  refine lv_lneg S.1 S.2.1 dX8_comesToMidst_37 ?_
  refine lv_lconst (v := 0) S.1 S.2.1 dX8_comesToMidst_38 (by decide) ?_
  refine lv_lconst (v := 0) S.1 S.2.1 dX8_comesToMidst_39 (by decide) ?_
  obtain ⟨z7, ez7, h⟩ := ob_s h
  refine pm_cVv (As := [.long (-l3), .long (0 : Int64), .long (0 : Int64)]) (rest := []) S hK hX hP hS (c_X8_changes l ev z E hth th (-l3) (0 : Int64) (0 : Int64) z7 ez7) vm_X8_changes mw_4_95 (rc_6 hK hP hth) ⟨⟨rfl, rfl⟩, by decide, by decide⟩ rfl hl.1 rfl (Nat.le_of_ble_eq_true rfl) ⟨Nat.zero_le _, Nat.zero_le _⟩ dX8_comesToMidst_40 (fun H locs hP hS => ?_)
  refine lv_aload_n S.1 S.2.1 dX8_comesToMidst_43 rfl (lv_at hl 0 rfl) ?_
  refine lv_lconst (v := 0) S.1 S.2.1 dX8_comesToMidst_44 (by decide) ?_
  refine lv_lconst (v := 0) S.1 S.2.1 dX8_comesToMidst_45 (by decide) ?_
  refine lv_lload S.1 S.2.1 dX8_comesToMidst_46 (lv_at hl 3 rfl) ?_
  refine lv_lneg S.1 S.2.1 dX8_comesToMidst_48 ?_
  obtain ⟨z8, ez8, h⟩ := ob_s h
  refine pm_cVv (As := [.long (0 : Int64), .long (0 : Int64), .long (-l5)]) (rest := []) S hK hX hP hS (c_X8_changes l ev z7 E hth th (0 : Int64) (0 : Int64) (-l5) z8 ez8) vm_X8_changes mw_4_95 (rc_6 hK hP hth) ⟨⟨rfl, rfl⟩, by decide, by decide⟩ rfl hl.1 rfl (Nat.le_of_ble_eq_true rfl) ⟨Nat.zero_le _, Nat.zero_le _⟩ dX8_comesToMidst_49 (fun H locs hP hS => ?_)
  refine lv_lload S.1 S.2.1 dX8_comesToMidst_52 (lv_at hl 3 rfl) ?_
  refine lv_lconst (v := 1) S.1 S.2.1 dX8_comesToMidst_54 (by decide) ?_
  refine lv_ladd S.1 S.2.1 dX8_comesToMidst_55 ?_
  obtain ⟨v9, ev9, h⟩ := bd_s h
  refine pm_nmL ev9 ?_
  refine lv_lstore (lv' := [(5, .long v9), (0, .ref th), (1, .long l1), (3, .long l3)]) S.1 S.2.1 dX8_comesToMidst_56 hl (by decide) rfl (fun ls hl => ?_)
  refine lv_lload_n S.1 S.2.1 dX8_comesToMidst_58 rfl (lv_at hl 3 rfl) ?_
  refine lv_lload S.1 S.2.1 dX8_comesToMidst_59 (lv_at hl 0 rfl) ?_
  refine lv_lload_n S.1 S.2.1 dX8_comesToMidst_61 rfl (lv_at hl 2 rfl) ?_
  refine pm_lne (tgt := 70) S dX8_comesToMidst_62 dX8_comesToMidst_63 (by decide) (fun c10 => ?_) (fun c10 => ?_)
  · rw [if_neg c10] at h
    refine lv_lconst (v := 0) S.1 S.2.1 dX8_comesToMidst_70 (by decide) ?_
    exact w_X8_comesToMidst_71 S hr hlk E hK hX hth k5 hk5 l1 v9 (0 : Int64) l3 z8 ls _ _ h (lv_sub hl [1, 2, 0] rfl) hP hS
  · rw [if_pos c10] at h
    refine lv_lconst (v := 1) S.1 S.2.1 dX8_comesToMidst_66 (by decide) ?_
    refine lv_goto (tgt := 71) S.1 S.2.1 dX8_comesToMidst_67 (by decide) ?_
    exact w_X8_comesToMidst_71 S hr hlk E hK hX hth k5 hk5 l1 v9 (1 : Int64) l3 z8 ls _ _ h (lv_sub hl [1, 2, 0] rfl) hP hS
def q_X8_comesToMidst_5 (ev : EV) (th : Nat) : Nat → Int64 → Int64 → Int64 → PS → Option PS
  | 0, _, _, _, _ => none
  | n + 1, l1, l3, l5, z => ob (g_X8_goesIn ev z th l1 (2 : Int32) (1 : Int32)) (fun v1 => if v1 = 0 then (q_X8_comesToMidst_35 ev th (q_X8_comesToMidst_5 ev th n) l1 l3 l5 z) else (ob (g_X8_goesIn ev z th l1 (3 : Int32) (1 : Int32)) (fun v3 => if v3 = 0 then (q_X8_comesToMidst_35 ev th (q_X8_comesToMidst_5 ev th n) l1 l3 l5 z) else (ob (g_X8_goesIn ev z th l1 (4 : Int32) (1 : Int32)) (fun v5 => if v5 = 0 then (q_X8_comesToMidst_35 ev th (q_X8_comesToMidst_5 ev th n) l1 l3 l5 z) else (some z))))))
set_option maxRecDepth 20000 in
set_option maxHeartbeats 4000000 in
theorem w_X8_comesToMidst_5 {ev : EV} {th : Nat} {p : Program} {l : Launch} {e : Env} {s : State} {m : MethodId} {args : Array Value} {below : List Frame} {meth : Method} {c : Code} {z9 : PS} (S : CallFix p m c cX8_comesToMidst 7 s args gT RX8) (hr : meth.sig.returnType = none) (hlk : meth.locks = false) (E : EWF ev) (hK : KK ev s) (hX : pXt ev s) (hth : isK ev 6 th) : ∀ (n : Nat), ∀ (l1 : Int64) (l3 : Int64) (l5 : Int64) (z : PS) (ls : Array Slot) (H : Heap) (locs : List Loc), q_X8_comesToMidst_5 ev th n l1 l3 l5 z = some z9 → lv_has ls 7 [(0, .ref th), (1, .long l1), (3, .long l3), (5, .long l5)] → Wd ev z H → SS ev s H locs → W p l e (pR 2 73) s m args below meth c H locs 0 0 (MQ below (pQv ev z9) args s 0 0 (eA ev)) (F0 m 5 ls []) := by
  intro n
  induction n with
  | zero => intro l1 l3 l5 z ls H locs h; cases h
  | succ n ih =>
    intro l1 l3 l5 z ls H locs h hl hP hS
    rw [q_X8_comesToMidst_5] at h
    refine lv_aload_n S.1 S.2.1 dX8_comesToMidst_5 rfl (lv_at hl 0 rfl) ?_
    refine lv_lload_n S.1 S.2.1 dX8_comesToMidst_6 rfl (lv_at hl 1 rfl) ?_
    refine lv_iconst (v := 2) S.1 S.2.1 dX8_comesToMidst_7 (by decide) ?_
    refine lv_iconst (v := 1) S.1 S.2.1 dX8_comesToMidst_8 (by decide) ?_
    obtain ⟨v1, ev1, h⟩ := ob_s h
    refine pm_cVr (As := [.long l1, .int (2 : Int32), .int (1 : Int32)]) (rest := []) S hK hX hP hS (c_X8_goesIn l ev z E hth th l1 (2 : Int32) (1 : Int32) v1 ev1) vm_X8_goesIn mw_4_202 (rc_6 hK hP hth) ⟨⟨rfl, rfl⟩, by decide, by decide⟩ rfl hl.1 rfl (Nat.le_of_ble_eq_true rfl) ⟨Nat.zero_le _, Nat.zero_le _⟩ dX8_comesToMidst_9 ?_
    refine lv_if_eq (tgt := 35) S.1 S.2.1 dX8_comesToMidst_12 (by decide) (fun c2 => ?_) (fun c2 => ?_)
    · rw [if_pos c2] at h
      exact w_X8_comesToMidst_35 S hr hlk E hK hX hth (q_X8_comesToMidst_5 ev th n) ih l1 l3 l5 z ls _ _ h (lv_sub hl [0, 1, 2, 3] rfl) hP hS
    · rw [if_neg c2] at h
      refine lv_aload_n S.1 S.2.1 dX8_comesToMidst_15 rfl (lv_at hl 0 rfl) ?_
      refine lv_lload_n S.1 S.2.1 dX8_comesToMidst_16 rfl (lv_at hl 1 rfl) ?_
      refine lv_iconst (v := 3) S.1 S.2.1 dX8_comesToMidst_17 (by decide) ?_
      refine lv_iconst (v := 1) S.1 S.2.1 dX8_comesToMidst_18 (by decide) ?_
      obtain ⟨v3, ev3, h⟩ := ob_s h
      refine pm_cVr (As := [.long l1, .int (3 : Int32), .int (1 : Int32)]) (rest := []) S hK hX hP hS (c_X8_goesIn l ev z E hth th l1 (3 : Int32) (1 : Int32) v3 ev3) vm_X8_goesIn mw_4_202 (rc_6 hK hP hth) ⟨⟨rfl, rfl⟩, by decide, by decide⟩ rfl hl.1 rfl (Nat.le_of_ble_eq_true rfl) ⟨Nat.zero_le _, Nat.zero_le _⟩ dX8_comesToMidst_19 ?_
      refine lv_if_eq (tgt := 35) S.1 S.2.1 dX8_comesToMidst_22 (by decide) (fun c4 => ?_) (fun c4 => ?_)
      · rw [if_pos c4] at h
        exact w_X8_comesToMidst_35 S hr hlk E hK hX hth (q_X8_comesToMidst_5 ev th n) ih l1 l3 l5 z ls _ _ h (lv_sub hl [0, 1, 2, 3] rfl) hP hS
      · rw [if_neg c4] at h
        refine lv_aload_n S.1 S.2.1 dX8_comesToMidst_25 rfl (lv_at hl 0 rfl) ?_
        refine lv_lload_n S.1 S.2.1 dX8_comesToMidst_26 rfl (lv_at hl 1 rfl) ?_
        refine lv_iconst (v := 4) S.1 S.2.1 dX8_comesToMidst_27 (by decide) ?_
        refine lv_iconst (v := 1) S.1 S.2.1 dX8_comesToMidst_28 (by decide) ?_
        obtain ⟨v5, ev5, h⟩ := ob_s h
        refine pm_cVr (As := [.long l1, .int (4 : Int32), .int (1 : Int32)]) (rest := []) S hK hX hP hS (c_X8_goesIn l ev z E hth th l1 (4 : Int32) (1 : Int32) v5 ev5) vm_X8_goesIn mw_4_202 (rc_6 hK hP hth) ⟨⟨rfl, rfl⟩, by decide, by decide⟩ rfl hl.1 rfl (Nat.le_of_ble_eq_true rfl) ⟨Nat.zero_le _, Nat.zero_le _⟩ dX8_comesToMidst_29 ?_
        refine lv_if_ne (tgt := 97) S.1 S.2.1 dX8_comesToMidst_32 (by decide) (fun c6 => ?_) (fun c6 => ?_)
        · rw [if_neg c6] at h
          exact pm_vretW S hr hlk hP hS (Option.some.inj h) dX8_comesToMidst_97
        · rw [if_pos c6] at h
          exact w_X8_comesToMidst_35 S hr hlk E hK hX hth (q_X8_comesToMidst_5 ev th n) ih l1 l3 l5 z ls _ _ h (lv_sub hl [0, 1, 2, 3] rfl) hP hS
def g_X8_comesToMidst (ev : EV) (z : PS) (th : Nat) (l1 : Int64) : Option PS := q_X8_comesToMidst_5 ev th FU l1 (0 : Int64) (0 : Int64) z
set_option maxRecDepth 20000 in
set_option maxHeartbeats 4000000 in
theorem c_X8_comesToMidst (l : Launch) (ev : EV) (z : PS) (E : EWF ev) {th : Nat} (hth : isK ev 6 th) (th_ : Nat) (l1 : Int64) (z9 : PS) (h : g_X8_comesToMidst ev z th l1 = some z9) : Met l yX8_comesToMidst (pWs yX8_comesToMidst cX8_comesToMidst 7 none) (pR 2 73) (va_Pc [.ref th, .long l1] (pPe ev z)) (pQv ev z9) 0 0 (eA ev) := by
  refine pm_of (by decide) (Nat.le_of_ble_eq_true rfl) ?_
  intro p e s m below meth c S hr hlk hv ls hl
  obtain ⟨hP, hK, hX⟩ := hv
  have hS : SS ev s s.heap [] := va_S.rf
  have hl : lv_has ls 7 [(0, .ref th), (1, .long l1)] := hl
  unfold g_X8_comesToMidst at h
  refine lv_lconst (v := 0) S.1 S.2.1 dX8_comesToMidst_0 (by decide) ?_
  refine lv_lstore_n (lv' := [(3, .long (0 : Int64)), (0, .ref th), (1, .long l1)]) S.1 S.2.1 dX8_comesToMidst_1 rfl hl (by decide) rfl (fun ls hl => ?_)
  refine lv_lconst (v := 0) S.1 S.2.1 dX8_comesToMidst_2 (by decide) ?_
  refine lv_lstore (lv' := [(5, .long (0 : Int64)), (3, .long (0 : Int64)), (0, .ref th), (1, .long l1)]) S.1 S.2.1 dX8_comesToMidst_3 hl (by decide) rfl (fun ls hl => ?_)
  exact w_X8_comesToMidst_5 S hr hlk E hK hX hth FU l1 (0 : Int64) (0 : Int64) z ls _ _ h (lv_sub hl [2, 3, 1, 0] rfl) hP hS
theorem vm_X8_comesToMidst : pm_Vm yX8_comesToMidst cX8_comesToMidst 7 none 1 := ⟨mw_4_201, mw_4_200, ms_608, mw_1_7, by decide, by decide⟩
def g_X8_isFlat (ev : EV) (z : PS) (th : Nat) (l1 : Int64) : Option Int32 := ob (g_X8_goesIn ev z th l1 (0 : Int32) (1 : Int32)) (fun v1 => if v1 = 0 then (some (0 : Int32)) else (ob (g_X8_goesIn ev z th l1 (1 : Int32) (1 : Int32)) (fun v3 => if v3 = 0 then (some (0 : Int32)) else (ob (g_X8_goesIn ev z th l1 (2 : Int32) (2 : Int32)) (fun v5 => if v5 = 0 then (some (0 : Int32)) else (ob (g_X8_goesIn ev z th l1 (3 : Int32) (2 : Int32)) (fun v7 => if v7 = 0 then (some (0 : Int32)) else (ob (g_X8_goesIn ev z th l1 (4 : Int32) (3 : Int32)) (fun v9 => if v9 = 0 then (some (0 : Int32)) else (some (1 : Int32)))))))))))
set_option maxRecDepth 20000 in
set_option maxHeartbeats 4000000 in
theorem c_X8_isFlat (l : Launch) (ev : EV) (z : PS) (E : EWF ev) {th : Nat} (hth : isK ev 6 th) (th_ : Nat) (l1 : Int64) (r : Int32) (h : g_X8_isFlat ev z th l1 = some r) : Met l yX8_isFlat (pWs yX8_isFlat cX8_isFlat 3 (some .boolean)) (pR 2 73) (va_Pc [.ref th, .long l1] (pPe ev z)) (k2_QcV (.int r)) 0 0 (fun _ => False) := by
  refine pm_of (by decide) (Nat.le_of_ble_eq_true rfl) ?_
  intro p e s m below meth c S hr hlk hv ls hl
  obtain ⟨hP, hK, hX⟩ := hv
  have hl : lv_has ls 3 [(0, .ref th), (1, .long l1)] := hl
  unfold g_X8_isFlat at h
  refine lv_aload_n S.1 S.2.1 dX8_isFlat_0 rfl (lv_at hl 0 rfl) ?_
  refine lv_lload_n S.1 S.2.1 dX8_isFlat_1 rfl (lv_at hl 1 rfl) ?_
  refine lv_iconst (v := 0) S.1 S.2.1 dX8_isFlat_2 (by decide) ?_
  refine lv_iconst (v := 1) S.1 S.2.1 dX8_isFlat_3 (by decide) ?_
  obtain ⟨v1, ev1, h⟩ := ob_s h
  refine pm_cVr (As := [.long l1, .int (0 : Int32), .int (1 : Int32)]) (rest := []) S hK hX hP va_S.rf (c_X8_goesIn l ev z E hth th l1 (0 : Int32) (1 : Int32) v1 ev1) vm_X8_goesIn mw_4_202 (rc_6 hK hP hth) ⟨⟨rfl, rfl⟩, by decide, by decide⟩ rfl hl.1 rfl (Nat.le_of_ble_eq_true rfl) ⟨Nat.zero_le _, Nat.zero_le _⟩ dX8_isFlat_4 ?_
  refine lv_if_eq (tgt := 54) S.1 S.2.1 dX8_isFlat_7 (by decide) (fun c2 => ?_) (fun c2 => ?_)
  · rw [if_pos c2] at h
    refine lv_iconst (v := 0) S.1 S.2.1 dX8_isFlat_54 (by decide) ?_
    exact pm_zretR S hr hlk (Or.inl rfl) (Option.some.inj h) dX8_isFlat_55
  · rw [if_neg c2] at h
    refine lv_aload_n S.1 S.2.1 dX8_isFlat_10 rfl (lv_at hl 0 rfl) ?_
    refine lv_lload_n S.1 S.2.1 dX8_isFlat_11 rfl (lv_at hl 1 rfl) ?_
    refine lv_iconst (v := 1) S.1 S.2.1 dX8_isFlat_12 (by decide) ?_
    refine lv_iconst (v := 1) S.1 S.2.1 dX8_isFlat_13 (by decide) ?_
    obtain ⟨v3, ev3, h⟩ := ob_s h
    refine pm_cVr (As := [.long l1, .int (1 : Int32), .int (1 : Int32)]) (rest := []) S hK hX hP va_S.rf (c_X8_goesIn l ev z E hth th l1 (1 : Int32) (1 : Int32) v3 ev3) vm_X8_goesIn mw_4_202 (rc_6 hK hP hth) ⟨⟨rfl, rfl⟩, by decide, by decide⟩ rfl hl.1 rfl (Nat.le_of_ble_eq_true rfl) ⟨Nat.zero_le _, Nat.zero_le _⟩ dX8_isFlat_14 ?_
    refine lv_if_eq (tgt := 54) S.1 S.2.1 dX8_isFlat_17 (by decide) (fun c4 => ?_) (fun c4 => ?_)
    · rw [if_pos c4] at h
      refine lv_iconst (v := 0) S.1 S.2.1 dX8_isFlat_54 (by decide) ?_
      exact pm_zretR S hr hlk (Or.inl rfl) (Option.some.inj h) dX8_isFlat_55
    · rw [if_neg c4] at h
      refine lv_aload_n S.1 S.2.1 dX8_isFlat_20 rfl (lv_at hl 0 rfl) ?_
      refine lv_lload_n S.1 S.2.1 dX8_isFlat_21 rfl (lv_at hl 1 rfl) ?_
      refine lv_iconst (v := 2) S.1 S.2.1 dX8_isFlat_22 (by decide) ?_
      refine lv_iconst (v := 2) S.1 S.2.1 dX8_isFlat_23 (by decide) ?_
      obtain ⟨v5, ev5, h⟩ := ob_s h
      refine pm_cVr (As := [.long l1, .int (2 : Int32), .int (2 : Int32)]) (rest := []) S hK hX hP va_S.rf (c_X8_goesIn l ev z E hth th l1 (2 : Int32) (2 : Int32) v5 ev5) vm_X8_goesIn mw_4_202 (rc_6 hK hP hth) ⟨⟨rfl, rfl⟩, by decide, by decide⟩ rfl hl.1 rfl (Nat.le_of_ble_eq_true rfl) ⟨Nat.zero_le _, Nat.zero_le _⟩ dX8_isFlat_24 ?_
      refine lv_if_eq (tgt := 54) S.1 S.2.1 dX8_isFlat_27 (by decide) (fun c6 => ?_) (fun c6 => ?_)
      · rw [if_pos c6] at h
        refine lv_iconst (v := 0) S.1 S.2.1 dX8_isFlat_54 (by decide) ?_
        exact pm_zretR S hr hlk (Or.inl rfl) (Option.some.inj h) dX8_isFlat_55
      · rw [if_neg c6] at h
        refine lv_aload_n S.1 S.2.1 dX8_isFlat_30 rfl (lv_at hl 0 rfl) ?_
        refine lv_lload_n S.1 S.2.1 dX8_isFlat_31 rfl (lv_at hl 1 rfl) ?_
        refine lv_iconst (v := 3) S.1 S.2.1 dX8_isFlat_32 (by decide) ?_
        refine lv_iconst (v := 2) S.1 S.2.1 dX8_isFlat_33 (by decide) ?_
        obtain ⟨v7, ev7, h⟩ := ob_s h
        refine pm_cVr (As := [.long l1, .int (3 : Int32), .int (2 : Int32)]) (rest := []) S hK hX hP va_S.rf (c_X8_goesIn l ev z E hth th l1 (3 : Int32) (2 : Int32) v7 ev7) vm_X8_goesIn mw_4_202 (rc_6 hK hP hth) ⟨⟨rfl, rfl⟩, by decide, by decide⟩ rfl hl.1 rfl (Nat.le_of_ble_eq_true rfl) ⟨Nat.zero_le _, Nat.zero_le _⟩ dX8_isFlat_34 ?_
        refine lv_if_eq (tgt := 54) S.1 S.2.1 dX8_isFlat_37 (by decide) (fun c8 => ?_) (fun c8 => ?_)
        · rw [if_pos c8] at h
          refine lv_iconst (v := 0) S.1 S.2.1 dX8_isFlat_54 (by decide) ?_
          exact pm_zretR S hr hlk (Or.inl rfl) (Option.some.inj h) dX8_isFlat_55
        · rw [if_neg c8] at h
          refine lv_aload_n S.1 S.2.1 dX8_isFlat_40 rfl (lv_at hl 0 rfl) ?_
          refine lv_lload_n S.1 S.2.1 dX8_isFlat_41 rfl (lv_at hl 1 rfl) ?_
          refine lv_iconst (v := 4) S.1 S.2.1 dX8_isFlat_42 (by decide) ?_
          refine lv_iconst (v := 3) S.1 S.2.1 dX8_isFlat_43 (by decide) ?_
          obtain ⟨v9, ev9, h⟩ := ob_s h
          refine pm_cVr (As := [.long l1, .int (4 : Int32), .int (3 : Int32)]) (rest := []) S hK hX hP va_S.rf (c_X8_goesIn l ev z E hth th l1 (4 : Int32) (3 : Int32) v9 ev9) vm_X8_goesIn mw_4_202 (rc_6 hK hP hth) ⟨⟨rfl, rfl⟩, by decide, by decide⟩ rfl hl.1 rfl (Nat.le_of_ble_eq_true rfl) ⟨Nat.zero_le _, Nat.zero_le _⟩ dX8_isFlat_44 ?_
          refine lv_if_eq (tgt := 54) S.1 S.2.1 dX8_isFlat_47 (by decide) (fun c10 => ?_) (fun c10 => ?_)
          · rw [if_pos c10] at h
            refine lv_iconst (v := 0) S.1 S.2.1 dX8_isFlat_54 (by decide) ?_
            exact pm_zretR S hr hlk (Or.inl rfl) (Option.some.inj h) dX8_isFlat_55
          · rw [if_neg c10] at h
            refine lv_iconst (v := 1) S.1 S.2.1 dX8_isFlat_50 (by decide) ?_
            refine lv_goto (tgt := 55) S.1 S.2.1 dX8_isFlat_51 (by decide) ?_
            exact pm_zretR S hr hlk (Or.inr rfl) (Option.some.inj h) dX8_isFlat_55
theorem vm_X8_isFlat : pm_Vm yX8_isFlat cX8_isFlat 3 (some .boolean) 1 := ⟨mw_4_225, mw_4_224, ms_611, mw_1_7, by decide, by decide⟩
def q_X8_putsBack_2 (ev : EV) (th : Nat) : Nat → Int32 → PS → Option PS
  | 0, _, _ => none
  | n + 1, l1, z => if (5 : Int32) ≤ l1 then (some z) else (ck (inB l1 5) (bd ((rJ z (rf ev 129 th) l1.toNatClampNeg)) (fun v3 => ck (inB l1 5) (bd (wJ z (rf ev 123 th) l1.toNatClampNeg v3) (fun z5 => bd (l1 + (1 : Int32)) (fun v6 => q_X8_putsBack_2 ev th n v6 z5))))))
set_option maxRecDepth 20000 in
set_option maxHeartbeats 4000000 in
theorem w_X8_putsBack_2 {ev : EV} {th : Nat} {p : Program} {l : Launch} {e : Env} {s : State} {m : MethodId} {args : Array Value} {below : List Frame} {meth : Method} {c : Code} {z9 : PS} (S : CallFix p m c cX8_putsBack 2 s args gT RX8) (hr : meth.sig.returnType = none) (hlk : meth.locks = false) (E : EWF ev) (hK : KK ev s) (hX : pXt ev s) (hth : isK ev 6 th) : ∀ (n : Nat), ∀ (l1 : Int32) (z : PS) (ls : Array Slot) (H : Heap) (locs : List Loc), q_X8_putsBack_2 ev th n l1 z = some z9 → lv_has ls 2 [(0, .ref th), (1, .int l1)] → Wd ev z H → SS ev s H locs → W p l e (pR 0 0) s m args below meth c H locs 0 0 (MQ below (pQv ev z9) args s 0 0 (eA ev)) (F0 m 2 ls []) := by
  intro n
  induction n with
  | zero => intro l1 z ls H locs h; cases h
  | succ n ih =>
    intro l1 z ls H locs h hl hP hS
    rw [q_X8_putsBack_2] at h
    refine lv_iload_n S.1 S.2.1 dX8_putsBack_2 rfl (lv_at hl 1 rfl) ?_
    refine lv_iconst (v := 5) S.1 S.2.1 dX8_putsBack_3 (by decide) ?_
    refine lv_icmp_ge (tgt := 25) S.1 S.2.1 dX8_putsBack_4 (by decide) (fun c1 => ?_) (fun c1 => ?_)
    · rw [if_pos c1] at h
      exact pm_vretW S hr hlk hP hS (Option.some.inj h) dX8_putsBack_25
    · rw [if_neg c1] at h
      refine lv_aload_n S.1 S.2.1 dX8_putsBack_7 rfl (lv_at hl 0 rfl) ?_
      refine gf_6_3 S hK hP hth mw_3_224 dX8_putsBack_8 ?_
      refine lv_iload_n S.1 S.2.1 dX8_putsBack_11 rfl (lv_at hl 1 rfl) ?_
      refine lv_aload_n S.1 S.2.1 dX8_putsBack_12 rfl (lv_at hl 0 rfl) ?_
      refine gf_6_9 S hK hP hth mw_3_230 dX8_putsBack_13 ?_
      refine lv_iload_n S.1 S.2.1 dX8_putsBack_16 rfl (lv_at hl 1 rfl) ?_
      obtain ⟨hc2, h⟩ := ck_s h
      refine al_J S hK hP (E_6_9 E hth) (by rw [N_6_9 E hth]; exact hc2) dX8_putsBack_17 ?_
      obtain ⟨v3, ev3, h⟩ := bd_s h
      refine pm_nmL ev3 ?_
      obtain ⟨hc4, h⟩ := ck_s h
      obtain ⟨z5, ez5, h⟩ := bd_s h
      refine as_J S E hK hP hS (E_6_3 E hth) (by rw [N_6_3 E hth]; exact hc4) dX8_putsBack_18 (fun H locs hP hS => ?_)
      rw [← ez5] at hP
      obtain ⟨v6, ev6, h⟩ := bd_s h
      refine lv_iinc (v := v6) (lv' := [(1, .int v6), (0, .ref th)]) S.1 S.2.1 dX8_putsBack_19 hl (k := 1) rfl (by rw [ev6]; rfl) (by decide) rfl (fun ls hl => ?_)
      refine lv_goto (tgt := 2) S.1 S.2.1 dX8_putsBack_22 (by decide) ?_
      exact ih v6 z5 ls _ _ h (lv_sub hl [1, 0] rfl) hP hS
def g_X8_putsBack (ev : EV) (z : PS) (th : Nat) : Option PS := q_X8_putsBack_2 ev th FU (0 : Int32) z
set_option maxRecDepth 20000 in
set_option maxHeartbeats 4000000 in
theorem c_X8_putsBack (l : Launch) (ev : EV) (z : PS) (E : EWF ev) {th : Nat} (hth : isK ev 6 th) (th_ : Nat) (z9 : PS) (h : g_X8_putsBack ev z th = some z9) : Met l yX8_putsBack (pWs yX8_putsBack cX8_putsBack 2 none) (pR 0 0) (va_Pc [.ref th] (pPe ev z)) (pQv ev z9) 0 0 (eA ev) := by
  refine pm_of (by decide) (Nat.le_of_ble_eq_true rfl) ?_
  intro p e s m below meth c S hr hlk hv ls hl
  obtain ⟨hP, hK, hX⟩ := hv
  have hS : SS ev s s.heap [] := va_S.rf
  have hl : lv_has ls 2 [(0, .ref th)] := hl
  unfold g_X8_putsBack at h
  refine lv_iconst (v := 0) S.1 S.2.1 dX8_putsBack_0 (by decide) ?_
  refine lv_istore_n (lv' := [(1, .int (0 : Int32)), (0, .ref th)]) S.1 S.2.1 dX8_putsBack_1 rfl hl (by decide) rfl (fun ls hl => ?_)
  exact w_X8_putsBack_2 S hr hlk E hK hX hth FU (0 : Int32) z ls _ _ h (lv_sub hl [1, 0] rfl) hP hS
theorem vm_X8_putsBack : pm_Vm yX8_putsBack cX8_putsBack 2 none 0 := ⟨mw_4_229, mw_4_228, ms_615, mw_1_7, by decide, by decide⟩
def q_X8_flattens_27 (ev : EV) (th : Nat) : Nat → Int64 → Int64 → PS → Option PS
  | 0, _, _, _ => none
  | n + 1, l1, l3, z => if ((((l1 * l1) * l1) * l1) * l1) ≤ l3 then (some z) else (ob (g_X8_isFlat ev z th l1) (fun v8 => if v8 = 0 then (ob (g_X8_putsBack ev z th) (fun z10 => ck (¬ l1 = 0) (ck (¬ l1 = 0) (ck (¬ l1 = 0) (ck (¬ (l1 * l1) = 0) (ck (¬ l1 = 0) (ck (¬ l1 = 0) (ck (¬ (l1 * l1) = 0) (ob (g_X8_changes ev z10 th (jr64 (((l3 / l1) / l1) / l1) (l1 * l1)) (jr64 l3 l1) (jr64 (l3 / l1) (l1 * l1))) (fun z18 => bd ((l3 + (1 : Int64))) (fun v19 => q_X8_flattens_27 ev th n l1 v19 z18))))))))))) else (some z)))
set_option maxRecDepth 20000 in
set_option maxHeartbeats 4000000 in
theorem w_X8_flattens_27 {ev : EV} {th : Nat} {p : Program} {l : Launch} {e : Env} {s : State} {m : MethodId} {args : Array Value} {below : List Frame} {meth : Method} {c : Code} {z9 : PS} (S : CallFix p m c cX8_flattens 5 s args gT RX8) (hr : meth.sig.returnType = none) (hlk : meth.locks = false) (E : EWF ev) (hK : KK ev s) (hX : pXt ev s) (hth : isK ev 6 th) : ∀ (n : Nat), ∀ (l1 : Int64) (l3 : Int64) (z : PS) (ls : Array Slot) (H : Heap) (locs : List Loc), q_X8_flattens_27 ev th n l1 l3 z = some z9 → lv_has ls 5 [(0, .ref th), (1, .long l1), (3, .long l3)] → Wd ev z H → SS ev s H locs → W p l e (pR 3 107) s m args below meth c H locs 0 0 (MQ below (pQv ev z9) args s 0 0 (eA ev)) (F0 m 27 ls []) := by
  intro n
  induction n with
  | zero => intro l1 l3 z ls H locs h; cases h
  | succ n ih =>
    intro l1 l3 z ls H locs h hl hP hS
    rw [q_X8_flattens_27] at h
    refine lv_lload_n S.1 S.2.1 dX8_flattens_27 rfl (lv_at hl 2 rfl) ?_
    refine lv_lload_n S.1 S.2.1 dX8_flattens_28 rfl (lv_at hl 1 rfl) ?_
    refine lv_lload_n S.1 S.2.1 dX8_flattens_29 rfl (lv_at hl 1 rfl) ?_
    refine lv_lmul S.1 S.2.1 dX8_flattens_30 ?_
    refine lv_lload_n S.1 S.2.1 dX8_flattens_31 rfl (lv_at hl 1 rfl) ?_
    refine lv_lmul S.1 S.2.1 dX8_flattens_32 ?_
    refine lv_lload_n S.1 S.2.1 dX8_flattens_33 rfl (lv_at hl 1 rfl) ?_
    refine lv_lmul S.1 S.2.1 dX8_flattens_34 ?_
    refine lv_lload_n S.1 S.2.1 dX8_flattens_35 rfl (lv_at hl 1 rfl) ?_
    refine lv_lmul S.1 S.2.1 dX8_flattens_36 ?_
    refine pm_lge (tgt := 85) S dX8_flattens_37 dX8_flattens_38 (by decide) (fun c7 => ?_) (fun c7 => ?_)
    · rw [if_pos c7] at h
      exact pm_vretW S hr hlk hP hS (Option.some.inj h) dX8_flattens_85
    · rw [if_neg c7] at h
      refine lv_aload_n S.1 S.2.1 dX8_flattens_41 rfl (lv_at hl 0 rfl) ?_
      refine lv_lload_n S.1 S.2.1 dX8_flattens_42 rfl (lv_at hl 1 rfl) ?_
      obtain ⟨v8, ev8, h⟩ := ob_s h
      refine pm_cVr (As := [.long l1]) (rest := []) S hK hX hP hS (c_X8_isFlat l ev z E hth th l1 v8 ev8) vm_X8_isFlat mw_4_222 (rc_6 hK hP hth) ⟨⟨rfl, rfl⟩, by decide, by decide⟩ rfl hl.1 rfl (Nat.le_of_ble_eq_true rfl) ⟨Nat.zero_le _, Nat.zero_le _⟩ dX8_flattens_43 ?_
      refine lv_if_ne (tgt := 85) S.1 S.2.1 dX8_flattens_46 (by decide) (fun c9 => ?_) (fun c9 => ?_)
      · rw [if_neg c9] at h
        exact pm_vretW S hr hlk hP hS (Option.some.inj h) dX8_flattens_85
      · rw [if_pos c9] at h
        refine lv_aload_n S.1 S.2.1 dX8_flattens_49 rfl (lv_at hl 0 rfl) ?_
        obtain ⟨z10, ez10, h⟩ := ob_s h
        refine pm_cVv (As := []) (rest := []) S hK hX hP hS (c_X8_putsBack l ev z E hth th z10 ez10) vm_X8_putsBack mw_4_226 (rc_6 hK hP hth) ⟨⟨rfl, rfl⟩, by decide, by decide⟩ rfl hl.1 rfl (Nat.le_of_ble_eq_true rfl) ⟨Nat.zero_le _, Nat.zero_le _⟩ dX8_flattens_50 (fun H locs hP hS => ?_)
        refine lv_aload_n S.1 S.2.1 dX8_flattens_53 rfl (lv_at hl 0 rfl) ?_
        refine lv_lload_n S.1 S.2.1 dX8_flattens_54 rfl (lv_at hl 2 rfl) ?_
        refine lv_lload_n S.1 S.2.1 dX8_flattens_55 rfl (lv_at hl 1 rfl) ?_
        obtain ⟨hc11, h⟩ := ck_s h
        refine lv_ldiv S.1 S.2.1 dX8_flattens_56 hc11 ?_
        refine lv_lload_n S.1 S.2.1 dX8_flattens_57 rfl (lv_at hl 1 rfl) ?_
        obtain ⟨hc12, h⟩ := ck_s h
        refine lv_ldiv S.1 S.2.1 dX8_flattens_58 hc12 ?_
        refine lv_lload_n S.1 S.2.1 dX8_flattens_59 rfl (lv_at hl 1 rfl) ?_
        obtain ⟨hc13, h⟩ := ck_s h
        refine lv_ldiv S.1 S.2.1 dX8_flattens_60 hc13 ?_
        refine lv_lload_n S.1 S.2.1 dX8_flattens_61 rfl (lv_at hl 1 rfl) ?_
        refine lv_lload_n S.1 S.2.1 dX8_flattens_62 rfl (lv_at hl 1 rfl) ?_
        refine lv_lmul S.1 S.2.1 dX8_flattens_63 ?_
        obtain ⟨hc14, h⟩ := ck_s h
        refine pm_lrem S hc14 dX8_flattens_64 ?_
        refine lv_lload_n S.1 S.2.1 dX8_flattens_65 rfl (lv_at hl 2 rfl) ?_
        refine lv_lload_n S.1 S.2.1 dX8_flattens_66 rfl (lv_at hl 1 rfl) ?_
        obtain ⟨hc15, h⟩ := ck_s h
        refine pm_lrem S hc15 dX8_flattens_67 ?_
        refine lv_lload_n S.1 S.2.1 dX8_flattens_68 rfl (lv_at hl 2 rfl) ?_
        refine lv_lload_n S.1 S.2.1 dX8_flattens_69 rfl (lv_at hl 1 rfl) ?_
        obtain ⟨hc16, h⟩ := ck_s h
        refine lv_ldiv S.1 S.2.1 dX8_flattens_70 hc16 ?_
        refine lv_lload_n S.1 S.2.1 dX8_flattens_71 rfl (lv_at hl 1 rfl) ?_
        refine lv_lload_n S.1 S.2.1 dX8_flattens_72 rfl (lv_at hl 1 rfl) ?_
        refine lv_lmul S.1 S.2.1 dX8_flattens_73 ?_
        obtain ⟨hc17, h⟩ := ck_s h
        refine pm_lrem S hc17 dX8_flattens_74 ?_
        obtain ⟨z18, ez18, h⟩ := ob_s h
        refine pm_cVv (As := [.long (jr64 (((l3 / l1) / l1) / l1) (l1 * l1)), .long (jr64 l3 l1), .long (jr64 (l3 / l1) (l1 * l1))]) (rest := []) S hK hX hP hS (c_X8_changes l ev z10 E hth th (jr64 (((l3 / l1) / l1) / l1) (l1 * l1)) (jr64 l3 l1) (jr64 (l3 / l1) (l1 * l1)) z18 ez18) vm_X8_changes mw_4_95 (rc_6 hK hP hth) ⟨⟨rfl, rfl⟩, by decide, by decide⟩ rfl hl.1 rfl (Nat.le_of_ble_eq_true rfl) ⟨Nat.zero_le _, Nat.zero_le _⟩ dX8_flattens_75 (fun H locs hP hS => ?_)
        refine lv_lload_n S.1 S.2.1 dX8_flattens_78 rfl (lv_at hl 2 rfl) ?_
        refine lv_lconst (v := 1) S.1 S.2.1 dX8_flattens_79 (by decide) ?_
        refine lv_ladd S.1 S.2.1 dX8_flattens_80 ?_
        obtain ⟨v19, ev19, h⟩ := bd_s h
        refine pm_nmL ev19 ?_
        refine lv_lstore_n (lv' := [(3, .long v19), (0, .ref th), (1, .long l1)]) S.1 S.2.1 dX8_flattens_81 rfl hl (by decide) rfl (fun ls hl => ?_)
        refine lv_goto (tgt := 27) S.1 S.2.1 dX8_flattens_82 (by decide) ?_
        exact ih l1 v19 z18 ls _ _ h (lv_sub hl [1, 2, 0] rfl) hP hS
def q_X8_flattens_2 (ev : EV) (th : Nat) : Nat → Int64 → Int32 → PS → Option PS
  | 0, _, _, _ => none
  | n + 1, l1, l3, z => if (5 : Int32) ≤ l3 then (q_X8_flattens_27 ev th FU l1 (0 : Int64) z) else (ck (inB l3 5) (bd ((rJ z (rf ev 123 th) l3.toNatClampNeg)) (fun v3 => ck (inB l3 5) (bd (wJ z (rf ev 129 th) l3.toNatClampNeg v3) (fun z5 => bd (l3 + (1 : Int32)) (fun v6 => q_X8_flattens_2 ev th n l1 v6 z5))))))
set_option maxRecDepth 20000 in
set_option maxHeartbeats 4000000 in
theorem w_X8_flattens_2 {ev : EV} {th : Nat} {p : Program} {l : Launch} {e : Env} {s : State} {m : MethodId} {args : Array Value} {below : List Frame} {meth : Method} {c : Code} {z9 : PS} (S : CallFix p m c cX8_flattens 5 s args gT RX8) (hr : meth.sig.returnType = none) (hlk : meth.locks = false) (E : EWF ev) (hK : KK ev s) (hX : pXt ev s) (hth : isK ev 6 th) : ∀ (n : Nat), ∀ (l1 : Int64) (l3 : Int32) (z : PS) (ls : Array Slot) (H : Heap) (locs : List Loc), q_X8_flattens_2 ev th n l1 l3 z = some z9 → lv_has ls 5 [(0, .ref th), (1, .long l1), (3, .int l3)] → Wd ev z H → SS ev s H locs → W p l e (pR 3 107) s m args below meth c H locs 0 0 (MQ below (pQv ev z9) args s 0 0 (eA ev)) (F0 m 2 ls []) := by
  intro n
  induction n with
  | zero => intro l1 l3 z ls H locs h; cases h
  | succ n ih =>
    intro l1 l3 z ls H locs h hl hP hS
    rw [q_X8_flattens_2] at h
    refine lv_iload_n S.1 S.2.1 dX8_flattens_2 rfl (lv_at hl 2 rfl) ?_
    refine lv_iconst (v := 5) S.1 S.2.1 dX8_flattens_3 (by decide) ?_
    refine lv_icmp_ge (tgt := 25) S.1 S.2.1 dX8_flattens_4 (by decide) (fun c1 => ?_) (fun c1 => ?_)
    · rw [if_pos c1] at h
      refine lv_lconst (v := 0) S.1 S.2.1 dX8_flattens_25 (by decide) ?_
      refine lv_lstore_n (lv' := [(3, .long (0 : Int64)), (0, .ref th), (1, .long l1)]) S.1 S.2.1 dX8_flattens_26 rfl hl (by decide) rfl (fun ls hl => ?_)
      exact w_X8_flattens_27 S hr hlk E hK hX hth FU l1 (0 : Int64) z ls _ _ h (lv_sub hl [1, 2, 0] rfl) hP hS
    · rw [if_neg c1] at h
      refine lv_aload_n S.1 S.2.1 dX8_flattens_7 rfl (lv_at hl 0 rfl) ?_
      refine gf_6_9 S hK hP hth mw_3_230 dX8_flattens_8 ?_
      refine lv_iload_n S.1 S.2.1 dX8_flattens_11 rfl (lv_at hl 2 rfl) ?_
      refine lv_aload_n S.1 S.2.1 dX8_flattens_12 rfl (lv_at hl 0 rfl) ?_
      refine gf_6_3 S hK hP hth mw_3_224 dX8_flattens_13 ?_
      refine lv_iload_n S.1 S.2.1 dX8_flattens_16 rfl (lv_at hl 2 rfl) ?_
      obtain ⟨hc2, h⟩ := ck_s h
      refine al_J S hK hP (E_6_3 E hth) (by rw [N_6_3 E hth]; exact hc2) dX8_flattens_17 ?_
      obtain ⟨v3, ev3, h⟩ := bd_s h
      refine pm_nmL ev3 ?_
      obtain ⟨hc4, h⟩ := ck_s h
      obtain ⟨z5, ez5, h⟩ := bd_s h
      refine as_J S E hK hP hS (E_6_9 E hth) (by rw [N_6_9 E hth]; exact hc4) dX8_flattens_18 (fun H locs hP hS => ?_)
      rw [← ez5] at hP
      obtain ⟨v6, ev6, h⟩ := bd_s h
      refine lv_iinc (v := v6) (lv' := [(3, .int v6), (0, .ref th), (1, .long l1)]) S.1 S.2.1 dX8_flattens_19 hl (k := 2) rfl (by rw [ev6]; rfl) (by decide) rfl (fun ls hl => ?_)
      refine lv_goto (tgt := 2) S.1 S.2.1 dX8_flattens_22 (by decide) ?_
      exact ih l1 v6 z5 ls _ _ h (lv_sub hl [1, 2, 0] rfl) hP hS
def g_X8_flattens (ev : EV) (z : PS) (th : Nat) (l1 : Int64) : Option PS := q_X8_flattens_2 ev th FU l1 (0 : Int32) z
set_option maxRecDepth 20000 in
set_option maxHeartbeats 4000000 in
theorem c_X8_flattens (l : Launch) (ev : EV) (z : PS) (E : EWF ev) {th : Nat} (hth : isK ev 6 th) (th_ : Nat) (l1 : Int64) (z9 : PS) (h : g_X8_flattens ev z th l1 = some z9) : Met l yX8_flattens (pWs yX8_flattens cX8_flattens 5 none) (pR 3 107) (va_Pc [.ref th, .long l1] (pPe ev z)) (pQv ev z9) 0 0 (eA ev) := by
  refine pm_of (by decide) (Nat.le_of_ble_eq_true rfl) ?_
  intro p e s m below meth c S hr hlk hv ls hl
  obtain ⟨hP, hK, hX⟩ := hv
  have hS : SS ev s s.heap [] := va_S.rf
  have hl : lv_has ls 5 [(0, .ref th), (1, .long l1)] := hl
  unfold g_X8_flattens at h
  refine lv_iconst (v := 0) S.1 S.2.1 dX8_flattens_0 (by decide) ?_
  refine lv_istore_n (lv' := [(3, .int (0 : Int32)), (0, .ref th), (1, .long l1)]) S.1 S.2.1 dX8_flattens_1 rfl hl (by decide) rfl (fun ls hl => ?_)
  exact w_X8_flattens_2 S hr hlk E hK hX hth FU l1 (0 : Int32) z ls _ _ h (lv_sub hl [1, 2, 0] rfl) hP hS
theorem vm_X8_flattens : pm_Vm yX8_flattens cX8_flattens 5 none 1 := ⟨mw_4_221, mw_4_220, ms_620, mw_1_7, by decide, by decide⟩
def g_X8_cubic (ev : EV) (z : PS) (th : Nat) (l1 : Int64) (l3 : Int64) : Option Int64 := ck (¬ l1 = 0) (ck (¬ (l1 * l1) = 0) (ck (¬ ((l1 * l1) * l1) = 0) (ob (g_X8_modulo (((((l3 * l3) * l3) + ((((rJ z (rf ev 123 th) 1) / l1) * l3) * l3)) + (((rJ z (rf ev 123 th) 3) / (l1 * l1)) * l3)) + ((rJ z (rf ev 123 th) 4) / ((l1 * l1) * l1))) l1) (fun v4 => some v4))))
set_option maxRecDepth 20000 in
set_option maxHeartbeats 4000000 in
theorem c_X8_cubic (l : Launch) (ev : EV) (z : PS) (E : EWF ev) {th : Nat} (hth : isK ev 6 th) (th_ : Nat) (l1 : Int64) (l3 : Int64) (r : Int64) (h : g_X8_cubic ev z th l1 l3 = some r) : Met l yX8_cubic (pWs yX8_cubic cX8_cubic 5 (some .long)) (pR 1 35) (va_Pc [.ref th, .long l1, .long l3] (pPe ev z)) (k2_QcV (.long r)) 0 0 (fun _ => False) := by
  refine pm_of (by decide) (Nat.le_of_ble_eq_true rfl) ?_
  intro p e s m below meth c S hr hlk hv ls hl
  obtain ⟨hP, hK, hX⟩ := hv
  have hl : lv_has ls 5 [(0, .ref th), (1, .long l1), (3, .long l3)] := hl
  unfold g_X8_cubic at h
  refine lv_lload_n S.1 S.2.1 dX8_cubic_0 rfl (lv_at hl 2 rfl) ?_
  refine lv_lload_n S.1 S.2.1 dX8_cubic_1 rfl (lv_at hl 2 rfl) ?_
  refine lv_lmul S.1 S.2.1 dX8_cubic_2 ?_
  refine lv_lload_n S.1 S.2.1 dX8_cubic_3 rfl (lv_at hl 2 rfl) ?_
  refine lv_lmul S.1 S.2.1 dX8_cubic_4 ?_
  refine lv_aload_n S.1 S.2.1 dX8_cubic_5 rfl (lv_at hl 0 rfl) ?_
  refine gf_6_3 S hK hP hth mw_3_224 dX8_cubic_6 ?_
  refine lv_iconst (v := 1) S.1 S.2.1 dX8_cubic_9 (by decide) ?_
  refine al_J S hK hP (E_6_3 E hth) (by rw [N_6_3 E hth]; decide) dX8_cubic_10 ?_
  refine pm_nmL (v := (rJ z (rf ev 123 th) 1)) rfl ?_
  refine lv_lload_n S.1 S.2.1 dX8_cubic_11 rfl (lv_at hl 1 rfl) ?_
  obtain ⟨hc1, h⟩ := ck_s h
  refine lv_ldiv S.1 S.2.1 dX8_cubic_12 hc1 ?_
  refine lv_lload_n S.1 S.2.1 dX8_cubic_13 rfl (lv_at hl 2 rfl) ?_
  refine lv_lmul S.1 S.2.1 dX8_cubic_14 ?_
  refine lv_lload_n S.1 S.2.1 dX8_cubic_15 rfl (lv_at hl 2 rfl) ?_
  refine lv_lmul S.1 S.2.1 dX8_cubic_16 ?_
  refine lv_ladd S.1 S.2.1 dX8_cubic_17 ?_
  refine lv_aload_n S.1 S.2.1 dX8_cubic_18 rfl (lv_at hl 0 rfl) ?_
  refine gf_6_3 S hK hP hth mw_3_224 dX8_cubic_19 ?_
  refine lv_iconst (v := 3) S.1 S.2.1 dX8_cubic_22 (by decide) ?_
  refine al_J S hK hP (E_6_3 E hth) (by rw [N_6_3 E hth]; decide) dX8_cubic_23 ?_
  refine pm_nmL (v := (rJ z (rf ev 123 th) 3)) rfl ?_
  refine lv_lload_n S.1 S.2.1 dX8_cubic_24 rfl (lv_at hl 1 rfl) ?_
  refine lv_lload_n S.1 S.2.1 dX8_cubic_25 rfl (lv_at hl 1 rfl) ?_
  refine lv_lmul S.1 S.2.1 dX8_cubic_26 ?_
  obtain ⟨hc2, h⟩ := ck_s h
  refine lv_ldiv S.1 S.2.1 dX8_cubic_27 hc2 ?_
  refine lv_lload_n S.1 S.2.1 dX8_cubic_28 rfl (lv_at hl 2 rfl) ?_
  refine lv_lmul S.1 S.2.1 dX8_cubic_29 ?_
  refine lv_ladd S.1 S.2.1 dX8_cubic_30 ?_
  refine lv_aload_n S.1 S.2.1 dX8_cubic_31 rfl (lv_at hl 0 rfl) ?_
  refine gf_6_3 S hK hP hth mw_3_224 dX8_cubic_32 ?_
  refine lv_iconst (v := 4) S.1 S.2.1 dX8_cubic_35 (by decide) ?_
  refine al_J S hK hP (E_6_3 E hth) (by rw [N_6_3 E hth]; decide) dX8_cubic_36 ?_
  refine pm_nmL (v := (rJ z (rf ev 123 th) 4)) rfl ?_
  refine lv_lload_n S.1 S.2.1 dX8_cubic_37 rfl (lv_at hl 1 rfl) ?_
  refine lv_lload_n S.1 S.2.1 dX8_cubic_38 rfl (lv_at hl 1 rfl) ?_
  refine lv_lmul S.1 S.2.1 dX8_cubic_39 ?_
  refine lv_lload_n S.1 S.2.1 dX8_cubic_40 rfl (lv_at hl 1 rfl) ?_
  refine lv_lmul S.1 S.2.1 dX8_cubic_41 ?_
  obtain ⟨hc3, h⟩ := ck_s h
  refine lv_ldiv S.1 S.2.1 dX8_cubic_42 hc3 ?_
  refine lv_ladd S.1 S.2.1 dX8_cubic_43 ?_
  refine lv_lload_n S.1 S.2.1 dX8_cubic_44 rfl (lv_at hl 1 rfl) ?_
  obtain ⟨v4, ev4, h⟩ := ob_s h
  refine pm_cS (As := [.long (((((l3 * l3) * l3) + ((((rJ z (rf ev 123 th) 1) / l1) * l3) * l3)) + (((rJ z (rf ev 123 th) 3) / (l1 * l1)) * l3)) + ((rJ z (rf ev 123 th) 4) / ((l1 * l1) * l1))), .long l1]) (rest := []) S (c_X8_modulo l (((((l3 * l3) * l3) + ((((rJ z (rf ev 123 th) 1) / l1) * l3) * l3)) + (((rJ z (rf ev 123 th) 3) / (l1 * l1)) * l3)) + ((rJ z (rf ev 123 th) 4) / ((l1 * l1) * l1))) l1 v4 ev4) sm_X8_modulo mw_4_183 ⟨⟨rfl, rfl⟩, by decide, by decide⟩ rfl hl.1 rfl (Nat.le_of_ble_eq_true rfl) ⟨Nat.zero_le _, Nat.zero_le _⟩ dX8_cubic_45 ?_
  exact pm_lretR S hr hlk (Option.some.inj h) dX8_cubic_48
theorem vm_X8_cubic : pm_Vm yX8_cubic cX8_cubic 5 (some .long) 2 := ⟨mw_5_2, mw_5_1, ms_623, mw_1_7, by decide, by decide⟩
def g_X8_slope (ev : EV) (z : PS) (th : Nat) (l1 : Int64) (l3 : Int64) : Option Int64 := ck (¬ l1 = 0) (ck (¬ (l1 * l1) = 0) (ob (g_X8_modulo (((((3 : Int64) * l3) * l3) + (((2 : Int64) * ((rJ z (rf ev 123 th) 1) / l1)) * l3)) + ((rJ z (rf ev 123 th) 3) / (l1 * l1))) l1) (fun v3 => some v3)))
set_option maxRecDepth 20000 in
set_option maxHeartbeats 4000000 in
theorem c_X8_slope (l : Launch) (ev : EV) (z : PS) (E : EWF ev) {th : Nat} (hth : isK ev 6 th) (th_ : Nat) (l1 : Int64) (l3 : Int64) (r : Int64) (h : g_X8_slope ev z th l1 l3 = some r) : Met l yX8_slope (pWs yX8_slope cX8_slope 5 (some .long)) (pR 1 35) (va_Pc [.ref th, .long l1, .long l3] (pPe ev z)) (k2_QcV (.long r)) 0 0 (fun _ => False) := by
  refine pm_of (by decide) (Nat.le_of_ble_eq_true rfl) ?_
  intro p e s m below meth c S hr hlk hv ls hl
  obtain ⟨hP, hK, hX⟩ := hv
  have hl : lv_has ls 5 [(0, .ref th), (1, .long l1), (3, .long l3)] := hl
  unfold g_X8_slope at h
  refine pm_ldc2 S mw_4_99 dX8_slope_0 ?_
  refine lv_lload_n S.1 S.2.1 dX8_slope_3 rfl (lv_at hl 2 rfl) ?_
  refine lv_lmul S.1 S.2.1 dX8_slope_4 ?_
  refine lv_lload_n S.1 S.2.1 dX8_slope_5 rfl (lv_at hl 2 rfl) ?_
  refine lv_lmul S.1 S.2.1 dX8_slope_6 ?_
  refine pm_ldc2 S mw_4_59 dX8_slope_7 ?_
  refine lv_aload_n S.1 S.2.1 dX8_slope_10 rfl (lv_at hl 0 rfl) ?_
  refine gf_6_3 S hK hP hth mw_3_224 dX8_slope_11 ?_
  refine lv_iconst (v := 1) S.1 S.2.1 dX8_slope_14 (by decide) ?_
  refine al_J S hK hP (E_6_3 E hth) (by rw [N_6_3 E hth]; decide) dX8_slope_15 ?_
  refine pm_nmL (v := (rJ z (rf ev 123 th) 1)) rfl ?_
  refine lv_lload_n S.1 S.2.1 dX8_slope_16 rfl (lv_at hl 1 rfl) ?_
  obtain ⟨hc1, h⟩ := ck_s h
  refine lv_ldiv S.1 S.2.1 dX8_slope_17 hc1 ?_
  refine lv_lmul S.1 S.2.1 dX8_slope_18 ?_
  refine lv_lload_n S.1 S.2.1 dX8_slope_19 rfl (lv_at hl 2 rfl) ?_
  refine lv_lmul S.1 S.2.1 dX8_slope_20 ?_
  refine lv_ladd S.1 S.2.1 dX8_slope_21 ?_
  refine lv_aload_n S.1 S.2.1 dX8_slope_22 rfl (lv_at hl 0 rfl) ?_
  refine gf_6_3 S hK hP hth mw_3_224 dX8_slope_23 ?_
  refine lv_iconst (v := 3) S.1 S.2.1 dX8_slope_26 (by decide) ?_
  refine al_J S hK hP (E_6_3 E hth) (by rw [N_6_3 E hth]; decide) dX8_slope_27 ?_
  refine pm_nmL (v := (rJ z (rf ev 123 th) 3)) rfl ?_
  refine lv_lload_n S.1 S.2.1 dX8_slope_28 rfl (lv_at hl 1 rfl) ?_
  refine lv_lload_n S.1 S.2.1 dX8_slope_29 rfl (lv_at hl 1 rfl) ?_
  refine lv_lmul S.1 S.2.1 dX8_slope_30 ?_
  obtain ⟨hc2, h⟩ := ck_s h
  refine lv_ldiv S.1 S.2.1 dX8_slope_31 hc2 ?_
  refine lv_ladd S.1 S.2.1 dX8_slope_32 ?_
  refine lv_lload_n S.1 S.2.1 dX8_slope_33 rfl (lv_at hl 1 rfl) ?_
  obtain ⟨v3, ev3, h⟩ := ob_s h
  refine pm_cS (As := [.long (((((3 : Int64) * l3) * l3) + (((2 : Int64) * ((rJ z (rf ev 123 th) 1) / l1)) * l3)) + ((rJ z (rf ev 123 th) 3) / (l1 * l1))), .long l1]) (rest := []) S (c_X8_modulo l (((((3 : Int64) * l3) * l3) + (((2 : Int64) * ((rJ z (rf ev 123 th) 1) / l1)) * l3)) + ((rJ z (rf ev 123 th) 3) / (l1 * l1))) l1 v3 ev3) sm_X8_modulo mw_4_183 ⟨⟨rfl, rfl⟩, by decide, by decide⟩ rfl hl.1 rfl (Nat.le_of_ble_eq_true rfl) ⟨Nat.zero_le _, Nat.zero_le _⟩ dX8_slope_34 ?_
  exact pm_lretR S hr hlk (Option.some.inj h) dX8_slope_37
theorem vm_X8_slope : pm_Vm yX8_slope cX8_slope 5 (some .long) 2 := ⟨mw_5_10, mw_5_9, ms_626, mw_1_7, by decide, by decide⟩
def q_X8_rootsOfCubic_5 (ev : EV) (z : PS) (th : Nat) : Nat → Int64 → Int32 → Int64 → Option Int32
  | 0, _, _, _ => none
  | n + 1, l1, l3, l4 => if l1 ≤ l4 then (some l3) else (ob (g_X8_cubic ev z th l1 l4) (fun v2 => if v2 = (0 : Int64) then (bd ((l3 + (1 : Int32))) (fun v6 => bd ((l4 + (1 : Int64))) (fun v7 => q_X8_rootsOfCubic_5 ev z th n l1 v6 v7))) else (bd ((l3 + (0 : Int32))) (fun v4 => bd ((l4 + (1 : Int64))) (fun v5 => q_X8_rootsOfCubic_5 ev z th n l1 v4 v5)))))
set_option maxRecDepth 20000 in
set_option maxHeartbeats 4000000 in
theorem w_X8_rootsOfCubic_5 {ev : EV} {z : PS} {th : Nat} {p : Program} {l : Launch} {e : Env} {s : State} {m : MethodId} {args : Array Value} {below : List Frame} {meth : Method} {c : Code} {r : Int32} (S : CallFix p m c cX8_rootsOfCubic 6 s args gT RX8) (hr : meth.sig.returnType = (some .int)) (hlk : meth.locks = false) (E : EWF ev) (hK : KK ev s) (hX : pXt ev s) (hP : Wd ev z s.heap) (hth : isK ev 6 th) : ∀ (n : Nat), ∀ (l1 : Int64) (l3 : Int32) (l4 : Int64) (ls : Array Slot), q_X8_rootsOfCubic_5 ev z th n l1 l3 l4 = some r → lv_has ls 6 [(0, .ref th), (1, .long l1), (3, .int l3), (4, .long l4)] → W p l e (pR 2 71) s m args below meth c s.heap [] 0 0 (MQ below (k2_QcV (.int r)) args s 0 0 (fun _ => False)) (F0 m 5 ls []) := by
  intro n
  induction n with
  | zero => intro l1 l3 l4 ls h; cases h
  | succ n ih =>
    intro l1 l3 l4 ls h hl
    rw [q_X8_rootsOfCubic_5] at h
    refine lv_lload S.1 S.2.1 dX8_rootsOfCubic_5 (lv_at hl 3 rfl) ?_
    refine lv_lload_n S.1 S.2.1 dX8_rootsOfCubic_7 rfl (lv_at hl 1 rfl) ?_
    refine pm_lge (tgt := 41) S dX8_rootsOfCubic_8 dX8_rootsOfCubic_9 (by decide) (fun c1 => ?_) (fun c1 => ?_)
    · rw [if_pos c1] at h
      refine lv_iload_n S.1 S.2.1 dX8_rootsOfCubic_41 rfl (lv_at hl 2 rfl) ?_
      exact pm_iretR S hr hlk (Option.some.inj h) dX8_rootsOfCubic_42
    · rw [if_neg c1] at h
      refine lv_iload_n S.1 S.2.1 dX8_rootsOfCubic_12 rfl (lv_at hl 2 rfl) ?_
      refine lv_aload_n S.1 S.2.1 dX8_rootsOfCubic_13 rfl (lv_at hl 0 rfl) ?_
      refine lv_lload_n S.1 S.2.1 dX8_rootsOfCubic_14 rfl (lv_at hl 1 rfl) ?_
      refine lv_lload S.1 S.2.1 dX8_rootsOfCubic_15 (lv_at hl 3 rfl) ?_
      obtain ⟨v2, ev2, h⟩ := ob_s h
      refine pm_cVr (As := [.long l1, .long l4]) (rest := [.int l3]) S hK hX hP va_S.rf (c_X8_cubic l ev z E hth th l1 l4 v2 ev2) vm_X8_cubic mw_4_239 (rc_6 hK hP hth) ⟨⟨rfl, rfl⟩, by decide, by decide⟩ rfl hl.1 rfl (Nat.le_of_ble_eq_true rfl) ⟨Nat.zero_le _, Nat.zero_le _⟩ dX8_rootsOfCubic_17 ?_
      refine lv_lconst (v := 0) S.1 S.2.1 dX8_rootsOfCubic_20 (by decide) ?_
      refine pm_lne (tgt := 29) S dX8_rootsOfCubic_21 dX8_rootsOfCubic_22 (by decide) (fun c3 => ?_) (fun c3 => ?_)
      · rw [if_neg c3] at h
        refine lv_iconst (v := 0) S.1 S.2.1 dX8_rootsOfCubic_29 (by decide) ?_
        refine lv_iadd S.1 S.2.1 dX8_rootsOfCubic_30 ?_
        obtain ⟨v4, ev4, h⟩ := bd_s h
        refine pm_nmI ev4 ?_
        refine lv_istore_n (lv' := [(3, .int v4), (0, .ref th), (1, .long l1), (4, .long l4)]) S.1 S.2.1 dX8_rootsOfCubic_31 rfl hl (by decide) rfl (fun ls hl => ?_)
        refine lv_lload S.1 S.2.1 dX8_rootsOfCubic_32 (lv_at hl 3 rfl) ?_
        refine lv_lconst (v := 1) S.1 S.2.1 dX8_rootsOfCubic_34 (by decide) ?_
        refine lv_ladd S.1 S.2.1 dX8_rootsOfCubic_35 ?_
        obtain ⟨v5, ev5, h⟩ := bd_s h
        refine pm_nmL ev5 ?_
        refine lv_lstore (lv' := [(4, .long v5), (3, .int v4), (0, .ref th), (1, .long l1)]) S.1 S.2.1 dX8_rootsOfCubic_36 hl (by decide) rfl (fun ls hl => ?_)
        refine lv_goto (tgt := 5) S.1 S.2.1 dX8_rootsOfCubic_38 (by decide) ?_
        exact ih l1 v4 v5 ls h (lv_sub hl [2, 3, 1, 0] rfl)
      · rw [if_pos c3] at h
        refine lv_iconst (v := 1) S.1 S.2.1 dX8_rootsOfCubic_25 (by decide) ?_
        refine lv_goto (tgt := 30) S.1 S.2.1 dX8_rootsOfCubic_26 (by decide) ?_
        refine lv_iadd S.1 S.2.1 dX8_rootsOfCubic_30 ?_
        obtain ⟨v6, ev6, h⟩ := bd_s h
        refine pm_nmI ev6 ?_
        refine lv_istore_n (lv' := [(3, .int v6), (0, .ref th), (1, .long l1), (4, .long l4)]) S.1 S.2.1 dX8_rootsOfCubic_31 rfl hl (by decide) rfl (fun ls hl => ?_)
        refine lv_lload S.1 S.2.1 dX8_rootsOfCubic_32 (lv_at hl 3 rfl) ?_
        refine lv_lconst (v := 1) S.1 S.2.1 dX8_rootsOfCubic_34 (by decide) ?_
        refine lv_ladd S.1 S.2.1 dX8_rootsOfCubic_35 ?_
        obtain ⟨v7, ev7, h⟩ := bd_s h
        refine pm_nmL ev7 ?_
        refine lv_lstore (lv' := [(4, .long v7), (3, .int v6), (0, .ref th), (1, .long l1)]) S.1 S.2.1 dX8_rootsOfCubic_36 hl (by decide) rfl (fun ls hl => ?_)
        refine lv_goto (tgt := 5) S.1 S.2.1 dX8_rootsOfCubic_38 (by decide) ?_
        exact ih l1 v6 v7 ls h (lv_sub hl [2, 3, 1, 0] rfl)
def g_X8_rootsOfCubic (ev : EV) (z : PS) (th : Nat) (l1 : Int64) : Option Int32 := q_X8_rootsOfCubic_5 ev z th FU l1 (0 : Int32) (0 : Int64)
set_option maxRecDepth 20000 in
set_option maxHeartbeats 4000000 in
theorem c_X8_rootsOfCubic (l : Launch) (ev : EV) (z : PS) (E : EWF ev) {th : Nat} (hth : isK ev 6 th) (th_ : Nat) (l1 : Int64) (r : Int32) (h : g_X8_rootsOfCubic ev z th l1 = some r) : Met l yX8_rootsOfCubic (pWs yX8_rootsOfCubic cX8_rootsOfCubic 6 (some .int)) (pR 2 71) (va_Pc [.ref th, .long l1] (pPe ev z)) (k2_QcV (.int r)) 0 0 (fun _ => False) := by
  refine pm_of (by decide) (Nat.le_of_ble_eq_true rfl) ?_
  intro p e s m below meth c S hr hlk hv ls hl
  obtain ⟨hP, hK, hX⟩ := hv
  have hl : lv_has ls 6 [(0, .ref th), (1, .long l1)] := hl
  unfold g_X8_rootsOfCubic at h
  refine lv_iconst (v := 0) S.1 S.2.1 dX8_rootsOfCubic_0 (by decide) ?_
  refine lv_istore_n (lv' := [(3, .int (0 : Int32)), (0, .ref th), (1, .long l1)]) S.1 S.2.1 dX8_rootsOfCubic_1 rfl hl (by decide) rfl (fun ls hl => ?_)
  refine lv_lconst (v := 0) S.1 S.2.1 dX8_rootsOfCubic_2 (by decide) ?_
  refine lv_lstore (lv' := [(4, .long (0 : Int64)), (3, .int (0 : Int32)), (0, .ref th), (1, .long l1)]) S.1 S.2.1 dX8_rootsOfCubic_3 hl (by decide) rfl (fun ls hl => ?_)
  exact w_X8_rootsOfCubic_5 S hr hlk E hK hX hP hth FU l1 (0 : Int32) (0 : Int64) ls h (lv_sub hl [2, 3, 1, 0] rfl)
theorem vm_X8_rootsOfCubic : pm_Vm yX8_rootsOfCubic cX8_rootsOfCubic 6 (some .int) 1 := ⟨mw_4_238, mw_4_237, ms_630, mw_1_7, by decide, by decide⟩
def g_X8_unlikeRoots (ev : EV) (z : PS) (th : Nat) (l1 : Int64) : Option Int32 := ck (¬ l1 = 0) (ob (g_X8_modulo ((rJ z (rf ev 123 th) 1) / l1) l1) (fun v2 => ck (¬ (l1 * l1) = 0) (ob (g_X8_modulo ((rJ z (rf ev 123 th) 3) / (l1 * l1)) l1) (fun v4 => ck (¬ ((l1 * l1) * l1) = 0) (ob (g_X8_modulo ((rJ z (rf ev 123 th) 4) / ((l1 * l1) * l1)) l1) (fun v6 => bd ((((((((27 : Int64) * v6) * v6) - (((v2 * v2) * v4) * v4)) + (((((4 : Int64) * v2) * v2) * v2) * v6)) - ((((18 : Int64) * v2) * v4) * v6)) + ((((4 : Int64) * v4) * v4) * v4))) (fun v7 => ck (¬ l1 = 0) (if (jr64 v7 l1) = (0 : Int64) then (ck (¬ l1 = 0) (if (jr64 (((3 : Int64) * v4) - (v2 * v2)) l1) = (0 : Int64) then (some (1 : Int32)) else (some (2 : Int32)))) else (some (3 : Int32))))))))))
set_option maxRecDepth 20000 in
set_option maxHeartbeats 4000000 in
theorem c_X8_unlikeRoots (l : Launch) (ev : EV) (z : PS) (E : EWF ev) {th : Nat} (hth : isK ev 6 th) (th_ : Nat) (l1 : Int64) (r : Int32) (h : g_X8_unlikeRoots ev z th l1 = some r) : Met l yX8_unlikeRoots (pWs yX8_unlikeRoots cX8_unlikeRoots 11 (some .int)) (pR 1 35) (va_Pc [.ref th, .long l1] (pPe ev z)) (k2_QcV (.int r)) 0 0 (fun _ => False) := by
  refine pm_of (by decide) (Nat.le_of_ble_eq_true rfl) ?_
  intro p e s m below meth c S hr hlk hv ls hl
  obtain ⟨hP, hK, hX⟩ := hv
  have hl : lv_has ls 11 [(0, .ref th), (1, .long l1)] := hl
  unfold g_X8_unlikeRoots at h
  refine lv_aload_n S.1 S.2.1 dX8_unlikeRoots_0 rfl (lv_at hl 0 rfl) ?_
  refine gf_6_3 S hK hP hth mw_3_224 dX8_unlikeRoots_1 ?_
  refine lv_iconst (v := 1) S.1 S.2.1 dX8_unlikeRoots_4 (by decide) ?_
  refine al_J S hK hP (E_6_3 E hth) (by rw [N_6_3 E hth]; decide) dX8_unlikeRoots_5 ?_
  refine pm_nmL (v := (rJ z (rf ev 123 th) 1)) rfl ?_
  refine lv_lload_n S.1 S.2.1 dX8_unlikeRoots_6 rfl (lv_at hl 1 rfl) ?_
  obtain ⟨hc1, h⟩ := ck_s h
  refine lv_ldiv S.1 S.2.1 dX8_unlikeRoots_7 hc1 ?_
  refine lv_lload_n S.1 S.2.1 dX8_unlikeRoots_8 rfl (lv_at hl 1 rfl) ?_
  obtain ⟨v2, ev2, h⟩ := ob_s h
  refine pm_cS (As := [.long ((rJ z (rf ev 123 th) 1) / l1), .long l1]) (rest := []) S (c_X8_modulo l ((rJ z (rf ev 123 th) 1) / l1) l1 v2 ev2) sm_X8_modulo mw_4_183 ⟨⟨rfl, rfl⟩, by decide, by decide⟩ rfl hl.1 rfl (Nat.le_of_ble_eq_true rfl) ⟨Nat.zero_le _, Nat.zero_le _⟩ dX8_unlikeRoots_9 ?_
  refine lv_lstore_n (lv' := [(3, .long v2), (0, .ref th), (1, .long l1)]) S.1 S.2.1 dX8_unlikeRoots_12 rfl hl (by decide) rfl (fun ls hl => ?_)
  refine lv_aload_n S.1 S.2.1 dX8_unlikeRoots_13 rfl (lv_at hl 1 rfl) ?_
  refine gf_6_3 S hK hP hth mw_3_224 dX8_unlikeRoots_14 ?_
  refine lv_iconst (v := 3) S.1 S.2.1 dX8_unlikeRoots_17 (by decide) ?_
  refine al_J S hK hP (E_6_3 E hth) (by rw [N_6_3 E hth]; decide) dX8_unlikeRoots_18 ?_
  refine pm_nmL (v := (rJ z (rf ev 123 th) 3)) rfl ?_
  refine lv_lload_n S.1 S.2.1 dX8_unlikeRoots_19 rfl (lv_at hl 2 rfl) ?_
  refine lv_lload_n S.1 S.2.1 dX8_unlikeRoots_20 rfl (lv_at hl 2 rfl) ?_
  refine lv_lmul S.1 S.2.1 dX8_unlikeRoots_21 ?_
  obtain ⟨hc3, h⟩ := ck_s h
  refine lv_ldiv S.1 S.2.1 dX8_unlikeRoots_22 hc3 ?_
  refine lv_lload_n S.1 S.2.1 dX8_unlikeRoots_23 rfl (lv_at hl 2 rfl) ?_
  obtain ⟨v4, ev4, h⟩ := ob_s h
  refine pm_cS (As := [.long ((rJ z (rf ev 123 th) 3) / (l1 * l1)), .long l1]) (rest := []) S (c_X8_modulo l ((rJ z (rf ev 123 th) 3) / (l1 * l1)) l1 v4 ev4) sm_X8_modulo mw_4_183 ⟨⟨rfl, rfl⟩, by decide, by decide⟩ rfl hl.1 rfl (Nat.le_of_ble_eq_true rfl) ⟨Nat.zero_le _, Nat.zero_le _⟩ dX8_unlikeRoots_24 ?_
  refine lv_lstore (lv' := [(5, .long v4), (3, .long v2), (0, .ref th), (1, .long l1)]) S.1 S.2.1 dX8_unlikeRoots_27 hl (by decide) rfl (fun ls hl => ?_)
  refine lv_aload_n S.1 S.2.1 dX8_unlikeRoots_29 rfl (lv_at hl 2 rfl) ?_
  refine gf_6_3 S hK hP hth mw_3_224 dX8_unlikeRoots_30 ?_
  refine lv_iconst (v := 4) S.1 S.2.1 dX8_unlikeRoots_33 (by decide) ?_
  refine al_J S hK hP (E_6_3 E hth) (by rw [N_6_3 E hth]; decide) dX8_unlikeRoots_34 ?_
  refine pm_nmL (v := (rJ z (rf ev 123 th) 4)) rfl ?_
  refine lv_lload_n S.1 S.2.1 dX8_unlikeRoots_35 rfl (lv_at hl 3 rfl) ?_
  refine lv_lload_n S.1 S.2.1 dX8_unlikeRoots_36 rfl (lv_at hl 3 rfl) ?_
  refine lv_lmul S.1 S.2.1 dX8_unlikeRoots_37 ?_
  refine lv_lload_n S.1 S.2.1 dX8_unlikeRoots_38 rfl (lv_at hl 3 rfl) ?_
  refine lv_lmul S.1 S.2.1 dX8_unlikeRoots_39 ?_
  obtain ⟨hc5, h⟩ := ck_s h
  refine lv_ldiv S.1 S.2.1 dX8_unlikeRoots_40 hc5 ?_
  refine lv_lload_n S.1 S.2.1 dX8_unlikeRoots_41 rfl (lv_at hl 3 rfl) ?_
  obtain ⟨v6, ev6, h⟩ := ob_s h
  refine pm_cS (As := [.long ((rJ z (rf ev 123 th) 4) / ((l1 * l1) * l1)), .long l1]) (rest := []) S (c_X8_modulo l ((rJ z (rf ev 123 th) 4) / ((l1 * l1) * l1)) l1 v6 ev6) sm_X8_modulo mw_4_183 ⟨⟨rfl, rfl⟩, by decide, by decide⟩ rfl hl.1 rfl (Nat.le_of_ble_eq_true rfl) ⟨Nat.zero_le _, Nat.zero_le _⟩ dX8_unlikeRoots_42 ?_
  refine lv_lstore (lv' := [(7, .long v6), (5, .long v4), (3, .long v2), (0, .ref th), (1, .long l1)]) S.1 S.2.1 dX8_unlikeRoots_45 hl (by decide) rfl (fun ls hl => ?_)
  refine pm_ldc2 S mw_4_69 dX8_unlikeRoots_47 ?_
  refine lv_lload S.1 S.2.1 dX8_unlikeRoots_50 (lv_at hl 0 rfl) ?_
  refine lv_lmul S.1 S.2.1 dX8_unlikeRoots_52 ?_
  refine lv_lload S.1 S.2.1 dX8_unlikeRoots_53 (lv_at hl 0 rfl) ?_
  refine lv_lmul S.1 S.2.1 dX8_unlikeRoots_55 ?_
  refine lv_lload_n S.1 S.2.1 dX8_unlikeRoots_56 rfl (lv_at hl 2 rfl) ?_
  refine lv_lload_n S.1 S.2.1 dX8_unlikeRoots_57 rfl (lv_at hl 2 rfl) ?_
  refine lv_lmul S.1 S.2.1 dX8_unlikeRoots_58 ?_
  refine lv_lload S.1 S.2.1 dX8_unlikeRoots_59 (lv_at hl 1 rfl) ?_
  refine lv_lmul S.1 S.2.1 dX8_unlikeRoots_61 ?_
  refine lv_lload S.1 S.2.1 dX8_unlikeRoots_62 (lv_at hl 1 rfl) ?_
  refine lv_lmul S.1 S.2.1 dX8_unlikeRoots_64 ?_
  refine lv_lsub S.1 S.2.1 dX8_unlikeRoots_65 ?_
  refine pm_ldc2 S mw_4_54 dX8_unlikeRoots_66 ?_
  refine lv_lload_n S.1 S.2.1 dX8_unlikeRoots_69 rfl (lv_at hl 2 rfl) ?_
  refine lv_lmul S.1 S.2.1 dX8_unlikeRoots_70 ?_
  refine lv_lload_n S.1 S.2.1 dX8_unlikeRoots_71 rfl (lv_at hl 2 rfl) ?_
  refine lv_lmul S.1 S.2.1 dX8_unlikeRoots_72 ?_
  refine lv_lload_n S.1 S.2.1 dX8_unlikeRoots_73 rfl (lv_at hl 2 rfl) ?_
  refine lv_lmul S.1 S.2.1 dX8_unlikeRoots_74 ?_
  refine lv_lload S.1 S.2.1 dX8_unlikeRoots_75 (lv_at hl 0 rfl) ?_
  refine lv_lmul S.1 S.2.1 dX8_unlikeRoots_77 ?_
  refine lv_ladd S.1 S.2.1 dX8_unlikeRoots_78 ?_
  refine pm_ldc2 S mw_4_234 dX8_unlikeRoots_79 ?_
  refine lv_lload_n S.1 S.2.1 dX8_unlikeRoots_82 rfl (lv_at hl 2 rfl) ?_
  refine lv_lmul S.1 S.2.1 dX8_unlikeRoots_83 ?_
  refine lv_lload S.1 S.2.1 dX8_unlikeRoots_84 (lv_at hl 1 rfl) ?_
  refine lv_lmul S.1 S.2.1 dX8_unlikeRoots_86 ?_
  refine lv_lload S.1 S.2.1 dX8_unlikeRoots_87 (lv_at hl 0 rfl) ?_
  refine lv_lmul S.1 S.2.1 dX8_unlikeRoots_89 ?_
  refine lv_lsub S.1 S.2.1 dX8_unlikeRoots_90 ?_
  refine pm_ldc2 S mw_4_54 dX8_unlikeRoots_91 ?_
  refine lv_lload S.1 S.2.1 dX8_unlikeRoots_94 (lv_at hl 1 rfl) ?_
  refine lv_lmul S.1 S.2.1 dX8_unlikeRoots_96 ?_
  refine lv_lload S.1 S.2.1 dX8_unlikeRoots_97 (lv_at hl 1 rfl) ?_
  refine lv_lmul S.1 S.2.1 dX8_unlikeRoots_99 ?_
  refine lv_lload S.1 S.2.1 dX8_unlikeRoots_100 (lv_at hl 1 rfl) ?_
  refine lv_lmul S.1 S.2.1 dX8_unlikeRoots_102 ?_
  refine lv_ladd S.1 S.2.1 dX8_unlikeRoots_103 ?_
  obtain ⟨v7, ev7, h⟩ := bd_s h
  refine pm_nmL ev7 ?_
  refine lv_lstore (lv' := [(9, .long v7), (7, .long v6), (5, .long v4), (3, .long v2), (0, .ref th), (1, .long l1)]) S.1 S.2.1 dX8_unlikeRoots_104 hl (by decide) rfl (fun ls hl => ?_)
  refine lv_lload S.1 S.2.1 dX8_unlikeRoots_106 (lv_at hl 0 rfl) ?_
  refine lv_lload_n S.1 S.2.1 dX8_unlikeRoots_108 rfl (lv_at hl 5 rfl) ?_
  obtain ⟨hc8, h⟩ := ck_s h
  refine pm_lrem S hc8 dX8_unlikeRoots_109 ?_
  refine lv_lconst (v := 0) S.1 S.2.1 dX8_unlikeRoots_110 (by decide) ?_
  refine pm_leq (tgt := 119) S dX8_unlikeRoots_111 dX8_unlikeRoots_112 (by decide) (fun c9 => ?_) (fun c9 => ?_)
  · rw [if_pos c9] at h
    refine pm_ldc2 S mw_4_99 dX8_unlikeRoots_119 ?_
    refine lv_lload S.1 S.2.1 dX8_unlikeRoots_122 (lv_at hl 2 rfl) ?_
    refine lv_lmul S.1 S.2.1 dX8_unlikeRoots_124 ?_
    refine lv_lload_n S.1 S.2.1 dX8_unlikeRoots_125 rfl (lv_at hl 3 rfl) ?_
    refine lv_lload_n S.1 S.2.1 dX8_unlikeRoots_126 rfl (lv_at hl 3 rfl) ?_
    refine lv_lmul S.1 S.2.1 dX8_unlikeRoots_127 ?_
    refine lv_lsub S.1 S.2.1 dX8_unlikeRoots_128 ?_
    refine lv_lload_n S.1 S.2.1 dX8_unlikeRoots_129 rfl (lv_at hl 5 rfl) ?_
    obtain ⟨hc10, h⟩ := ck_s h
    refine pm_lrem S hc10 dX8_unlikeRoots_130 ?_
    refine lv_lconst (v := 0) S.1 S.2.1 dX8_unlikeRoots_131 (by decide) ?_
    refine pm_leq (tgt := 140) S dX8_unlikeRoots_132 dX8_unlikeRoots_133 (by decide) (fun c11 => ?_) (fun c11 => ?_)
    · rw [if_pos c11] at h
      refine lv_iconst (v := 1) S.1 S.2.1 dX8_unlikeRoots_140 (by decide) ?_
      exact pm_iretR S hr hlk (Option.some.inj h) dX8_unlikeRoots_141
    · rw [if_neg c11] at h
      refine lv_iconst (v := 2) S.1 S.2.1 dX8_unlikeRoots_136 (by decide) ?_
      refine lv_goto (tgt := 141) S.1 S.2.1 dX8_unlikeRoots_137 (by decide) ?_
      exact pm_iretR S hr hlk (Option.some.inj h) dX8_unlikeRoots_141
  · rw [if_neg c9] at h
    refine lv_iconst (v := 3) S.1 S.2.1 dX8_unlikeRoots_115 (by decide) ?_
    refine lv_goto (tgt := 141) S.1 S.2.1 dX8_unlikeRoots_116 (by decide) ?_
    exact pm_iretR S hr hlk (Option.some.inj h) dX8_unlikeRoots_141
theorem vm_X8_unlikeRoots : pm_Vm yX8_unlikeRoots cX8_unlikeRoots 11 (some .int) 1 := ⟨mw_4_233, mw_4_232, ms_634, mw_1_7, by decide, by decide⟩
def q_X8_movesRoot_3 (ev : EV) (th : Nat) : Nat → Int64 → Int32 → Int64 → PS → Option PS
  | 0, _, _, _, _ => none
  | n + 1, l1, l3, l4, z => ob (g_X8_cubic ev z th l1 l4) (fun v1 => if v1 = (0 : Int64) then (if l3 = 0 then (ob (g_X8_slope ev z th l1 l4) (fun v6 => if v6 = (0 : Int64) then (ob (g_X8_changes ev z th (l1 * l4) (0 : Int64) (0 : Int64)) (fun z8 => some z8)) else (bd ((l4 + (1 : Int64))) (fun v9 => q_X8_movesRoot_3 ev th n l1 l3 v9 z)))) else (ob (g_X8_changes ev z th (l1 * l4) (0 : Int64) (0 : Int64)) (fun z5 => some z5))) else (bd ((l4 + (1 : Int64))) (fun v3 => q_X8_movesRoot_3 ev th n l1 l3 v3 z)))
set_option maxRecDepth 20000 in
set_option maxHeartbeats 4000000 in
theorem w_X8_movesRoot_3 {ev : EV} {th : Nat} {p : Program} {l : Launch} {e : Env} {s : State} {m : MethodId} {args : Array Value} {below : List Frame} {meth : Method} {c : Code} {z9 : PS} (S : CallFix p m c cX8_movesRoot 6 s args gT RX8) (hr : meth.sig.returnType = none) (hlk : meth.locks = false) (E : EWF ev) (hK : KK ev s) (hX : pXt ev s) (hth : isK ev 6 th) : ∀ (n : Nat), ∀ (l1 : Int64) (l3 : Int32) (l4 : Int64) (z : PS) (ls : Array Slot) (H : Heap) (locs : List Loc), q_X8_movesRoot_3 ev th n l1 l3 l4 z = some z9 → lv_has ls 6 [(0, .ref th), (1, .long l1), (3, .int l3), (4, .long l4)] → Wd ev z H → SS ev s H locs → W p l e (pR 2 71) s m args below meth c H locs 0 0 (MQ below (pQv ev z9) args s 0 0 (eA ev)) (F0 m 3 ls []) := by
  intro n
  induction n with
  | zero => intro l1 l3 l4 z ls H locs h; cases h
  | succ n ih =>
    intro l1 l3 l4 z ls H locs h hl hP hS
    rw [q_X8_movesRoot_3] at h
    refine lv_aload_n S.1 S.2.1 dX8_movesRoot_3 rfl (lv_at hl 0 rfl) ?_
    refine lv_lload_n S.1 S.2.1 dX8_movesRoot_4 rfl (lv_at hl 1 rfl) ?_
    refine lv_lload S.1 S.2.1 dX8_movesRoot_5 (lv_at hl 3 rfl) ?_
    obtain ⟨v1, ev1, h⟩ := ob_s h
    refine pm_cVr (As := [.long l1, .long l4]) (rest := []) S hK hX hP hS (c_X8_cubic l ev z E hth th l1 l4 v1 ev1) vm_X8_cubic mw_4_239 (rc_6 hK hP hth) ⟨⟨rfl, rfl⟩, by decide, by decide⟩ rfl hl.1 rfl (Nat.le_of_ble_eq_true rfl) ⟨Nat.zero_le _, Nat.zero_le _⟩ dX8_movesRoot_7 ?_
    refine lv_lconst (v := 0) S.1 S.2.1 dX8_movesRoot_10 (by decide) ?_
    refine pm_lne (tgt := 31) S dX8_movesRoot_11 dX8_movesRoot_12 (by decide) (fun c2 => ?_) (fun c2 => ?_)
    · rw [if_neg c2] at h
      refine lv_lload S.1 S.2.1 dX8_movesRoot_31 (lv_at hl 3 rfl) ?_
      refine lv_lconst (v := 1) S.1 S.2.1 dX8_movesRoot_33 (by decide) ?_
      refine lv_ladd S.1 S.2.1 dX8_movesRoot_34 ?_
      obtain ⟨v3, ev3, h⟩ := bd_s h
      refine pm_nmL ev3 ?_
      refine lv_lstore (lv' := [(4, .long v3), (0, .ref th), (1, .long l1), (3, .int l3)]) S.1 S.2.1 dX8_movesRoot_35 hl (by decide) rfl (fun ls hl => ?_)
      refine lv_goto (tgt := 3) S.1 S.2.1 dX8_movesRoot_37 (by decide) ?_
      exact ih l1 l3 v3 z ls _ _ h (lv_sub hl [1, 2, 3, 0] rfl) hP hS
    · rw [if_pos c2] at h
      refine lv_iload_n S.1 S.2.1 dX8_movesRoot_15 rfl (lv_at hl 2 rfl) ?_
      refine lv_if_ne (tgt := 40) S.1 S.2.1 dX8_movesRoot_16 (by decide) (fun c4 => ?_) (fun c4 => ?_)
      · rw [if_neg c4] at h
        refine lv_aload_n S.1 S.2.1 dX8_movesRoot_40 rfl (lv_at hl 0 rfl) ?_
        refine lv_lload_n S.1 S.2.1 dX8_movesRoot_41 rfl (lv_at hl 1 rfl) ?_
        refine lv_lload S.1 S.2.1 dX8_movesRoot_42 (lv_at hl 3 rfl) ?_
        refine lv_lmul S.1 S.2.1 dX8_movesRoot_44 ?_
        refine lv_lconst (v := 0) S.1 S.2.1 dX8_movesRoot_45 (by decide) ?_
        refine lv_lconst (v := 0) S.1 S.2.1 dX8_movesRoot_46 (by decide) ?_
        obtain ⟨z5, ez5, h⟩ := ob_s h
        refine pm_cVv (As := [.long (l1 * l4), .long (0 : Int64), .long (0 : Int64)]) (rest := []) S hK hX hP hS (c_X8_changes l ev z E hth th (l1 * l4) (0 : Int64) (0 : Int64) z5 ez5) vm_X8_changes mw_4_95 (rc_6 hK hP hth) ⟨⟨rfl, rfl⟩, by decide, by decide⟩ rfl hl.1 rfl (Nat.le_of_ble_eq_true rfl) ⟨Nat.zero_le _, Nat.zero_le _⟩ dX8_movesRoot_47 (fun H locs hP hS => ?_)
        exact pm_vretW S hr hlk hP hS (Option.some.inj h) dX8_movesRoot_50
      · rw [if_pos c4] at h
        refine lv_aload_n S.1 S.2.1 dX8_movesRoot_19 rfl (lv_at hl 0 rfl) ?_
        refine lv_lload_n S.1 S.2.1 dX8_movesRoot_20 rfl (lv_at hl 1 rfl) ?_
        refine lv_lload S.1 S.2.1 dX8_movesRoot_21 (lv_at hl 3 rfl) ?_
        obtain ⟨v6, ev6, h⟩ := ob_s h
        refine pm_cVr (As := [.long l1, .long l4]) (rest := []) S hK hX hP hS (c_X8_slope l ev z E hth th l1 l4 v6 ev6) vm_X8_slope mw_5_7 (rc_6 hK hP hth) ⟨⟨rfl, rfl⟩, by decide, by decide⟩ rfl hl.1 rfl (Nat.le_of_ble_eq_true rfl) ⟨Nat.zero_le _, Nat.zero_le _⟩ dX8_movesRoot_23 ?_
        refine lv_lconst (v := 0) S.1 S.2.1 dX8_movesRoot_26 (by decide) ?_
        refine pm_leq (tgt := 40) S dX8_movesRoot_27 dX8_movesRoot_28 (by decide) (fun c7 => ?_) (fun c7 => ?_)
        · rw [if_pos c7] at h
          refine lv_aload_n S.1 S.2.1 dX8_movesRoot_40 rfl (lv_at hl 0 rfl) ?_
          refine lv_lload_n S.1 S.2.1 dX8_movesRoot_41 rfl (lv_at hl 1 rfl) ?_
          refine lv_lload S.1 S.2.1 dX8_movesRoot_42 (lv_at hl 3 rfl) ?_
          refine lv_lmul S.1 S.2.1 dX8_movesRoot_44 ?_
          refine lv_lconst (v := 0) S.1 S.2.1 dX8_movesRoot_45 (by decide) ?_
          refine lv_lconst (v := 0) S.1 S.2.1 dX8_movesRoot_46 (by decide) ?_
          obtain ⟨z8, ez8, h⟩ := ob_s h
          refine pm_cVv (As := [.long (l1 * l4), .long (0 : Int64), .long (0 : Int64)]) (rest := []) S hK hX hP hS (c_X8_changes l ev z E hth th (l1 * l4) (0 : Int64) (0 : Int64) z8 ez8) vm_X8_changes mw_4_95 (rc_6 hK hP hth) ⟨⟨rfl, rfl⟩, by decide, by decide⟩ rfl hl.1 rfl (Nat.le_of_ble_eq_true rfl) ⟨Nat.zero_le _, Nat.zero_le _⟩ dX8_movesRoot_47 (fun H locs hP hS => ?_)
          exact pm_vretW S hr hlk hP hS (Option.some.inj h) dX8_movesRoot_50
        · rw [if_neg c7] at h
          refine lv_lload S.1 S.2.1 dX8_movesRoot_31 (lv_at hl 3 rfl) ?_
          refine lv_lconst (v := 1) S.1 S.2.1 dX8_movesRoot_33 (by decide) ?_
          refine lv_ladd S.1 S.2.1 dX8_movesRoot_34 ?_
          obtain ⟨v9, ev9, h⟩ := bd_s h
          refine pm_nmL ev9 ?_
          refine lv_lstore (lv' := [(4, .long v9), (0, .ref th), (1, .long l1), (3, .int l3)]) S.1 S.2.1 dX8_movesRoot_35 hl (by decide) rfl (fun ls hl => ?_)
          refine lv_goto (tgt := 3) S.1 S.2.1 dX8_movesRoot_37 (by decide) ?_
          exact ih l1 l3 v9 z ls _ _ h (lv_sub hl [1, 2, 3, 0] rfl) hP hS
def g_X8_movesRoot (ev : EV) (z : PS) (th : Nat) (l1 : Int64) (l3 : Int32) : Option PS := q_X8_movesRoot_3 ev th FU l1 l3 (0 : Int64) z
set_option maxRecDepth 20000 in
set_option maxHeartbeats 4000000 in
theorem c_X8_movesRoot (l : Launch) (ev : EV) (z : PS) (E : EWF ev) {th : Nat} (hth : isK ev 6 th) (th_ : Nat) (l1 : Int64) (l3 : Int32) (z9 : PS) (h : g_X8_movesRoot ev z th l1 l3 = some z9) : Met l yX8_movesRoot (pWs yX8_movesRoot cX8_movesRoot 6 none) (pR 2 71) (va_Pc [.ref th, .long l1, .int l3] (pPe ev z)) (pQv ev z9) 0 0 (eA ev) := by
  refine pm_of (by decide) (Nat.le_of_ble_eq_true rfl) ?_
  intro p e s m below meth c S hr hlk hv ls hl
  obtain ⟨hP, hK, hX⟩ := hv
  have hS : SS ev s s.heap [] := va_S.rf
  have hl : lv_has ls 6 [(0, .ref th), (1, .long l1), (3, .int l3)] := hl
  unfold g_X8_movesRoot at h
  refine lv_lconst (v := 0) S.1 S.2.1 dX8_movesRoot_0 (by decide) ?_
  refine lv_lstore (lv' := [(4, .long (0 : Int64)), (0, .ref th), (1, .long l1), (3, .int l3)]) S.1 S.2.1 dX8_movesRoot_1 hl (by decide) rfl (fun ls hl => ?_)
  exact w_X8_movesRoot_3 S hr hlk E hK hX hth FU l1 l3 (0 : Int64) z ls _ _ h (lv_sub hl [1, 2, 3, 0] rfl) hP hS
theorem vm_X8_movesRoot : pm_Vm yX8_movesRoot cX8_movesRoot 6 none 2 := ⟨mw_5_6, mw_5_5, ms_638, mw_1_7, by decide, by decide⟩
def q_X8_turns_255 (ev : EV) (th : Nat) (k6 : (Int64 → Int32 → Int32 → Int32 → PS → Option PS)) (l1 : Int64) (l3 : Int32) (l4 : Int32) (l5 : Int32) (l6 : Int32) (l7 : Int32) (t0 : Int64) (z : PS) : Option PS := if l6 = 0 then (ob (g_X8_changes ev z th t0 (0 : Int64) (0 : Int64)) (fun z29 => bd (l4 + (1 : Int32)) (fun v30 => k6 l1 l3 v30 l5 z29))) else (ob (g_X8_power l1 l7) (fun v31 => ob (g_X8_changes ev z th t0 (0 : Int64) ((r64 z 128 th) * v31)) (fun z32 => bd (l4 + (1 : Int32)) (fun v33 => k6 l1 l3 v33 l5 z32))))
set_option maxRecDepth 20000 in
set_option maxHeartbeats 4000000 in
theorem w_X8_turns_255 {ev : EV} {th : Nat} {p : Program} {l : Launch} {e : Env} {s : State} {m : MethodId} {args : Array Value} {below : List Frame} {meth : Method} {c : Code} {z9 : PS} (S : CallFix p m c cX8_turns 15 s args gT RX8) (hr : meth.sig.returnType = none) (hlk : meth.locks = false) (E : EWF ev) (hK : KK ev s) (hX : pXt ev s) (hth : isK ev 6 th) (k6 : (Int64 → Int32 → Int32 → Int32 → PS → Option PS)) (hk6 : ∀ (l1 : Int64) (l3 : Int32) (l4 : Int32) (l5 : Int32) (z : PS) (ls : Array Slot) (H : Heap) (locs : List Loc), k6 l1 l3 l4 l5 z = some z9 → lv_has ls 15 [(0, .ref th), (1, .long l1), (3, .int l3), (4, .int l4), (5, .int l5)] → Wd ev z H → SS ev s H locs → W p l e (pR 2 78) s m args below meth c H locs 0 0 (MQ below (pQv ev z9) args s 0 0 (eA ev)) (F0 m 6 ls [])) : ∀ (l1 : Int64) (l3 : Int32) (l4 : Int32) (l5 : Int32) (l6 : Int32) (l7 : Int32) (t0 : Int64) (z : PS) (ls : Array Slot) (H : Heap) (locs : List Loc), q_X8_turns_255 ev th k6 l1 l3 l4 l5 l6 l7 t0 z = some z9 → lv_has ls 15 [(0, .ref th), (1, .long l1), (3, .int l3), (4, .int l4), (5, .int l5), (6, .int l6), (7, .int l7)] → Wd ev z H → SS ev s H locs → W p l e (pR 2 78) s m args below meth c H locs 0 0 (MQ below (pQv ev z9) args s 0 0 (eA ev)) (F0 m 255 ls [.long t0, .ref th]) := by
  intro l1 l3 l4 l5 l6 l7 t0 z ls H locs h hl hP hS
  unfold q_X8_turns_255 at h
  refine lv_lconst (v := 0) S.1 S.2.1 dX8_turns_255 (by decide) ?_
  refine lv_iload S.1 S.2.1 dX8_turns_256 (lv_at hl 5 rfl) ?_
  refine lv_if_eq (tgt := 275) S.1 S.2.1 dX8_turns_258 (by decide) (fun c28 => ?_) (fun c28 => ?_)
  · rw [if_pos c28] at h
    refine lv_lconst (v := 0) S.1 S.2.1 dX8_turns_275 (by decide) ?_
    obtain ⟨z29, ez29, h⟩ := ob_s h
    refine pm_cVv (As := [.long t0, .long (0 : Int64), .long (0 : Int64)]) (rest := []) S hK hX hP hS (c_X8_changes l ev z E hth th t0 (0 : Int64) (0 : Int64) z29 ez29) vm_X8_changes mw_4_95 (rc_6 hK hP hth) ⟨⟨rfl, rfl⟩, by decide, by decide⟩ rfl hl.1 rfl (Nat.le_of_ble_eq_true rfl) ⟨Nat.zero_le _, Nat.zero_le _⟩ dX8_turns_276 (fun H locs hP hS => ?_)
    obtain ⟨v30, ev30, h⟩ := bd_s h
    refine lv_iinc (v := v30) (lv' := [(4, .int v30), (0, .ref th), (1, .long l1), (3, .int l3), (5, .int l5), (6, .int l6), (7, .int l7)]) S.1 S.2.1 dX8_turns_279 hl (k := 3) rfl (by rw [ev30]; rfl) (by decide) rfl (fun ls hl => ?_)
    refine lv_goto (tgt := 6) S.1 S.2.1 dX8_turns_282 (by decide) ?_
    exact hk6 l1 l3 v30 l5 z29 ls _ _ h (lv_sub hl [1, 2, 3, 0, 4] rfl) hP hS
  · rw [if_neg c28] at h
    refine lv_aload_n S.1 S.2.1 dX8_turns_261 rfl (lv_at hl 0 rfl) ?_
    refine gf_6_8 S hK hP hth mw_3_229 dX8_turns_262 ?_
    refine lv_lload_n S.1 S.2.1 dX8_turns_265 rfl (lv_at hl 1 rfl) ?_
    refine lv_iload S.1 S.2.1 dX8_turns_266 (lv_at hl 6 rfl) ?_
    obtain ⟨v31, ev31, h⟩ := ob_s h
    refine pm_cS (As := [.long l1, .int l7]) (rest := [.long (r64 z 128 th), .long (0 : Int64), .long t0, .ref th]) S (c_X8_power l l1 l7 v31 ev31) sm_X8_power mw_4_111 ⟨⟨rfl, rfl⟩, by decide, by decide⟩ rfl hl.1 rfl (Nat.le_of_ble_eq_true rfl) ⟨Nat.zero_le _, Nat.zero_le _⟩ dX8_turns_268 ?_
    refine lv_lmul S.1 S.2.1 dX8_turns_271 ?_
    refine lv_goto (tgt := 276) S.1 S.2.1 dX8_turns_272 (by decide) ?_
    obtain ⟨z32, ez32, h⟩ := ob_s h
    refine pm_cVv (As := [.long t0, .long (0 : Int64), .long ((r64 z 128 th) * v31)]) (rest := []) S hK hX hP hS (c_X8_changes l ev z E hth th t0 (0 : Int64) ((r64 z 128 th) * v31) z32 ez32) vm_X8_changes mw_4_95 (rc_6 hK hP hth) ⟨⟨rfl, rfl⟩, by decide, by decide⟩ rfl hl.1 rfl (Nat.le_of_ble_eq_true rfl) ⟨Nat.zero_le _, Nat.zero_le _⟩ dX8_turns_276 (fun H locs hP hS => ?_)
    obtain ⟨v33, ev33, h⟩ := bd_s h
    refine lv_iinc (v := v33) (lv' := [(4, .int v33), (0, .ref th), (1, .long l1), (3, .int l3), (5, .int l5), (6, .int l6), (7, .int l7)]) S.1 S.2.1 dX8_turns_279 hl (k := 3) rfl (by rw [ev33]; rfl) (by decide) rfl (fun ls hl => ?_)
    refine lv_goto (tgt := 6) S.1 S.2.1 dX8_turns_282 (by decide) ?_
    exact hk6 l1 l3 v33 l5 z32 ls _ _ h (lv_sub hl [1, 2, 3, 0, 4] rfl) hP hS
def q_X8_turns_144 (ev : EV) (th : Nat) (k6 : (Int64 → Int32 → Int32 → Int32 → PS → Option PS)) (l1 : Int64) (l3 : Int32) (l4 : Int32) (l6 : Int32) (l7 : Int32) (l8 : Int64) (l10 : Int64) (t0 : Int64) (z : PS) : Option PS := ob (g_X8_modulo l8 l1) (fun v16 => ob (g_X8_modulo l10 l1) (fun v17 => ob (g_X8_modulo t0 l1) (fun v18 => ob (g_X8_areUnlike l1 v16 v17 v18) (fun v19 => ob (g_X8_roots ev z th l1 v16 v17 v18) (fun qv21 => bd qv21.1 (fun v21 => bd qv21.2 (fun z20 => if v19 = 0 then (if l6 = 0 then (ob (g_X8_power l1 (l7 - (1 : Int32))) (fun v24 => q_X8_turns_255 ev th k6 l1 l3 l4 v19 l6 l7 ((r64 z20 128 th) * v24) z20)) else (q_X8_turns_255 ev th k6 l1 l3 l4 v19 l6 l7 (0 : Int64) z20)) else (if v21 ≤ 0 then (ob (g_X8_is ev z20 th (6 : Int32) l4 ((l3 - (4 : Int32)) - l4) ((5 : Int32) + l4) (2 : Int32) l3) (fun z26 => k6 l1 l3 l4 v19 z26)) else (ob (g_X8_is ev z20 th (6 : Int32) l4 ((l3 - (4 : Int32)) - l4) ((5 : Int32) + l4) (4 : Int32) l3) (fun z27 => k6 l1 l3 l4 v19 z27))))))))))
set_option maxRecDepth 20000 in
set_option maxHeartbeats 4000000 in
theorem w_X8_turns_144 {ev : EV} {th : Nat} {p : Program} {l : Launch} {e : Env} {s : State} {m : MethodId} {args : Array Value} {below : List Frame} {meth : Method} {c : Code} {z9 : PS} (S : CallFix p m c cX8_turns 15 s args gT RX8) (hr : meth.sig.returnType = none) (hlk : meth.locks = false) (E : EWF ev) (hK : KK ev s) (hX : pXt ev s) (hth : isK ev 6 th) (k6 : (Int64 → Int32 → Int32 → Int32 → PS → Option PS)) (hk6 : ∀ (l1 : Int64) (l3 : Int32) (l4 : Int32) (l5 : Int32) (z : PS) (ls : Array Slot) (H : Heap) (locs : List Loc), k6 l1 l3 l4 l5 z = some z9 → lv_has ls 15 [(0, .ref th), (1, .long l1), (3, .int l3), (4, .int l4), (5, .int l5)] → Wd ev z H → SS ev s H locs → W p l e (pR 2 78) s m args below meth c H locs 0 0 (MQ below (pQv ev z9) args s 0 0 (eA ev)) (F0 m 6 ls [])) : ∀ (l1 : Int64) (l3 : Int32) (l4 : Int32) (l6 : Int32) (l7 : Int32) (l8 : Int64) (l10 : Int64) (t0 : Int64) (z : PS) (ls : Array Slot) (H : Heap) (locs : List Loc), q_X8_turns_144 ev th k6 l1 l3 l4 l6 l7 l8 l10 t0 z = some z9 → lv_has ls 15 [(0, .ref th), (1, .long l1), (3, .int l3), (4, .int l4), (6, .int l6), (7, .int l7), (8, .long l8), (10, .long l10)] → Wd ev z H → SS ev s H locs → W p l e (pR 2 78) s m args below meth c H locs 0 0 (MQ below (pQv ev z9) args s 0 0 (eA ev)) (F0 m 144 ls [.long t0]) := by
  intro l1 l3 l4 l6 l7 l8 l10 t0 z ls H locs h hl hP hS
  unfold q_X8_turns_144 at h
  refine lv_lstore (lv' := [(12, .long t0), (0, .ref th), (1, .long l1), (3, .int l3), (4, .int l4), (6, .int l6), (7, .int l7), (8, .long l8), (10, .long l10)]) S.1 S.2.1 dX8_turns_144 hl (by decide) rfl (fun ls hl => ?_)
  refine lv_lload S.1 S.2.1 dX8_turns_146 (lv_at hl 7 rfl) ?_
  refine lv_lload_n S.1 S.2.1 dX8_turns_148 rfl (lv_at hl 2 rfl) ?_
  obtain ⟨v16, ev16, h⟩ := ob_s h
  refine pm_cS (As := [.long l8, .long l1]) (rest := []) S (c_X8_modulo l l8 l1 v16 ev16) sm_X8_modulo mw_4_183 ⟨⟨rfl, rfl⟩, by decide, by decide⟩ rfl hl.1 rfl (Nat.le_of_ble_eq_true rfl) ⟨Nat.zero_le _, Nat.zero_le _⟩ dX8_turns_149 ?_
  refine lv_lstore (lv' := [(8, .long v16), (12, .long t0), (0, .ref th), (1, .long l1), (3, .int l3), (4, .int l4), (6, .int l6), (7, .int l7), (10, .long l10)]) S.1 S.2.1 dX8_turns_152 hl (by decide) rfl (fun ls hl => ?_)
  refine lv_lload S.1 S.2.1 dX8_turns_154 (lv_at hl 8 rfl) ?_
  refine lv_lload_n S.1 S.2.1 dX8_turns_156 rfl (lv_at hl 3 rfl) ?_
  obtain ⟨v17, ev17, h⟩ := ob_s h
  refine pm_cS (As := [.long l10, .long l1]) (rest := []) S (c_X8_modulo l l10 l1 v17 ev17) sm_X8_modulo mw_4_183 ⟨⟨rfl, rfl⟩, by decide, by decide⟩ rfl hl.1 rfl (Nat.le_of_ble_eq_true rfl) ⟨Nat.zero_le _, Nat.zero_le _⟩ dX8_turns_157 ?_
  refine lv_lstore (lv' := [(10, .long v17), (8, .long v16), (12, .long t0), (0, .ref th), (1, .long l1), (3, .int l3), (4, .int l4), (6, .int l6), (7, .int l7)]) S.1 S.2.1 dX8_turns_160 hl (by decide) rfl (fun ls hl => ?_)
  refine lv_lload S.1 S.2.1 dX8_turns_162 (lv_at hl 2 rfl) ?_
  refine lv_lload_n S.1 S.2.1 dX8_turns_164 rfl (lv_at hl 4 rfl) ?_
  obtain ⟨v18, ev18, h⟩ := ob_s h
  refine pm_cS (As := [.long t0, .long l1]) (rest := []) S (c_X8_modulo l t0 l1 v18 ev18) sm_X8_modulo mw_4_183 ⟨⟨rfl, rfl⟩, by decide, by decide⟩ rfl hl.1 rfl (Nat.le_of_ble_eq_true rfl) ⟨Nat.zero_le _, Nat.zero_le _⟩ dX8_turns_165 ?_
  refine lv_lstore (lv' := [(12, .long v18), (10, .long v17), (8, .long v16), (0, .ref th), (1, .long l1), (3, .int l3), (4, .int l4), (6, .int l6), (7, .int l7)]) S.1 S.2.1 dX8_turns_168 hl (by decide) rfl (fun ls hl => ?_)
  refine lv_lload_n S.1 S.2.1 dX8_turns_170 rfl (lv_at hl 4 rfl) ?_
  refine lv_lload S.1 S.2.1 dX8_turns_171 (lv_at hl 2 rfl) ?_
  refine lv_lload S.1 S.2.1 dX8_turns_173 (lv_at hl 1 rfl) ?_
  refine lv_lload S.1 S.2.1 dX8_turns_175 (lv_at hl 0 rfl) ?_
  obtain ⟨v19, ev19, h⟩ := ob_s h
  refine pm_cS (As := [.long l1, .long v16, .long v17, .long v18]) (rest := []) S (c_X8_areUnlike l l1 v16 v17 v18 v19 ev19) sm_X8_areUnlike mw_5_15 ⟨⟨rfl, rfl⟩, by decide, by decide⟩ rfl hl.1 rfl (Nat.le_of_ble_eq_true rfl) ⟨Nat.zero_le _, Nat.zero_le _⟩ dX8_turns_177 ?_
  refine lv_istore (lv' := [(5, .int v19), (12, .long v18), (10, .long v17), (8, .long v16), (0, .ref th), (1, .long l1), (3, .int l3), (4, .int l4), (6, .int l6), (7, .int l7)]) S.1 S.2.1 dX8_turns_180 hl (by decide) rfl (fun ls hl => ?_)
  refine lv_aload_n S.1 S.2.1 dX8_turns_182 rfl (lv_at hl 4 rfl) ?_
  refine lv_lload_n S.1 S.2.1 dX8_turns_183 rfl (lv_at hl 5 rfl) ?_
  refine lv_lload S.1 S.2.1 dX8_turns_184 (lv_at hl 3 rfl) ?_
  refine lv_lload S.1 S.2.1 dX8_turns_186 (lv_at hl 2 rfl) ?_
  refine lv_lload S.1 S.2.1 dX8_turns_188 (lv_at hl 1 rfl) ?_
  obtain ⟨qv21, ev21, h⟩ := ob_s h
  obtain ⟨v21, fv21, h⟩ := bd_s h
  obtain ⟨z20, fz20, h⟩ := bd_s h
  have ev21 : g_X8_roots ev z th l1 v16 v17 v18 = some (v21, z20) := by rw [fv21, fz20]; exact ev21
  refine pm_cVi (As := [.long l1, .long v16, .long v17, .long v18]) (rest := []) S hK hX hP hS (c_X8_roots l ev z E hth th l1 v16 v17 v18 v21 z20 ev21) vm_X8_roots mw_4_210 (rc_6 hK hP hth) ⟨⟨rfl, rfl⟩, by decide, by decide⟩ rfl hl.1 rfl (Nat.le_of_ble_eq_true rfl) ⟨Nat.zero_le _, Nat.zero_le _⟩ dX8_turns_190 (fun H locs hP hS => ?_)
  refine lv_istore (lv' := [(14, .int v21), (5, .int v19), (12, .long v18), (10, .long v17), (8, .long v16), (0, .ref th), (1, .long l1), (3, .int l3), (4, .int l4), (6, .int l6), (7, .int l7)]) S.1 S.2.1 dX8_turns_193 hl (by decide) rfl (fun ls hl => ?_)
  refine lv_iload S.1 S.2.1 dX8_turns_195 (lv_at hl 1 rfl) ?_
  refine lv_if_eq (tgt := 232) S.1 S.2.1 dX8_turns_197 (by decide) (fun c22 => ?_) (fun c22 => ?_)
  · rw [if_pos c22] at h
    refine lv_aload_n S.1 S.2.1 dX8_turns_232 rfl (lv_at hl 5 rfl) ?_
    refine lv_iload S.1 S.2.1 dX8_turns_233 (lv_at hl 9 rfl) ?_
    refine lv_if_eq (tgt := 242) S.1 S.2.1 dX8_turns_235 (by decide) (fun c23 => ?_) (fun c23 => ?_)
    · rw [if_pos c23] at h
      refine lv_aload_n S.1 S.2.1 dX8_turns_242 rfl (lv_at hl 5 rfl) ?_
      refine gf_6_8 S hK hP hth mw_3_229 dX8_turns_243 ?_
      refine lv_lload_n S.1 S.2.1 dX8_turns_246 rfl (lv_at hl 6 rfl) ?_
      refine lv_iload S.1 S.2.1 dX8_turns_247 (lv_at hl 10 rfl) ?_
      refine lv_iconst (v := 1) S.1 S.2.1 dX8_turns_249 (by decide) ?_
      refine lv_isub S.1 S.2.1 dX8_turns_250 ?_
      obtain ⟨v24, ev24, h⟩ := ob_s h
      refine pm_cS (As := [.long l1, .int (l7 - (1 : Int32))]) (rest := [.long (r64 z20 128 th), .ref th]) S (c_X8_power l l1 (l7 - (1 : Int32)) v24 ev24) sm_X8_power mw_4_111 ⟨⟨rfl, rfl⟩, by decide, by decide⟩ rfl hl.1 rfl (Nat.le_of_ble_eq_true rfl) ⟨Nat.zero_le _, Nat.zero_le _⟩ dX8_turns_251 ?_
      refine lv_lmul S.1 S.2.1 dX8_turns_254 ?_
      exact w_X8_turns_255 S hr hlk E hK hX hth k6 hk6 l1 l3 l4 v19 l6 l7 ((r64 z20 128 th) * v24) z20 ls _ _ h (lv_sub hl [5, 6, 7, 8, 1, 9, 10] rfl) hP hS
    · rw [if_neg c23] at h
      refine lv_lconst (v := 0) S.1 S.2.1 dX8_turns_238 (by decide) ?_
      refine lv_goto (tgt := 255) S.1 S.2.1 dX8_turns_239 (by decide) ?_
      exact w_X8_turns_255 S hr hlk E hK hX hth k6 hk6 l1 l3 l4 v19 l6 l7 (0 : Int64) z20 ls _ _ h (lv_sub hl [5, 6, 7, 8, 1, 9, 10] rfl) hP hS
  · rw [if_neg c22] at h
    refine lv_aload_n S.1 S.2.1 dX8_turns_200 rfl (lv_at hl 5 rfl) ?_
    refine lv_bipush (v := 6) S.1 S.2.1 dX8_turns_201 (by decide) ?_
    refine lv_iload S.1 S.2.1 dX8_turns_203 (lv_at hl 8 rfl) ?_
    refine lv_iload_n S.1 S.2.1 dX8_turns_205 rfl (lv_at hl 7 rfl) ?_
    refine lv_iconst (v := 4) S.1 S.2.1 dX8_turns_206 (by decide) ?_
    refine lv_isub S.1 S.2.1 dX8_turns_207 ?_
    refine lv_iload S.1 S.2.1 dX8_turns_208 (lv_at hl 8 rfl) ?_
    refine lv_isub S.1 S.2.1 dX8_turns_210 ?_
    refine lv_iconst (v := 5) S.1 S.2.1 dX8_turns_211 (by decide) ?_
    refine lv_iload S.1 S.2.1 dX8_turns_212 (lv_at hl 8 rfl) ?_
    refine lv_iadd S.1 S.2.1 dX8_turns_214 ?_
    refine lv_iload S.1 S.2.1 dX8_turns_215 (lv_at hl 0 rfl) ?_
    refine lv_if_le (tgt := 224) S.1 S.2.1 dX8_turns_217 (by decide) (fun c25 => ?_) (fun c25 => ?_)
    · rw [if_pos c25] at h
      refine lv_iconst (v := 2) S.1 S.2.1 dX8_turns_224 (by decide) ?_
      refine lv_iload_n S.1 S.2.1 dX8_turns_225 rfl (lv_at hl 7 rfl) ?_
      obtain ⟨z26, ez26, h⟩ := ob_s h
      refine pm_cVv (As := [.int (6 : Int32), .int l4, .int ((l3 - (4 : Int32)) - l4), .int ((5 : Int32) + l4), .int (2 : Int32), .int l3]) (rest := []) S hK hX hP hS (c_X8_is l ev z20 E hth th (6 : Int32) l4 ((l3 - (4 : Int32)) - l4) ((5 : Int32) + l4) (2 : Int32) l3 z26 ez26) vm_X8_is mw_4_175 (rc_6 hK hP hth) ⟨⟨rfl, rfl⟩, by decide, by decide⟩ rfl hl.1 rfl (Nat.le_of_ble_eq_true rfl) ⟨Nat.zero_le _, Nat.zero_le _⟩ dX8_turns_226 (fun H locs hP hS => ?_)
      refine lv_goto (tgt := 282) S.1 S.2.1 dX8_turns_229 (by decide) ?_
      refine lv_goto (tgt := 6) S.1 S.2.1 dX8_turns_282 (by decide) ?_
      exact hk6 l1 l3 l4 v19 z26 ls _ _ h (lv_sub hl [5, 6, 7, 8, 1] rfl) hP hS
    · rw [if_neg c25] at h
      refine lv_iconst (v := 4) S.1 S.2.1 dX8_turns_220 (by decide) ?_
      refine lv_goto (tgt := 225) S.1 S.2.1 dX8_turns_221 (by decide) ?_
      refine lv_iload_n S.1 S.2.1 dX8_turns_225 rfl (lv_at hl 7 rfl) ?_
      obtain ⟨z27, ez27, h⟩ := ob_s h
      refine pm_cVv (As := [.int (6 : Int32), .int l4, .int ((l3 - (4 : Int32)) - l4), .int ((5 : Int32) + l4), .int (4 : Int32), .int l3]) (rest := []) S hK hX hP hS (c_X8_is l ev z20 E hth th (6 : Int32) l4 ((l3 - (4 : Int32)) - l4) ((5 : Int32) + l4) (4 : Int32) l3 z27 ez27) vm_X8_is mw_4_175 (rc_6 hK hP hth) ⟨⟨rfl, rfl⟩, by decide, by decide⟩ rfl hl.1 rfl (Nat.le_of_ble_eq_true rfl) ⟨Nat.zero_le _, Nat.zero_le _⟩ dX8_turns_226 (fun H locs hP hS => ?_)
      refine lv_goto (tgt := 282) S.1 S.2.1 dX8_turns_229 (by decide) ?_
      refine lv_goto (tgt := 6) S.1 S.2.1 dX8_turns_282 (by decide) ?_
      exact hk6 l1 l3 l4 v19 z27 ls _ _ h (lv_sub hl [5, 6, 7, 8, 1] rfl) hP hS
def q_X8_turns_101 (ev : EV) (th : Nat) (k6 : (Int64 → Int32 → Int32 → Int32 → PS → Option PS)) (l1 : Int64) (l3 : Int32) (l4 : Int32) (l6 : Int32) (l7 : Int32) (l8 : Int64) (t0 : Int64) (z : PS) : Option PS := if l6 = 0 then (ob (g_X8_power l1 (((2 : Int32) * l7) - (1 : Int32))) (fun v12 => ck (¬ v12 = 0) (q_X8_turns_144 ev th k6 l1 l3 l4 l6 l7 l8 t0 ((rJ z (rf ev 123 th) 4) / v12) z))) else (ob (g_X8_power l1 ((2 : Int32) * l7)) (fun v14 => ck (¬ v14 = 0) (q_X8_turns_144 ev th k6 l1 l3 l4 l6 l7 l8 t0 (-((rJ z (rf ev 123 th) 4) / v14)) z)))
set_option maxRecDepth 20000 in
set_option maxHeartbeats 4000000 in
theorem w_X8_turns_101 {ev : EV} {th : Nat} {p : Program} {l : Launch} {e : Env} {s : State} {m : MethodId} {args : Array Value} {below : List Frame} {meth : Method} {c : Code} {z9 : PS} (S : CallFix p m c cX8_turns 15 s args gT RX8) (hr : meth.sig.returnType = none) (hlk : meth.locks = false) (E : EWF ev) (hK : KK ev s) (hX : pXt ev s) (hth : isK ev 6 th) (k6 : (Int64 → Int32 → Int32 → Int32 → PS → Option PS)) (hk6 : ∀ (l1 : Int64) (l3 : Int32) (l4 : Int32) (l5 : Int32) (z : PS) (ls : Array Slot) (H : Heap) (locs : List Loc), k6 l1 l3 l4 l5 z = some z9 → lv_has ls 15 [(0, .ref th), (1, .long l1), (3, .int l3), (4, .int l4), (5, .int l5)] → Wd ev z H → SS ev s H locs → W p l e (pR 2 78) s m args below meth c H locs 0 0 (MQ below (pQv ev z9) args s 0 0 (eA ev)) (F0 m 6 ls [])) : ∀ (l1 : Int64) (l3 : Int32) (l4 : Int32) (l6 : Int32) (l7 : Int32) (l8 : Int64) (t0 : Int64) (z : PS) (ls : Array Slot) (H : Heap) (locs : List Loc), q_X8_turns_101 ev th k6 l1 l3 l4 l6 l7 l8 t0 z = some z9 → lv_has ls 15 [(0, .ref th), (1, .long l1), (3, .int l3), (4, .int l4), (6, .int l6), (7, .int l7), (8, .long l8)] → Wd ev z H → SS ev s H locs → W p l e (pR 2 78) s m args below meth c H locs 0 0 (MQ below (pQv ev z9) args s 0 0 (eA ev)) (F0 m 101 ls [.long t0]) := by
  intro l1 l3 l4 l6 l7 l8 t0 z ls H locs h hl hP hS
  unfold q_X8_turns_101 at h
  refine lv_lstore (lv' := [(10, .long t0), (0, .ref th), (1, .long l1), (3, .int l3), (4, .int l4), (6, .int l6), (7, .int l7), (8, .long l8)]) S.1 S.2.1 dX8_turns_101 hl (by decide) rfl (fun ls hl => ?_)
  refine lv_iload S.1 S.2.1 dX8_turns_103 (lv_at hl 5 rfl) ?_
  refine lv_if_eq (tgt := 127) S.1 S.2.1 dX8_turns_105 (by decide) (fun c11 => ?_) (fun c11 => ?_)
  · rw [if_pos c11] at h
    refine lv_aload_n S.1 S.2.1 dX8_turns_127 rfl (lv_at hl 1 rfl) ?_
    refine gf_6_3 S hK hP hth mw_3_224 dX8_turns_128 ?_
    refine lv_iconst (v := 4) S.1 S.2.1 dX8_turns_131 (by decide) ?_
    refine al_J S hK hP (E_6_3 E hth) (by rw [N_6_3 E hth]; decide) dX8_turns_132 ?_
    refine pm_nmL (v := (rJ z (rf ev 123 th) 4)) rfl ?_
    refine lv_lload_n S.1 S.2.1 dX8_turns_133 rfl (lv_at hl 2 rfl) ?_
    refine lv_iconst (v := 2) S.1 S.2.1 dX8_turns_134 (by decide) ?_
    refine lv_iload S.1 S.2.1 dX8_turns_135 (lv_at hl 6 rfl) ?_
    refine lv_imul S.1 S.2.1 dX8_turns_137 ?_
    refine lv_iconst (v := 1) S.1 S.2.1 dX8_turns_138 (by decide) ?_
    refine lv_isub S.1 S.2.1 dX8_turns_139 ?_
    obtain ⟨v12, ev12, h⟩ := ob_s h
    refine pm_cS (As := [.long l1, .int (((2 : Int32) * l7) - (1 : Int32))]) (rest := [.long (rJ z (rf ev 123 th) 4)]) S (c_X8_power l l1 (((2 : Int32) * l7) - (1 : Int32)) v12 ev12) sm_X8_power mw_4_111 ⟨⟨rfl, rfl⟩, by decide, by decide⟩ rfl hl.1 rfl (Nat.le_of_ble_eq_true rfl) ⟨Nat.zero_le _, Nat.zero_le _⟩ dX8_turns_140 ?_
    obtain ⟨hc13, h⟩ := ck_s h
    refine lv_ldiv S.1 S.2.1 dX8_turns_143 hc13 ?_
    exact w_X8_turns_144 S hr hlk E hK hX hth k6 hk6 l1 l3 l4 l6 l7 l8 t0 ((rJ z (rf ev 123 th) 4) / v12) z ls _ _ h (lv_sub hl [1, 2, 3, 4, 5, 6, 7, 0] rfl) hP hS
  · rw [if_neg c11] at h
    refine lv_aload_n S.1 S.2.1 dX8_turns_108 rfl (lv_at hl 1 rfl) ?_
    refine gf_6_3 S hK hP hth mw_3_224 dX8_turns_109 ?_
    refine lv_iconst (v := 4) S.1 S.2.1 dX8_turns_112 (by decide) ?_
    refine al_J S hK hP (E_6_3 E hth) (by rw [N_6_3 E hth]; decide) dX8_turns_113 ?_
    refine pm_nmL (v := (rJ z (rf ev 123 th) 4)) rfl ?_
    refine lv_lload_n S.1 S.2.1 dX8_turns_114 rfl (lv_at hl 2 rfl) ?_
    refine lv_iconst (v := 2) S.1 S.2.1 dX8_turns_115 (by decide) ?_
    refine lv_iload S.1 S.2.1 dX8_turns_116 (lv_at hl 6 rfl) ?_
    refine lv_imul S.1 S.2.1 dX8_turns_118 ?_
    obtain ⟨v14, ev14, h⟩ := ob_s h
    refine pm_cS (As := [.long l1, .int ((2 : Int32) * l7)]) (rest := [.long (rJ z (rf ev 123 th) 4)]) S (c_X8_power l l1 ((2 : Int32) * l7) v14 ev14) sm_X8_power mw_4_111 ⟨⟨rfl, rfl⟩, by decide, by decide⟩ rfl hl.1 rfl (Nat.le_of_ble_eq_true rfl) ⟨Nat.zero_le _, Nat.zero_le _⟩ dX8_turns_119 ?_
    obtain ⟨hc15, h⟩ := ck_s h
    refine lv_ldiv S.1 S.2.1 dX8_turns_122 hc15 ?_
    refine lv_lneg S.1 S.2.1 dX8_turns_123 ?_
    refine lv_goto (tgt := 144) S.1 S.2.1 dX8_turns_124 (by decide) ?_
    exact w_X8_turns_144 S hr hlk E hK hX hth k6 hk6 l1 l3 l4 l6 l7 l8 t0 (-((rJ z (rf ev 123 th) 4) / v14)) z ls _ _ h (lv_sub hl [1, 2, 3, 4, 5, 6, 7, 0] rfl) hP hS
def q_X8_turns_65 (ev : EV) (th : Nat) (k6 : (Int64 → Int32 → Int32 → Int32 → PS → Option PS)) (l1 : Int64) (l3 : Int32) (l4 : Int32) (l6 : Int32) (l7 : Int32) (t0 : Int64) (z : PS) : Option PS := if l6 = 0 then (ob (g_X8_power l1 l7) (fun v7 => ck (¬ v7 = 0) (q_X8_turns_101 ev th k6 l1 l3 l4 l6 l7 t0 ((rJ z (rf ev 123 th) 3) / v7) z))) else (ob (g_X8_power l1 l7) (fun v9 => ck (¬ v9 = 0) (q_X8_turns_101 ev th k6 l1 l3 l4 l6 l7 t0 ((rJ z (rf ev 123 th) 2) / v9) z)))
set_option maxRecDepth 20000 in
set_option maxHeartbeats 4000000 in
theorem w_X8_turns_65 {ev : EV} {th : Nat} {p : Program} {l : Launch} {e : Env} {s : State} {m : MethodId} {args : Array Value} {below : List Frame} {meth : Method} {c : Code} {z9 : PS} (S : CallFix p m c cX8_turns 15 s args gT RX8) (hr : meth.sig.returnType = none) (hlk : meth.locks = false) (E : EWF ev) (hK : KK ev s) (hX : pXt ev s) (hth : isK ev 6 th) (k6 : (Int64 → Int32 → Int32 → Int32 → PS → Option PS)) (hk6 : ∀ (l1 : Int64) (l3 : Int32) (l4 : Int32) (l5 : Int32) (z : PS) (ls : Array Slot) (H : Heap) (locs : List Loc), k6 l1 l3 l4 l5 z = some z9 → lv_has ls 15 [(0, .ref th), (1, .long l1), (3, .int l3), (4, .int l4), (5, .int l5)] → Wd ev z H → SS ev s H locs → W p l e (pR 2 78) s m args below meth c H locs 0 0 (MQ below (pQv ev z9) args s 0 0 (eA ev)) (F0 m 6 ls [])) : ∀ (l1 : Int64) (l3 : Int32) (l4 : Int32) (l6 : Int32) (l7 : Int32) (t0 : Int64) (z : PS) (ls : Array Slot) (H : Heap) (locs : List Loc), q_X8_turns_65 ev th k6 l1 l3 l4 l6 l7 t0 z = some z9 → lv_has ls 15 [(0, .ref th), (1, .long l1), (3, .int l3), (4, .int l4), (6, .int l6), (7, .int l7)] → Wd ev z H → SS ev s H locs → W p l e (pR 2 78) s m args below meth c H locs 0 0 (MQ below (pQv ev z9) args s 0 0 (eA ev)) (F0 m 65 ls [.long t0]) := by
  intro l1 l3 l4 l6 l7 t0 z ls H locs h hl hP hS
  unfold q_X8_turns_65 at h
  refine lv_lstore (lv' := [(8, .long t0), (0, .ref th), (1, .long l1), (3, .int l3), (4, .int l4), (6, .int l6), (7, .int l7)]) S.1 S.2.1 dX8_turns_65 hl (by decide) rfl (fun ls hl => ?_)
  refine lv_iload S.1 S.2.1 dX8_turns_67 (lv_at hl 5 rfl) ?_
  refine lv_if_eq (tgt := 88) S.1 S.2.1 dX8_turns_69 (by decide) (fun c6 => ?_) (fun c6 => ?_)
  · rw [if_pos c6] at h
    refine lv_aload_n S.1 S.2.1 dX8_turns_88 rfl (lv_at hl 1 rfl) ?_
    refine gf_6_3 S hK hP hth mw_3_224 dX8_turns_89 ?_
    refine lv_iconst (v := 3) S.1 S.2.1 dX8_turns_92 (by decide) ?_
    refine al_J S hK hP (E_6_3 E hth) (by rw [N_6_3 E hth]; decide) dX8_turns_93 ?_
    refine pm_nmL (v := (rJ z (rf ev 123 th) 3)) rfl ?_
    refine lv_lload_n S.1 S.2.1 dX8_turns_94 rfl (lv_at hl 2 rfl) ?_
    refine lv_iload S.1 S.2.1 dX8_turns_95 (lv_at hl 6 rfl) ?_
    obtain ⟨v7, ev7, h⟩ := ob_s h
    refine pm_cS (As := [.long l1, .int l7]) (rest := [.long (rJ z (rf ev 123 th) 3)]) S (c_X8_power l l1 l7 v7 ev7) sm_X8_power mw_4_111 ⟨⟨rfl, rfl⟩, by decide, by decide⟩ rfl hl.1 rfl (Nat.le_of_ble_eq_true rfl) ⟨Nat.zero_le _, Nat.zero_le _⟩ dX8_turns_97 ?_
    obtain ⟨hc8, h⟩ := ck_s h
    refine lv_ldiv S.1 S.2.1 dX8_turns_100 hc8 ?_
    exact w_X8_turns_101 S hr hlk E hK hX hth k6 hk6 l1 l3 l4 l6 l7 t0 ((rJ z (rf ev 123 th) 3) / v7) z ls _ _ h (lv_sub hl [1, 2, 3, 4, 5, 6, 0] rfl) hP hS
  · rw [if_neg c6] at h
    refine lv_aload_n S.1 S.2.1 dX8_turns_72 rfl (lv_at hl 1 rfl) ?_
    refine gf_6_3 S hK hP hth mw_3_224 dX8_turns_73 ?_
    refine lv_iconst (v := 2) S.1 S.2.1 dX8_turns_76 (by decide) ?_
    refine al_J S hK hP (E_6_3 E hth) (by rw [N_6_3 E hth]; decide) dX8_turns_77 ?_
    refine pm_nmL (v := (rJ z (rf ev 123 th) 2)) rfl ?_
    refine lv_lload_n S.1 S.2.1 dX8_turns_78 rfl (lv_at hl 2 rfl) ?_
    refine lv_iload S.1 S.2.1 dX8_turns_79 (lv_at hl 6 rfl) ?_
    obtain ⟨v9, ev9, h⟩ := ob_s h
    refine pm_cS (As := [.long l1, .int l7]) (rest := [.long (rJ z (rf ev 123 th) 2)]) S (c_X8_power l l1 l7 v9 ev9) sm_X8_power mw_4_111 ⟨⟨rfl, rfl⟩, by decide, by decide⟩ rfl hl.1 rfl (Nat.le_of_ble_eq_true rfl) ⟨Nat.zero_le _, Nat.zero_le _⟩ dX8_turns_81 ?_
    obtain ⟨hc10, h⟩ := ck_s h
    refine lv_ldiv S.1 S.2.1 dX8_turns_84 hc10 ?_
    refine lv_goto (tgt := 101) S.1 S.2.1 dX8_turns_85 (by decide) ?_
    exact w_X8_turns_101 S hr hlk E hK hX hth k6 hk6 l1 l3 l4 l6 l7 t0 ((rJ z (rf ev 123 th) 2) / v9) z ls _ _ h (lv_sub hl [1, 2, 3, 4, 5, 6, 0] rfl) hP hS
def q_X8_turns_46 (ev : EV) (th : Nat) (k6 : (Int64 → Int32 → Int32 → Int32 → PS → Option PS)) (l1 : Int64) (l3 : Int32) (l4 : Int32) (l6 : Int32) (t0 : Int32) (z : PS) : Option PS := if l6 = 0 then (ck (¬ l1 = 0) (q_X8_turns_65 ev th k6 l1 l3 l4 l6 t0 ((rJ z (rf ev 123 th) 1) / l1) z)) else (q_X8_turns_65 ev th k6 l1 l3 l4 l6 t0 (1 : Int64) z)
set_option maxRecDepth 20000 in
set_option maxHeartbeats 4000000 in
theorem w_X8_turns_46 {ev : EV} {th : Nat} {p : Program} {l : Launch} {e : Env} {s : State} {m : MethodId} {args : Array Value} {below : List Frame} {meth : Method} {c : Code} {z9 : PS} (S : CallFix p m c cX8_turns 15 s args gT RX8) (hr : meth.sig.returnType = none) (hlk : meth.locks = false) (E : EWF ev) (hK : KK ev s) (hX : pXt ev s) (hth : isK ev 6 th) (k6 : (Int64 → Int32 → Int32 → Int32 → PS → Option PS)) (hk6 : ∀ (l1 : Int64) (l3 : Int32) (l4 : Int32) (l5 : Int32) (z : PS) (ls : Array Slot) (H : Heap) (locs : List Loc), k6 l1 l3 l4 l5 z = some z9 → lv_has ls 15 [(0, .ref th), (1, .long l1), (3, .int l3), (4, .int l4), (5, .int l5)] → Wd ev z H → SS ev s H locs → W p l e (pR 2 78) s m args below meth c H locs 0 0 (MQ below (pQv ev z9) args s 0 0 (eA ev)) (F0 m 6 ls [])) : ∀ (l1 : Int64) (l3 : Int32) (l4 : Int32) (l6 : Int32) (t0 : Int32) (z : PS) (ls : Array Slot) (H : Heap) (locs : List Loc), q_X8_turns_46 ev th k6 l1 l3 l4 l6 t0 z = some z9 → lv_has ls 15 [(0, .ref th), (1, .long l1), (3, .int l3), (4, .int l4), (6, .int l6)] → Wd ev z H → SS ev s H locs → W p l e (pR 2 78) s m args below meth c H locs 0 0 (MQ below (pQv ev z9) args s 0 0 (eA ev)) (F0 m 46 ls [.int t0]) := by
  intro l1 l3 l4 l6 t0 z ls H locs h hl hP hS
  unfold q_X8_turns_46 at h
  refine lv_istore (lv' := [(7, .int t0), (0, .ref th), (1, .long l1), (3, .int l3), (4, .int l4), (6, .int l6)]) S.1 S.2.1 dX8_turns_46 hl (by decide) rfl (fun ls hl => ?_)
  refine lv_iload S.1 S.2.1 dX8_turns_48 (lv_at hl 5 rfl) ?_
  refine lv_if_eq (tgt := 57) S.1 S.2.1 dX8_turns_50 (by decide) (fun c4 => ?_) (fun c4 => ?_)
  · rw [if_pos c4] at h
    refine lv_aload_n S.1 S.2.1 dX8_turns_57 rfl (lv_at hl 1 rfl) ?_
    refine gf_6_3 S hK hP hth mw_3_224 dX8_turns_58 ?_
    refine lv_iconst (v := 1) S.1 S.2.1 dX8_turns_61 (by decide) ?_
    refine al_J S hK hP (E_6_3 E hth) (by rw [N_6_3 E hth]; decide) dX8_turns_62 ?_
    refine pm_nmL (v := (rJ z (rf ev 123 th) 1)) rfl ?_
    refine lv_lload_n S.1 S.2.1 dX8_turns_63 rfl (lv_at hl 2 rfl) ?_
    obtain ⟨hc5, h⟩ := ck_s h
    refine lv_ldiv S.1 S.2.1 dX8_turns_64 hc5 ?_
    exact w_X8_turns_65 S hr hlk E hK hX hth k6 hk6 l1 l3 l4 l6 t0 ((rJ z (rf ev 123 th) 1) / l1) z ls _ _ h (lv_sub hl [1, 2, 3, 4, 5, 0] rfl) hP hS
  · rw [if_neg c4] at h
    refine lv_lconst (v := 1) S.1 S.2.1 dX8_turns_53 (by decide) ?_
    refine lv_goto (tgt := 65) S.1 S.2.1 dX8_turns_54 (by decide) ?_
    exact w_X8_turns_65 S hr hlk E hK hX hth k6 hk6 l1 l3 l4 l6 t0 (1 : Int64) z ls _ _ h (lv_sub hl [1, 2, 3, 4, 5, 0] rfl) hP hS
def q_X8_turns_24 (ev : EV) (th : Nat) (k6 : (Int64 → Int32 → Int32 → Int32 → PS → Option PS)) (l1 : Int64) (l3 : Int32) (l4 : Int32) (t0 : Int32) (z : PS) : Option PS := if t0 = 0 then (q_X8_turns_46 ev th k6 l1 l3 l4 t0 ((l4 + (4 : Int32)) / (2 : Int32)) z) else (q_X8_turns_46 ev th k6 l1 l3 l4 t0 ((l4 + (3 : Int32)) / (2 : Int32)) z)
set_option maxRecDepth 20000 in
set_option maxHeartbeats 4000000 in
theorem w_X8_turns_24 {ev : EV} {th : Nat} {p : Program} {l : Launch} {e : Env} {s : State} {m : MethodId} {args : Array Value} {below : List Frame} {meth : Method} {c : Code} {z9 : PS} (S : CallFix p m c cX8_turns 15 s args gT RX8) (hr : meth.sig.returnType = none) (hlk : meth.locks = false) (E : EWF ev) (hK : KK ev s) (hX : pXt ev s) (hth : isK ev 6 th) (k6 : (Int64 → Int32 → Int32 → Int32 → PS → Option PS)) (hk6 : ∀ (l1 : Int64) (l3 : Int32) (l4 : Int32) (l5 : Int32) (z : PS) (ls : Array Slot) (H : Heap) (locs : List Loc), k6 l1 l3 l4 l5 z = some z9 → lv_has ls 15 [(0, .ref th), (1, .long l1), (3, .int l3), (4, .int l4), (5, .int l5)] → Wd ev z H → SS ev s H locs → W p l e (pR 2 78) s m args below meth c H locs 0 0 (MQ below (pQv ev z9) args s 0 0 (eA ev)) (F0 m 6 ls [])) : ∀ (l1 : Int64) (l3 : Int32) (l4 : Int32) (t0 : Int32) (z : PS) (ls : Array Slot) (H : Heap) (locs : List Loc), q_X8_turns_24 ev th k6 l1 l3 l4 t0 z = some z9 → lv_has ls 15 [(0, .ref th), (1, .long l1), (3, .int l3), (4, .int l4)] → Wd ev z H → SS ev s H locs → W p l e (pR 2 78) s m args below meth c H locs 0 0 (MQ below (pQv ev z9) args s 0 0 (eA ev)) (F0 m 24 ls [.int t0]) := by
  intro l1 l3 l4 t0 z ls H locs h hl hP hS
  unfold q_X8_turns_24 at h
  refine lv_istore (lv' := [(6, .int t0), (0, .ref th), (1, .long l1), (3, .int l3), (4, .int l4)]) S.1 S.2.1 dX8_turns_24 hl (by decide) rfl (fun ls hl => ?_)
  refine lv_iload S.1 S.2.1 dX8_turns_26 (lv_at hl 0 rfl) ?_
  refine lv_if_eq (tgt := 40) S.1 S.2.1 dX8_turns_28 (by decide) (fun c3 => ?_) (fun c3 => ?_)
  · rw [if_pos c3] at h
    refine lv_iload S.1 S.2.1 dX8_turns_40 (lv_at hl 4 rfl) ?_
    refine lv_iconst (v := 4) S.1 S.2.1 dX8_turns_42 (by decide) ?_
    refine lv_iadd S.1 S.2.1 dX8_turns_43 ?_
    refine lv_iconst (v := 2) S.1 S.2.1 dX8_turns_44 (by decide) ?_
    refine lv_idiv S.1 S.2.1 dX8_turns_45 (by decide) ?_
    exact w_X8_turns_46 S hr hlk E hK hX hth k6 hk6 l1 l3 l4 t0 ((l4 + (4 : Int32)) / (2 : Int32)) z ls _ _ h (lv_sub hl [1, 2, 3, 4, 0] rfl) hP hS
  · rw [if_neg c3] at h
    refine lv_iload S.1 S.2.1 dX8_turns_31 (lv_at hl 4 rfl) ?_
    refine lv_iconst (v := 3) S.1 S.2.1 dX8_turns_33 (by decide) ?_
    refine lv_iadd S.1 S.2.1 dX8_turns_34 ?_
    refine lv_iconst (v := 2) S.1 S.2.1 dX8_turns_35 (by decide) ?_
    refine lv_idiv S.1 S.2.1 dX8_turns_36 (by decide) ?_
    refine lv_goto (tgt := 46) S.1 S.2.1 dX8_turns_37 (by decide) ?_
    exact w_X8_turns_46 S hr hlk E hK hX hth k6 hk6 l1 l3 l4 t0 ((l4 + (3 : Int32)) / (2 : Int32)) z ls _ _ h (lv_sub hl [1, 2, 3, 4, 0] rfl) hP hS
def q_X8_turns_6 (ev : EV) (th : Nat) : Nat → Int64 → Int32 → Int32 → Int32 → PS → Option PS
  | 0, _, _, _, _, _ => none
  | n + 1, l1, l3, l4, l5, z => if l5 = 0 then (if (jr32 l4 (2 : Int32)) = (1 : Int32) then (q_X8_turns_24 ev th (q_X8_turns_6 ev th n) l1 l3 l4 (1 : Int32) z) else (q_X8_turns_24 ev th (q_X8_turns_6 ev th n) l1 l3 l4 (0 : Int32) z)) else (some z)
set_option maxRecDepth 20000 in
set_option maxHeartbeats 4000000 in
theorem w_X8_turns_6 {ev : EV} {th : Nat} {p : Program} {l : Launch} {e : Env} {s : State} {m : MethodId} {args : Array Value} {below : List Frame} {meth : Method} {c : Code} {z9 : PS} (S : CallFix p m c cX8_turns 15 s args gT RX8) (hr : meth.sig.returnType = none) (hlk : meth.locks = false) (E : EWF ev) (hK : KK ev s) (hX : pXt ev s) (hth : isK ev 6 th) : ∀ (n : Nat), ∀ (l1 : Int64) (l3 : Int32) (l4 : Int32) (l5 : Int32) (z : PS) (ls : Array Slot) (H : Heap) (locs : List Loc), q_X8_turns_6 ev th n l1 l3 l4 l5 z = some z9 → lv_has ls 15 [(0, .ref th), (1, .long l1), (3, .int l3), (4, .int l4), (5, .int l5)] → Wd ev z H → SS ev s H locs → W p l e (pR 2 78) s m args below meth c H locs 0 0 (MQ below (pQv ev z9) args s 0 0 (eA ev)) (F0 m 6 ls []) := by
  intro n
  induction n with
  | zero => intro l1 l3 l4 l5 z ls H locs h; cases h
  | succ n ih =>
    intro l1 l3 l4 l5 z ls H locs h hl hP hS
    rw [q_X8_turns_6] at h
    refine lv_iload S.1 S.2.1 dX8_turns_6 (lv_at hl 4 rfl) ?_
    refine lv_if_ne (tgt := 285) S.1 S.2.1 dX8_turns_8 (by decide) (fun c1 => ?_) (fun c1 => ?_)
    · rw [if_neg c1] at h
      exact pm_vretW S hr hlk hP hS (Option.some.inj h) dX8_turns_285
    · rw [if_pos c1] at h
      refine lv_iload S.1 S.2.1 dX8_turns_11 (lv_at hl 3 rfl) ?_
      refine lv_iconst (v := 2) S.1 S.2.1 dX8_turns_13 (by decide) ?_
      refine pm_irem S (by decide) dX8_turns_14 ?_
      refine lv_iconst (v := 1) S.1 S.2.1 dX8_turns_15 (by decide) ?_
      refine lv_icmp_ne (tgt := 23) S.1 S.2.1 dX8_turns_16 (by decide) (fun c2 => ?_) (fun c2 => ?_)
      · rw [if_neg c2] at h
        refine lv_iconst (v := 0) S.1 S.2.1 dX8_turns_23 (by decide) ?_
        exact w_X8_turns_24 S hr hlk E hK hX hth (q_X8_turns_6 ev th n) ih l1 l3 l4 (0 : Int32) z ls _ _ h (lv_sub hl [0, 1, 2, 3] rfl) hP hS
      · rw [if_pos c2] at h
        refine lv_iconst (v := 1) S.1 S.2.1 dX8_turns_19 (by decide) ?_
        refine lv_goto (tgt := 24) S.1 S.2.1 dX8_turns_20 (by decide) ?_
        exact w_X8_turns_24 S hr hlk E hK hX hth (q_X8_turns_6 ev th n) ih l1 l3 l4 (1 : Int32) z ls _ _ h (lv_sub hl [0, 1, 2, 3] rfl) hP hS
def g_X8_turns (ev : EV) (z : PS) (th : Nat) (l1 : Int64) (l3 : Int32) : Option PS := q_X8_turns_6 ev th FU l1 l3 (1 : Int32) (0 : Int32) z
set_option maxRecDepth 20000 in
set_option maxHeartbeats 4000000 in
theorem c_X8_turns (l : Launch) (ev : EV) (z : PS) (E : EWF ev) {th : Nat} (hth : isK ev 6 th) (th_ : Nat) (l1 : Int64) (l3 : Int32) (z9 : PS) (h : g_X8_turns ev z th l1 l3 = some z9) : Met l yX8_turns (pWs yX8_turns cX8_turns 15 none) (pR 2 78) (va_Pc [.ref th, .long l1, .int l3] (pPe ev z)) (pQv ev z9) 0 0 (eA ev) := by
  refine pm_of (by decide) (Nat.le_of_ble_eq_true rfl) ?_
  intro p e s m below meth c S hr hlk hv ls hl
  obtain ⟨hP, hK, hX⟩ := hv
  have hS : SS ev s s.heap [] := va_S.rf
  have hl : lv_has ls 15 [(0, .ref th), (1, .long l1), (3, .int l3)] := hl
  unfold g_X8_turns at h
  refine lv_iconst (v := 1) S.1 S.2.1 dX8_turns_0 (by decide) ?_
  refine lv_istore (lv' := [(4, .int (1 : Int32)), (0, .ref th), (1, .long l1), (3, .int l3)]) S.1 S.2.1 dX8_turns_1 hl (by decide) rfl (fun ls hl => ?_)
  refine lv_iconst (v := 0) S.1 S.2.1 dX8_turns_3 (by decide) ?_
  refine lv_istore (lv' := [(5, .int (0 : Int32)), (4, .int (1 : Int32)), (0, .ref th), (1, .long l1), (3, .int l3)]) S.1 S.2.1 dX8_turns_4 hl (by decide) rfl (fun ls hl => ?_)
  exact w_X8_turns_6 S hr hlk E hK hX hth FU l1 l3 (1 : Int32) (0 : Int32) z ls _ _ h (lv_sub hl [2, 3, 4, 1, 0] rfl) hP hS
theorem vm_X8_turns : pm_Vm yX8_turns cX8_turns 15 none 2 := ⟨mw_5_14, mw_5_13, ms_643, mw_1_7, by decide, by decide⟩
def g_X8_splits (ev : EV) (z : PS) (th : Nat) (l1 : Int64) : Option (Int32 × PS) := ob (g_X8_modulo (rJ z (rf ev 123 th) 0) l1) (fun v1 => ob (g_X8_modulo (-(rJ z (rf ev 123 th) 1)) l1) (fun v2 => ob (g_X8_roots ev z th l1 (1 : Int64) v1 v2) (fun qv4 => bd qv4.1 (fun v4 => bd qv4.2 (fun z3 => if v4 ≤ 0 then (some ((0 : Int32), z3)) else (some ((1 : Int32), z3)))))))
set_option maxRecDepth 20000 in
set_option maxHeartbeats 4000000 in
theorem c_X8_splits (l : Launch) (ev : EV) (z : PS) (E : EWF ev) {th : Nat} (hth : isK ev 6 th) (th_ : Nat) (l1 : Int64) (r : Int32) (z9 : PS) (h : g_X8_splits ev z th l1 = some (r, z9)) : Met l yX8_splits (pWs yX8_splits cX8_splits 3 (some .boolean)) (pR 2 78) (va_Pc [.ref th, .long l1] (pPe ev z)) (pQi ev r z9) 0 0 (eA ev) := by
  refine pm_of (by decide) (Nat.le_of_ble_eq_true rfl) ?_
  intro p e s m below meth c S hr hlk hv ls hl
  obtain ⟨hP, hK, hX⟩ := hv
  have hS : SS ev s s.heap [] := va_S.rf
  have hl : lv_has ls 3 [(0, .ref th), (1, .long l1)] := hl
  unfold g_X8_splits at h
  refine lv_aload_n S.1 S.2.1 dX8_splits_0 rfl (lv_at hl 0 rfl) ?_
  refine lv_lload_n S.1 S.2.1 dX8_splits_1 rfl (lv_at hl 1 rfl) ?_
  refine lv_lconst (v := 1) S.1 S.2.1 dX8_splits_2 (by decide) ?_
  refine lv_aload_n S.1 S.2.1 dX8_splits_3 rfl (lv_at hl 0 rfl) ?_
  refine gf_6_3 S hK hP hth mw_3_224 dX8_splits_4 ?_
  refine lv_iconst (v := 0) S.1 S.2.1 dX8_splits_7 (by decide) ?_
  refine al_J S hK hP (E_6_3 E hth) (by rw [N_6_3 E hth]; decide) dX8_splits_8 ?_
  refine pm_nmL (v := (rJ z (rf ev 123 th) 0)) rfl ?_
  refine lv_lload_n S.1 S.2.1 dX8_splits_9 rfl (lv_at hl 1 rfl) ?_
  obtain ⟨v1, ev1, h⟩ := ob_s h
  refine pm_cS (As := [.long (rJ z (rf ev 123 th) 0), .long l1]) (rest := [.long (1 : Int64), .long l1, .ref th]) S (c_X8_modulo l (rJ z (rf ev 123 th) 0) l1 v1 ev1) sm_X8_modulo mw_4_183 ⟨⟨rfl, rfl⟩, by decide, by decide⟩ rfl hl.1 rfl (Nat.le_of_ble_eq_true rfl) ⟨Nat.zero_le _, Nat.zero_le _⟩ dX8_splits_10 ?_
  refine lv_aload_n S.1 S.2.1 dX8_splits_13 rfl (lv_at hl 0 rfl) ?_
  refine gf_6_3 S hK hP hth mw_3_224 dX8_splits_14 ?_
  refine lv_iconst (v := 1) S.1 S.2.1 dX8_splits_17 (by decide) ?_
  refine al_J S hK hP (E_6_3 E hth) (by rw [N_6_3 E hth]; decide) dX8_splits_18 ?_
  refine pm_nmL (v := (rJ z (rf ev 123 th) 1)) rfl ?_
  refine lv_lneg S.1 S.2.1 dX8_splits_19 ?_
  refine lv_lload_n S.1 S.2.1 dX8_splits_20 rfl (lv_at hl 1 rfl) ?_
  obtain ⟨v2, ev2, h⟩ := ob_s h
  refine pm_cS (As := [.long (-(rJ z (rf ev 123 th) 1)), .long l1]) (rest := [.long v1, .long (1 : Int64), .long l1, .ref th]) S (c_X8_modulo l (-(rJ z (rf ev 123 th) 1)) l1 v2 ev2) sm_X8_modulo mw_4_183 ⟨⟨rfl, rfl⟩, by decide, by decide⟩ rfl hl.1 rfl (Nat.le_of_ble_eq_true rfl) ⟨Nat.zero_le _, Nat.zero_le _⟩ dX8_splits_21 ?_
  obtain ⟨qv4, ev4, h⟩ := ob_s h
  obtain ⟨v4, fv4, h⟩ := bd_s h
  obtain ⟨z3, fz3, h⟩ := bd_s h
  have ev4 : g_X8_roots ev z th l1 (1 : Int64) v1 v2 = some (v4, z3) := by rw [fv4, fz3]; exact ev4
  refine pm_cVi (As := [.long l1, .long (1 : Int64), .long v1, .long v2]) (rest := []) S hK hX hP hS (c_X8_roots l ev z E hth th l1 (1 : Int64) v1 v2 v4 z3 ev4) vm_X8_roots mw_4_210 (rc_6 hK hP hth) ⟨⟨rfl, rfl⟩, by decide, by decide⟩ rfl hl.1 rfl (Nat.le_of_ble_eq_true rfl) ⟨Nat.zero_le _, Nat.zero_le _⟩ dX8_splits_24 (fun H locs hP hS => ?_)
  refine lv_if_le (tgt := 34) S.1 S.2.1 dX8_splits_27 (by decide) (fun c5 => ?_) (fun c5 => ?_)
  · rw [if_pos c5] at h
    refine lv_iconst (v := 0) S.1 S.2.1 dX8_splits_34 (by decide) ?_
    have h9 := Option.some.inj h
    exact pm_zretW S hr hlk (Or.inl rfl) hP hS (congrArg Prod.fst h9) (congrArg Prod.snd h9) dX8_splits_35
  · rw [if_neg c5] at h
    refine lv_iconst (v := 1) S.1 S.2.1 dX8_splits_30 (by decide) ?_
    refine lv_goto (tgt := 35) S.1 S.2.1 dX8_splits_31 (by decide) ?_
    have h9 := Option.some.inj h
    exact pm_zretW S hr hlk (Or.inr rfl) hP hS (congrArg Prod.fst h9) (congrArg Prod.snd h9) dX8_splits_35
theorem vm_X8_splits : pm_Vm yX8_splits cX8_splits 3 (some .boolean) 1 := ⟨mw_4_209, mw_4_208, ms_646, mw_1_7, by decide, by decide⟩
def q_X8_fallsOn_51 (ev : EV) (th : Nat) (l1 : Int64) (l3 : Int32) (l4 : Int32) (t0 : Int32) (t1 : Int64) (z : PS) : Option (Int32 × PS) := ob (g_X8_movesRoot ev z th t1 t0) (fun z7 => if l4 = (2 : Int32) then (ob (g_X8_turns ev z7 th l1 l3) (fun z28 => some ((1 : Int32), z28))) else (ck (¬ (l1 * l1) = 0) (ob (g_X8_modulo ((rJ z7 (rf ev 123 th) 2) / (l1 * l1)) l1) (fun v10 => ob (g_X8_power l1 (4 : Int32)) (fun v11 => ck (¬ v11 = 0) (ob (g_X8_modulo (-((rJ z7 (rf ev 123 th) 4) / v11)) l1) (fun v13 => ob (g_X8_roots ev z7 th l1 (1 : Int64) v10 v13) (fun qv15 => bd qv15.1 (fun v15 => bd qv15.2 (fun z14 => ob (g_X8_areUnlike l1 (1 : Int64) v10 v13) (fun v16 => if v16 = 0 then (ob (g_X8_changes ev z14 th (0 : Int64) (0 : Int64) (((r64 z14 128 th) * l1) * l1)) (fun z18 => ob (g_X8_goesIn ev z18 th l1 (3 : Int32) (4 : Int32)) (fun v19 => if v19 = 0 then (ob (g_X8_is ev z18 th (8 : Int32) (0 : Int32) (l3 - (7 : Int32)) (8 : Int32) (2 : Int32) l3) (fun z24 => some ((1 : Int32), z24))) else (ob (g_X8_goesIn ev z18 th l1 (4 : Int32) (6 : Int32)) (fun v21 => if v21 = 0 then (ob (g_X8_is ev z18 th (9 : Int32) (0 : Int32) (l3 - (8 : Int32)) (9 : Int32) (1 : Int32) l3) (fun z23 => some ((1 : Int32), z23))) else (some ((0 : Int32), z18))))))) else (if v15 ≤ 0 then (ob (g_X8_is ev z14 th (7 : Int32) (0 : Int32) (l3 - (6 : Int32)) (7 : Int32) (1 : Int32) l3) (fun z26 => some ((1 : Int32), z26))) else (ob (g_X8_is ev z14 th (7 : Int32) (0 : Int32) (l3 - (6 : Int32)) (7 : Int32) (3 : Int32) l3) (fun z27 => some ((1 : Int32), z27)))))))))))))))
set_option maxRecDepth 20000 in
set_option maxHeartbeats 4000000 in
theorem w_X8_fallsOn_51 {ev : EV} {th : Nat} {p : Program} {l : Launch} {e : Env} {s : State} {m : MethodId} {args : Array Value} {below : List Frame} {meth : Method} {c : Code} {r : Int32} {z9 : PS} (S : CallFix p m c cX8_fallsOn 10 s args gT RX8) (hr : meth.sig.returnType = (some .boolean)) (hlk : meth.locks = false) (E : EWF ev) (hK : KK ev s) (hX : pXt ev s) (hth : isK ev 6 th) : ∀ (l1 : Int64) (l3 : Int32) (l4 : Int32) (t0 : Int32) (t1 : Int64) (z : PS) (ls : Array Slot) (H : Heap) (locs : List Loc), q_X8_fallsOn_51 ev th l1 l3 l4 t0 t1 z = some (r, z9) → lv_has ls 10 [(0, .ref th), (1, .long l1), (3, .int l3), (4, .int l4)] → Wd ev z H → SS ev s H locs → W p l e (pR 4 143) s m args below meth c H locs 0 0 (MQ below (pQi ev r z9) args s 0 0 (eA ev)) (F0 m 51 ls [.int t0, .long t1, .ref th]) := by
  intro l1 l3 l4 t0 t1 z ls H locs h hl hP hS
  unfold q_X8_fallsOn_51 at h
  obtain ⟨z7, ez7, h⟩ := ob_s h
  refine pm_cVv (As := [.long t1, .int t0]) (rest := []) S hK hX hP hS (c_X8_movesRoot l ev z E hth th t1 t0 z7 ez7) vm_X8_movesRoot mw_5_3 (rc_6 hK hP hth) ⟨⟨rfl, rfl⟩, by decide, by decide⟩ rfl hl.1 rfl (Nat.le_of_ble_eq_true rfl) ⟨Nat.zero_le _, Nat.zero_le _⟩ dX8_fallsOn_51 (fun H locs hP hS => ?_)
  refine lv_iload S.1 S.2.1 dX8_fallsOn_54 (lv_at hl 3 rfl) ?_
  refine lv_iconst (v := 2) S.1 S.2.1 dX8_fallsOn_56 (by decide) ?_
  refine lv_icmp_ne (tgt := 68) S.1 S.2.1 dX8_fallsOn_57 (by decide) (fun c8 => ?_) (fun c8 => ?_)
  · rw [if_neg c8] at h
    refine lv_aload_n S.1 S.2.1 dX8_fallsOn_68 rfl (lv_at hl 0 rfl) ?_
    refine gf_6_3 S hK hP hth mw_3_224 dX8_fallsOn_69 ?_
    refine lv_iconst (v := 2) S.1 S.2.1 dX8_fallsOn_72 (by decide) ?_
    refine al_J S hK hP (E_6_3 E hth) (by rw [N_6_3 E hth]; decide) dX8_fallsOn_73 ?_
    refine pm_nmL (v := (rJ z7 (rf ev 123 th) 2)) rfl ?_
    refine lv_lload_n S.1 S.2.1 dX8_fallsOn_74 rfl (lv_at hl 1 rfl) ?_
    refine lv_lload_n S.1 S.2.1 dX8_fallsOn_75 rfl (lv_at hl 1 rfl) ?_
    refine lv_lmul S.1 S.2.1 dX8_fallsOn_76 ?_
    obtain ⟨hc9, h⟩ := ck_s h
    refine lv_ldiv S.1 S.2.1 dX8_fallsOn_77 hc9 ?_
    refine lv_lload_n S.1 S.2.1 dX8_fallsOn_78 rfl (lv_at hl 1 rfl) ?_
    obtain ⟨v10, ev10, h⟩ := ob_s h
    refine pm_cS (As := [.long ((rJ z7 (rf ev 123 th) 2) / (l1 * l1)), .long l1]) (rest := []) S (c_X8_modulo l ((rJ z7 (rf ev 123 th) 2) / (l1 * l1)) l1 v10 ev10) sm_X8_modulo mw_4_183 ⟨⟨rfl, rfl⟩, by decide, by decide⟩ rfl hl.1 rfl (Nat.le_of_ble_eq_true rfl) ⟨Nat.zero_le _, Nat.zero_le _⟩ dX8_fallsOn_79 ?_
    refine lv_lstore (lv' := [(5, .long v10), (0, .ref th), (1, .long l1), (3, .int l3), (4, .int l4)]) S.1 S.2.1 dX8_fallsOn_82 hl (by decide) rfl (fun ls hl => ?_)
    refine lv_aload_n S.1 S.2.1 dX8_fallsOn_84 rfl (lv_at hl 1 rfl) ?_
    refine gf_6_3 S hK hP hth mw_3_224 dX8_fallsOn_85 ?_
    refine lv_iconst (v := 4) S.1 S.2.1 dX8_fallsOn_88 (by decide) ?_
    refine al_J S hK hP (E_6_3 E hth) (by rw [N_6_3 E hth]; decide) dX8_fallsOn_89 ?_
    refine pm_nmL (v := (rJ z7 (rf ev 123 th) 4)) rfl ?_
    refine lv_lload_n S.1 S.2.1 dX8_fallsOn_90 rfl (lv_at hl 2 rfl) ?_
    refine lv_iconst (v := 4) S.1 S.2.1 dX8_fallsOn_91 (by decide) ?_
    obtain ⟨v11, ev11, h⟩ := ob_s h
    refine pm_cS (As := [.long l1, .int (4 : Int32)]) (rest := [.long (rJ z7 (rf ev 123 th) 4)]) S (c_X8_power l l1 (4 : Int32) v11 ev11) sm_X8_power mw_4_111 ⟨⟨rfl, rfl⟩, by decide, by decide⟩ rfl hl.1 rfl (Nat.le_of_ble_eq_true rfl) ⟨Nat.zero_le _, Nat.zero_le _⟩ dX8_fallsOn_92 ?_
    obtain ⟨hc12, h⟩ := ck_s h
    refine lv_ldiv S.1 S.2.1 dX8_fallsOn_95 hc12 ?_
    refine lv_lneg S.1 S.2.1 dX8_fallsOn_96 ?_
    refine lv_lload_n S.1 S.2.1 dX8_fallsOn_97 rfl (lv_at hl 2 rfl) ?_
    obtain ⟨v13, ev13, h⟩ := ob_s h
    refine pm_cS (As := [.long (-((rJ z7 (rf ev 123 th) 4) / v11)), .long l1]) (rest := []) S (c_X8_modulo l (-((rJ z7 (rf ev 123 th) 4) / v11)) l1 v13 ev13) sm_X8_modulo mw_4_183 ⟨⟨rfl, rfl⟩, by decide, by decide⟩ rfl hl.1 rfl (Nat.le_of_ble_eq_true rfl) ⟨Nat.zero_le _, Nat.zero_le _⟩ dX8_fallsOn_98 ?_
    refine lv_lstore (lv' := [(7, .long v13), (5, .long v10), (0, .ref th), (1, .long l1), (3, .int l3), (4, .int l4)]) S.1 S.2.1 dX8_fallsOn_101 hl (by decide) rfl (fun ls hl => ?_)
    refine lv_aload_n S.1 S.2.1 dX8_fallsOn_103 rfl (lv_at hl 2 rfl) ?_
    refine lv_lload_n S.1 S.2.1 dX8_fallsOn_104 rfl (lv_at hl 3 rfl) ?_
    refine lv_lconst (v := 1) S.1 S.2.1 dX8_fallsOn_105 (by decide) ?_
    refine lv_lload S.1 S.2.1 dX8_fallsOn_106 (lv_at hl 1 rfl) ?_
    refine lv_lload S.1 S.2.1 dX8_fallsOn_108 (lv_at hl 0 rfl) ?_
    obtain ⟨qv15, ev15, h⟩ := ob_s h
    obtain ⟨v15, fv15, h⟩ := bd_s h
    obtain ⟨z14, fz14, h⟩ := bd_s h
    have ev15 : g_X8_roots ev z7 th l1 (1 : Int64) v10 v13 = some (v15, z14) := by rw [fv15, fz14]; exact ev15
    refine pm_cVi (As := [.long l1, .long (1 : Int64), .long v10, .long v13]) (rest := []) S hK hX hP hS (c_X8_roots l ev z7 E hth th l1 (1 : Int64) v10 v13 v15 z14 ev15) vm_X8_roots mw_4_210 (rc_6 hK hP hth) ⟨⟨rfl, rfl⟩, by decide, by decide⟩ rfl hl.1 rfl (Nat.le_of_ble_eq_true rfl) ⟨Nat.zero_le _, Nat.zero_le _⟩ dX8_fallsOn_110 (fun H locs hP hS => ?_)
    refine lv_istore (lv' := [(9, .int v15), (7, .long v13), (5, .long v10), (0, .ref th), (1, .long l1), (3, .int l3), (4, .int l4)]) S.1 S.2.1 dX8_fallsOn_113 hl (by decide) rfl (fun ls hl => ?_)
    refine lv_lload_n S.1 S.2.1 dX8_fallsOn_115 rfl (lv_at hl 4 rfl) ?_
    refine lv_lconst (v := 1) S.1 S.2.1 dX8_fallsOn_116 (by decide) ?_
    refine lv_lload S.1 S.2.1 dX8_fallsOn_117 (lv_at hl 2 rfl) ?_
    refine lv_lload S.1 S.2.1 dX8_fallsOn_119 (lv_at hl 1 rfl) ?_
    obtain ⟨v16, ev16, h⟩ := ob_s h
    refine pm_cS (As := [.long l1, .long (1 : Int64), .long v10, .long v13]) (rest := []) S (c_X8_areUnlike l l1 (1 : Int64) v10 v13 v16 ev16) sm_X8_areUnlike mw_5_15 ⟨⟨rfl, rfl⟩, by decide, by decide⟩ rfl hl.1 rfl (Nat.le_of_ble_eq_true rfl) ⟨Nat.zero_le _, Nat.zero_le _⟩ dX8_fallsOn_121 ?_
    refine lv_if_eq (tgt := 153) S.1 S.2.1 dX8_fallsOn_124 (by decide) (fun c17 => ?_) (fun c17 => ?_)
    · rw [if_pos c17] at h
      refine lv_aload_n S.1 S.2.1 dX8_fallsOn_153 rfl (lv_at hl 3 rfl) ?_
      refine lv_lconst (v := 0) S.1 S.2.1 dX8_fallsOn_154 (by decide) ?_
      refine lv_lconst (v := 0) S.1 S.2.1 dX8_fallsOn_155 (by decide) ?_
      refine lv_aload_n S.1 S.2.1 dX8_fallsOn_156 rfl (lv_at hl 3 rfl) ?_
      refine gf_6_8 S hK hP hth mw_3_229 dX8_fallsOn_157 ?_
      refine lv_lload_n S.1 S.2.1 dX8_fallsOn_160 rfl (lv_at hl 4 rfl) ?_
      refine lv_lmul S.1 S.2.1 dX8_fallsOn_161 ?_
      refine lv_lload_n S.1 S.2.1 dX8_fallsOn_162 rfl (lv_at hl 4 rfl) ?_
      refine lv_lmul S.1 S.2.1 dX8_fallsOn_163 ?_
      obtain ⟨z18, ez18, h⟩ := ob_s h
      refine pm_cVv (As := [.long (0 : Int64), .long (0 : Int64), .long (((r64 z14 128 th) * l1) * l1)]) (rest := []) S hK hX hP hS (c_X8_changes l ev z14 E hth th (0 : Int64) (0 : Int64) (((r64 z14 128 th) * l1) * l1) z18 ez18) vm_X8_changes mw_4_95 (rc_6 hK hP hth) ⟨⟨rfl, rfl⟩, by decide, by decide⟩ rfl hl.1 rfl (Nat.le_of_ble_eq_true rfl) ⟨Nat.zero_le _, Nat.zero_le _⟩ dX8_fallsOn_164 (fun H locs hP hS => ?_)
      refine lv_aload_n S.1 S.2.1 dX8_fallsOn_167 rfl (lv_at hl 3 rfl) ?_
      refine lv_lload_n S.1 S.2.1 dX8_fallsOn_168 rfl (lv_at hl 4 rfl) ?_
      refine lv_iconst (v := 3) S.1 S.2.1 dX8_fallsOn_169 (by decide) ?_
      refine lv_iconst (v := 4) S.1 S.2.1 dX8_fallsOn_170 (by decide) ?_
      obtain ⟨v19, ev19, h⟩ := ob_s h
      refine pm_cVr (As := [.long l1, .int (3 : Int32), .int (4 : Int32)]) (rest := []) S hK hX hP hS (c_X8_goesIn l ev z18 E hth th l1 (3 : Int32) (4 : Int32) v19 ev19) vm_X8_goesIn mw_4_202 (rc_6 hK hP hth) ⟨⟨rfl, rfl⟩, by decide, by decide⟩ rfl hl.1 rfl (Nat.le_of_ble_eq_true rfl) ⟨Nat.zero_le _, Nat.zero_le _⟩ dX8_fallsOn_171 ?_
      refine lv_if_ne (tgt := 195) S.1 S.2.1 dX8_fallsOn_174 (by decide) (fun c20 => ?_) (fun c20 => ?_)
      · rw [if_neg c20] at h
        refine lv_aload_n S.1 S.2.1 dX8_fallsOn_195 rfl (lv_at hl 3 rfl) ?_
        refine lv_lload_n S.1 S.2.1 dX8_fallsOn_196 rfl (lv_at hl 4 rfl) ?_
        refine lv_iconst (v := 4) S.1 S.2.1 dX8_fallsOn_197 (by decide) ?_
        refine lv_bipush (v := 6) S.1 S.2.1 dX8_fallsOn_198 (by decide) ?_
        obtain ⟨v21, ev21, h⟩ := ob_s h
        refine pm_cVr (As := [.long l1, .int (4 : Int32), .int (6 : Int32)]) (rest := []) S hK hX hP hS (c_X8_goesIn l ev z18 E hth th l1 (4 : Int32) (6 : Int32) v21 ev21) vm_X8_goesIn mw_4_202 (rc_6 hK hP hth) ⟨⟨rfl, rfl⟩, by decide, by decide⟩ rfl hl.1 rfl (Nat.le_of_ble_eq_true rfl) ⟨Nat.zero_le _, Nat.zero_le _⟩ dX8_fallsOn_200 ?_
        refine lv_if_ne (tgt := 224) S.1 S.2.1 dX8_fallsOn_203 (by decide) (fun c22 => ?_) (fun c22 => ?_)
        · rw [if_neg c22] at h
          refine lv_iconst (v := 0) S.1 S.2.1 dX8_fallsOn_224 (by decide) ?_
          have h9 := Option.some.inj h
          exact pm_zretW S hr hlk (Or.inl rfl) hP hS (congrArg Prod.fst h9) (congrArg Prod.snd h9) dX8_fallsOn_225
        · rw [if_pos c22] at h
          refine lv_aload_n S.1 S.2.1 dX8_fallsOn_206 rfl (lv_at hl 3 rfl) ?_
          refine lv_bipush (v := 9) S.1 S.2.1 dX8_fallsOn_207 (by decide) ?_
          refine lv_iconst (v := 0) S.1 S.2.1 dX8_fallsOn_209 (by decide) ?_
          refine lv_iload_n S.1 S.2.1 dX8_fallsOn_210 rfl (lv_at hl 5 rfl) ?_
          refine lv_bipush (v := 8) S.1 S.2.1 dX8_fallsOn_211 (by decide) ?_
          refine lv_isub S.1 S.2.1 dX8_fallsOn_213 ?_
          refine lv_bipush (v := 9) S.1 S.2.1 dX8_fallsOn_214 (by decide) ?_
          refine lv_iconst (v := 1) S.1 S.2.1 dX8_fallsOn_216 (by decide) ?_
          refine lv_iload_n S.1 S.2.1 dX8_fallsOn_217 rfl (lv_at hl 5 rfl) ?_
          obtain ⟨z23, ez23, h⟩ := ob_s h
          refine pm_cVv (As := [.int (9 : Int32), .int (0 : Int32), .int (l3 - (8 : Int32)), .int (9 : Int32), .int (1 : Int32), .int l3]) (rest := []) S hK hX hP hS (c_X8_is l ev z18 E hth th (9 : Int32) (0 : Int32) (l3 - (8 : Int32)) (9 : Int32) (1 : Int32) l3 z23 ez23) vm_X8_is mw_4_175 (rc_6 hK hP hth) ⟨⟨rfl, rfl⟩, by decide, by decide⟩ rfl hl.1 rfl (Nat.le_of_ble_eq_true rfl) ⟨Nat.zero_le _, Nat.zero_le _⟩ dX8_fallsOn_218 (fun H locs hP hS => ?_)
          refine lv_goto (tgt := 226) S.1 S.2.1 dX8_fallsOn_221 (by decide) ?_
          refine lv_iconst (v := 1) S.1 S.2.1 dX8_fallsOn_226 (by decide) ?_
          have h9 := Option.some.inj h
          exact pm_zretW S hr hlk (Or.inr rfl) hP hS (congrArg Prod.fst h9) (congrArg Prod.snd h9) dX8_fallsOn_227
      · rw [if_pos c20] at h
        refine lv_aload_n S.1 S.2.1 dX8_fallsOn_177 rfl (lv_at hl 3 rfl) ?_
        refine lv_bipush (v := 8) S.1 S.2.1 dX8_fallsOn_178 (by decide) ?_
        refine lv_iconst (v := 0) S.1 S.2.1 dX8_fallsOn_180 (by decide) ?_
        refine lv_iload_n S.1 S.2.1 dX8_fallsOn_181 rfl (lv_at hl 5 rfl) ?_
        refine lv_bipush (v := 7) S.1 S.2.1 dX8_fallsOn_182 (by decide) ?_
        refine lv_isub S.1 S.2.1 dX8_fallsOn_184 ?_
        refine lv_bipush (v := 8) S.1 S.2.1 dX8_fallsOn_185 (by decide) ?_
        refine lv_iconst (v := 2) S.1 S.2.1 dX8_fallsOn_187 (by decide) ?_
        refine lv_iload_n S.1 S.2.1 dX8_fallsOn_188 rfl (lv_at hl 5 rfl) ?_
        obtain ⟨z24, ez24, h⟩ := ob_s h
        refine pm_cVv (As := [.int (8 : Int32), .int (0 : Int32), .int (l3 - (7 : Int32)), .int (8 : Int32), .int (2 : Int32), .int l3]) (rest := []) S hK hX hP hS (c_X8_is l ev z18 E hth th (8 : Int32) (0 : Int32) (l3 - (7 : Int32)) (8 : Int32) (2 : Int32) l3 z24 ez24) vm_X8_is mw_4_175 (rc_6 hK hP hth) ⟨⟨rfl, rfl⟩, by decide, by decide⟩ rfl hl.1 rfl (Nat.le_of_ble_eq_true rfl) ⟨Nat.zero_le _, Nat.zero_le _⟩ dX8_fallsOn_189 (fun H locs hP hS => ?_)
        refine lv_goto (tgt := 226) S.1 S.2.1 dX8_fallsOn_192 (by decide) ?_
        refine lv_iconst (v := 1) S.1 S.2.1 dX8_fallsOn_226 (by decide) ?_
        have h9 := Option.some.inj h
        exact pm_zretW S hr hlk (Or.inr rfl) hP hS (congrArg Prod.fst h9) (congrArg Prod.snd h9) dX8_fallsOn_227
    · rw [if_neg c17] at h
      refine lv_aload_n S.1 S.2.1 dX8_fallsOn_127 rfl (lv_at hl 3 rfl) ?_
      refine lv_bipush (v := 7) S.1 S.2.1 dX8_fallsOn_128 (by decide) ?_
      refine lv_iconst (v := 0) S.1 S.2.1 dX8_fallsOn_130 (by decide) ?_
      refine lv_iload_n S.1 S.2.1 dX8_fallsOn_131 rfl (lv_at hl 5 rfl) ?_
      refine lv_bipush (v := 6) S.1 S.2.1 dX8_fallsOn_132 (by decide) ?_
      refine lv_isub S.1 S.2.1 dX8_fallsOn_134 ?_
      refine lv_bipush (v := 7) S.1 S.2.1 dX8_fallsOn_135 (by decide) ?_
      refine lv_iload S.1 S.2.1 dX8_fallsOn_137 (lv_at hl 0 rfl) ?_
      refine lv_if_le (tgt := 146) S.1 S.2.1 dX8_fallsOn_139 (by decide) (fun c25 => ?_) (fun c25 => ?_)
      · rw [if_pos c25] at h
        refine lv_iconst (v := 1) S.1 S.2.1 dX8_fallsOn_146 (by decide) ?_
        refine lv_iload_n S.1 S.2.1 dX8_fallsOn_147 rfl (lv_at hl 5 rfl) ?_
        obtain ⟨z26, ez26, h⟩ := ob_s h
        refine pm_cVv (As := [.int (7 : Int32), .int (0 : Int32), .int (l3 - (6 : Int32)), .int (7 : Int32), .int (1 : Int32), .int l3]) (rest := []) S hK hX hP hS (c_X8_is l ev z14 E hth th (7 : Int32) (0 : Int32) (l3 - (6 : Int32)) (7 : Int32) (1 : Int32) l3 z26 ez26) vm_X8_is mw_4_175 (rc_6 hK hP hth) ⟨⟨rfl, rfl⟩, by decide, by decide⟩ rfl hl.1 rfl (Nat.le_of_ble_eq_true rfl) ⟨Nat.zero_le _, Nat.zero_le _⟩ dX8_fallsOn_148 (fun H locs hP hS => ?_)
        refine lv_iconst (v := 1) S.1 S.2.1 dX8_fallsOn_151 (by decide) ?_
        have h9 := Option.some.inj h
        exact pm_zretW S hr hlk (Or.inr rfl) hP hS (congrArg Prod.fst h9) (congrArg Prod.snd h9) dX8_fallsOn_152
      · rw [if_neg c25] at h
        refine lv_iconst (v := 3) S.1 S.2.1 dX8_fallsOn_142 (by decide) ?_
        refine lv_goto (tgt := 147) S.1 S.2.1 dX8_fallsOn_143 (by decide) ?_
        refine lv_iload_n S.1 S.2.1 dX8_fallsOn_147 rfl (lv_at hl 5 rfl) ?_
        obtain ⟨z27, ez27, h⟩ := ob_s h
        refine pm_cVv (As := [.int (7 : Int32), .int (0 : Int32), .int (l3 - (6 : Int32)), .int (7 : Int32), .int (3 : Int32), .int l3]) (rest := []) S hK hX hP hS (c_X8_is l ev z14 E hth th (7 : Int32) (0 : Int32) (l3 - (6 : Int32)) (7 : Int32) (3 : Int32) l3 z27 ez27) vm_X8_is mw_4_175 (rc_6 hK hP hth) ⟨⟨rfl, rfl⟩, by decide, by decide⟩ rfl hl.1 rfl (Nat.le_of_ble_eq_true rfl) ⟨Nat.zero_le _, Nat.zero_le _⟩ dX8_fallsOn_148 (fun H locs hP hS => ?_)
        refine lv_iconst (v := 1) S.1 S.2.1 dX8_fallsOn_151 (by decide) ?_
        have h9 := Option.some.inj h
        exact pm_zretW S hr hlk (Or.inr rfl) hP hS (congrArg Prod.fst h9) (congrArg Prod.snd h9) dX8_fallsOn_152
  · rw [if_pos c8] at h
    refine lv_aload_n S.1 S.2.1 dX8_fallsOn_60 rfl (lv_at hl 0 rfl) ?_
    refine lv_lload_n S.1 S.2.1 dX8_fallsOn_61 rfl (lv_at hl 1 rfl) ?_
    refine lv_iload_n S.1 S.2.1 dX8_fallsOn_62 rfl (lv_at hl 2 rfl) ?_
    obtain ⟨z28, ez28, h⟩ := ob_s h
    refine pm_cVv (As := [.long l1, .int l3]) (rest := []) S hK hX hP hS (c_X8_turns l ev z7 E hth th l1 l3 z28 ez28) vm_X8_turns mw_5_11 (rc_6 hK hP hth) ⟨⟨rfl, rfl⟩, by decide, by decide⟩ rfl hl.1 rfl (Nat.le_of_ble_eq_true rfl) ⟨Nat.zero_le _, Nat.zero_le _⟩ dX8_fallsOn_63 (fun H locs hP hS => ?_)
    refine lv_iconst (v := 1) S.1 S.2.1 dX8_fallsOn_66 (by decide) ?_
    have h9 := Option.some.inj h
    exact pm_zretW S hr hlk (Or.inr rfl) hP hS (congrArg Prod.fst h9) (congrArg Prod.snd h9) dX8_fallsOn_67
def g_X8_fallsOn (ev : EV) (z : PS) (th : Nat) (l1 : Int64) (l3 : Int32) : Option (Int32 × PS) := ob (g_X8_flattens ev z th l1) (fun z1 => ob (g_X8_unlikeRoots ev z1 th l1) (fun v2 => if v2 = (3 : Int32) then (ob (g_X8_rootsOfCubic ev z1 th l1) (fun v5 => ob (g_X8_is ev z1 th (5 : Int32) (0 : Int32) (l3 - (4 : Int32)) (5 : Int32) ((1 : Int32) + v5) l3) (fun z6 => some ((1 : Int32), z6)))) else (if v2 = (1 : Int32) then (q_X8_fallsOn_51 ev th l1 l3 v2 (1 : Int32) l1 z1) else (q_X8_fallsOn_51 ev th l1 l3 v2 (0 : Int32) l1 z1))))
set_option maxRecDepth 20000 in
set_option maxHeartbeats 4000000 in
theorem c_X8_fallsOn (l : Launch) (ev : EV) (z : PS) (E : EWF ev) {th : Nat} (hth : isK ev 6 th) (th_ : Nat) (l1 : Int64) (l3 : Int32) (r : Int32) (z9 : PS) (h : g_X8_fallsOn ev z th l1 l3 = some (r, z9)) : Met l yX8_fallsOn (pWs yX8_fallsOn cX8_fallsOn 10 (some .boolean)) (pR 4 143) (va_Pc [.ref th, .long l1, .int l3] (pPe ev z)) (pQi ev r z9) 0 0 (eA ev) := by
  refine pm_of (by decide) (Nat.le_of_ble_eq_true rfl) ?_
  intro p e s m below meth c S hr hlk hv ls hl
  obtain ⟨hP, hK, hX⟩ := hv
  have hS : SS ev s s.heap [] := va_S.rf
  have hl : lv_has ls 10 [(0, .ref th), (1, .long l1), (3, .int l3)] := hl
  unfold g_X8_fallsOn at h
  refine lv_aload_n S.1 S.2.1 dX8_fallsOn_0 rfl (lv_at hl 0 rfl) ?_
  refine lv_lload_n S.1 S.2.1 dX8_fallsOn_1 rfl (lv_at hl 1 rfl) ?_
  obtain ⟨z1, ez1, h⟩ := ob_s h
  refine pm_cVv (As := [.long l1]) (rest := []) S hK hX hP hS (c_X8_flattens l ev z E hth th l1 z1 ez1) vm_X8_flattens mw_4_218 (rc_6 hK hP hth) ⟨⟨rfl, rfl⟩, by decide, by decide⟩ rfl hl.1 rfl (Nat.le_of_ble_eq_true rfl) ⟨Nat.zero_le _, Nat.zero_le _⟩ dX8_fallsOn_2 (fun H locs hP hS => ?_)
  refine lv_aload_n S.1 S.2.1 dX8_fallsOn_5 rfl (lv_at hl 0 rfl) ?_
  refine lv_lload_n S.1 S.2.1 dX8_fallsOn_6 rfl (lv_at hl 1 rfl) ?_
  obtain ⟨v2, ev2, h⟩ := ob_s h
  refine pm_cVr (As := [.long l1]) (rest := []) S hK hX hP hS (c_X8_unlikeRoots l ev z1 E hth th l1 v2 ev2) vm_X8_unlikeRoots mw_4_230 (rc_6 hK hP hth) ⟨⟨rfl, rfl⟩, by decide, by decide⟩ rfl hl.1 rfl (Nat.le_of_ble_eq_true rfl) ⟨Nat.zero_le _, Nat.zero_le _⟩ dX8_fallsOn_7 ?_
  refine lv_istore (lv' := [(4, .int v2), (0, .ref th), (1, .long l1), (3, .int l3)]) S.1 S.2.1 dX8_fallsOn_10 hl (by decide) rfl (fun ls hl => ?_)
  refine lv_iload S.1 S.2.1 dX8_fallsOn_12 (lv_at hl 0 rfl) ?_
  refine lv_iconst (v := 3) S.1 S.2.1 dX8_fallsOn_14 (by decide) ?_
  refine lv_icmp_ne (tgt := 38) S.1 S.2.1 dX8_fallsOn_15 (by decide) (fun c3 => ?_) (fun c3 => ?_)
  · rw [if_neg c3] at h
    refine lv_aload_n S.1 S.2.1 dX8_fallsOn_38 rfl (lv_at hl 1 rfl) ?_
    refine lv_lload_n S.1 S.2.1 dX8_fallsOn_39 rfl (lv_at hl 2 rfl) ?_
    refine lv_iload S.1 S.2.1 dX8_fallsOn_40 (lv_at hl 0 rfl) ?_
    refine lv_iconst (v := 1) S.1 S.2.1 dX8_fallsOn_42 (by decide) ?_
    refine lv_icmp_ne (tgt := 50) S.1 S.2.1 dX8_fallsOn_43 (by decide) (fun c4 => ?_) (fun c4 => ?_)
    · rw [if_neg c4] at h
      refine lv_iconst (v := 0) S.1 S.2.1 dX8_fallsOn_50 (by decide) ?_
      exact w_X8_fallsOn_51 S hr hlk E hK hX hth l1 l3 v2 (0 : Int32) l1 z1 ls _ _ h (lv_sub hl [1, 2, 3, 0] rfl) hP hS
    · rw [if_pos c4] at h
      refine lv_iconst (v := 1) S.1 S.2.1 dX8_fallsOn_46 (by decide) ?_
      refine lv_goto (tgt := 51) S.1 S.2.1 dX8_fallsOn_47 (by decide) ?_
      exact w_X8_fallsOn_51 S hr hlk E hK hX hth l1 l3 v2 (1 : Int32) l1 z1 ls _ _ h (lv_sub hl [1, 2, 3, 0] rfl) hP hS
  · rw [if_pos c3] at h
    refine lv_aload_n S.1 S.2.1 dX8_fallsOn_18 rfl (lv_at hl 1 rfl) ?_
    refine lv_iconst (v := 5) S.1 S.2.1 dX8_fallsOn_19 (by decide) ?_
    refine lv_iconst (v := 0) S.1 S.2.1 dX8_fallsOn_20 (by decide) ?_
    refine lv_iload_n S.1 S.2.1 dX8_fallsOn_21 rfl (lv_at hl 3 rfl) ?_
    refine lv_iconst (v := 4) S.1 S.2.1 dX8_fallsOn_22 (by decide) ?_
    refine lv_isub S.1 S.2.1 dX8_fallsOn_23 ?_
    refine lv_iconst (v := 5) S.1 S.2.1 dX8_fallsOn_24 (by decide) ?_
    refine lv_iconst (v := 1) S.1 S.2.1 dX8_fallsOn_25 (by decide) ?_
    refine lv_aload_n S.1 S.2.1 dX8_fallsOn_26 rfl (lv_at hl 1 rfl) ?_
    refine lv_lload_n S.1 S.2.1 dX8_fallsOn_27 rfl (lv_at hl 2 rfl) ?_
    obtain ⟨v5, ev5, h⟩ := ob_s h
    refine pm_cVr (As := [.long l1]) (rest := [.int (1 : Int32), .int (5 : Int32), .int (l3 - (4 : Int32)), .int (0 : Int32), .int (5 : Int32), .ref th]) S hK hX hP hS (c_X8_rootsOfCubic l ev z1 E hth th l1 v5 ev5) vm_X8_rootsOfCubic mw_4_235 (rc_6 hK hP hth) ⟨⟨rfl, rfl⟩, by decide, by decide⟩ rfl hl.1 rfl (Nat.le_of_ble_eq_true rfl) ⟨Nat.zero_le _, Nat.zero_le _⟩ dX8_fallsOn_28 ?_
    refine lv_iadd S.1 S.2.1 dX8_fallsOn_31 ?_
    refine lv_iload_n S.1 S.2.1 dX8_fallsOn_32 rfl (lv_at hl 3 rfl) ?_
    obtain ⟨z6, ez6, h⟩ := ob_s h
    refine pm_cVv (As := [.int (5 : Int32), .int (0 : Int32), .int (l3 - (4 : Int32)), .int (5 : Int32), .int ((1 : Int32) + v5), .int l3]) (rest := []) S hK hX hP hS (c_X8_is l ev z1 E hth th (5 : Int32) (0 : Int32) (l3 - (4 : Int32)) (5 : Int32) ((1 : Int32) + v5) l3 z6 ez6) vm_X8_is mw_4_175 (rc_6 hK hP hth) ⟨⟨rfl, rfl⟩, by decide, by decide⟩ rfl hl.1 rfl (Nat.le_of_ble_eq_true rfl) ⟨Nat.zero_le _, Nat.zero_le _⟩ dX8_fallsOn_33 (fun H locs hP hS => ?_)
    refine lv_iconst (v := 1) S.1 S.2.1 dX8_fallsOn_36 (by decide) ?_
    have h9 := Option.some.inj h
    exact pm_zretW S hr hlk (Or.inr rfl) hP hS (congrArg Prod.fst h9) (congrArg Prod.snd h9) dX8_fallsOn_37
theorem vm_X8_fallsOn : pm_Vm yX8_fallsOn cX8_fallsOn 10 (some .boolean) 2 := ⟨mw_4_217, mw_4_216, ms_654, mw_1_7, by decide, by decide⟩
def g_X8_falls (ev : EV) (z : PS) (th : Nat) (l1 : Int64) : Option (Int32 × PS) := ob (g_X8_disc ev z th) (fun v1 => ob (g_X8_times l1 v1) (fun v2 => if v2 = 0 then (ob (g_X8_is ev z th (0 : Int32) (0 : Int32) (0 : Int32) (1 : Int32) (1 : Int32) (0 : Int32)) (fun z48 => some ((1 : Int32), z48))) else (ob (g_X8_comesToMidst ev z th l1) (fun z4 => ob (g_X8_b2 ev z4 th) (fun v5 => ck (¬ l1 = 0) (if (jr64 v5 l1) = (0 : Int64) then (ob (g_X8_goesIn ev z4 th l1 (4 : Int32) (2 : Int32)) (fun v8 => if v8 = 0 then (ob (g_X8_is ev z4 th (2 : Int32) (0 : Int32) v2 (1 : Int32) (1 : Int32) v2) (fun z31 => some ((1 : Int32), z31))) else (ob (g_X8_b8 ev z4 th) (fun v10 => ob (g_X8_power l1 (3 : Int32)) (fun v11 => ck (¬ v11 = 0) (if (jr64 v10 v11) = (0 : Int64) then (ob (g_X8_b6 ev z4 th) (fun v14 => ob (g_X8_power l1 (3 : Int32)) (fun v15 => ck (¬ v15 = 0) (if (jr64 v14 v15) = (0 : Int64) then (ob (g_X8_fallsOn ev z4 th l1 v2) (fun qv19 => bd qv19.1 (fun v19 => bd qv19.2 (fun z18 => ck (v19 = 0 ∨ v19 = 1) (some (v19, z18)))))) else (ck (¬ l1 = 0) (ob (g_X8_modulo ((rJ z4 (rf ev 123 th) 2) / l1) l1) (fun v22 => ck (¬ (l1 * l1) = 0) (ob (g_X8_modulo (-((rJ z4 (rf ev 123 th) 4) / (l1 * l1))) l1) (fun v24 => ob (g_X8_roots ev z4 th l1 (1 : Int64) v22 v24) (fun qv26 => bd qv26.1 (fun v26 => bd qv26.2 (fun z25 => if v26 ≤ 0 then (ob (g_X8_is ev z25 th (4 : Int32) (0 : Int32) (v2 - (2 : Int32)) (3 : Int32) (1 : Int32) v2) (fun z28 => some ((1 : Int32), z28))) else (ob (g_X8_is ev z25 th (4 : Int32) (0 : Int32) (v2 - (2 : Int32)) (3 : Int32) (3 : Int32) v2) (fun z29 => some ((1 : Int32), z29))))))))))))))) else (ob (g_X8_is ev z4 th (3 : Int32) (0 : Int32) (v2 - (1 : Int32)) (2 : Int32) (2 : Int32) v2) (fun z30 => some ((1 : Int32), z30))))))))) else (ob (g_X8_splits ev z4 th l1) (fun qv33 => bd qv33.1 (fun v33 => bd qv33.2 (fun z32 => if v33 = 0 then (if (jr32 v2 (2 : Int32)) = 0 then (ob (g_X8_is ev z32 th (1 : Int32) v2 (1 : Int32) v2 (2 : Int32) v2) (fun z40 => if v33 = 0 then (bd (wI z40 (rf ev 127 th) 6 (0 : Int32)) (fun z42 => some ((1 : Int32), z42))) else (bd (wI z40 (rf ev 127 th) 6 (1 : Int32)) (fun z43 => some ((1 : Int32), z43))))) else (ob (g_X8_is ev z32 th (1 : Int32) v2 (1 : Int32) v2 (1 : Int32) v2) (fun z36 => if v33 = 0 then (bd (wI z36 (rf ev 127 th) 6 (0 : Int32)) (fun z38 => some ((1 : Int32), z38))) else (bd (wI z36 (rf ev 127 th) 6 (1 : Int32)) (fun z39 => some ((1 : Int32), z39)))))) else (ob (g_X8_is ev z32 th (1 : Int32) v2 (1 : Int32) v2 v2 v2) (fun z44 => if v33 = 0 then (bd (wI z44 (rf ev 127 th) 6 (0 : Int32)) (fun z46 => some ((1 : Int32), z46))) else (bd (wI z44 (rf ev 127 th) 6 (1 : Int32)) (fun z47 => some ((1 : Int32), z47)))))))))))))))
set_option maxRecDepth 20000 in
set_option maxHeartbeats 4000000 in
theorem c_X8_falls (l : Launch) (ev : EV) (z : PS) (E : EWF ev) {th : Nat} (hth : isK ev 6 th) (th_ : Nat) (l1 : Int64) (r : Int32) (z9 : PS) (h : g_X8_falls ev z th l1 = some (r, z9)) : Met l yX8_falls (pWs yX8_falls cX8_falls 5 (some .boolean)) (pR 5 184) (va_Pc [.ref th, .long l1] (pPe ev z)) (pQi ev r z9) 0 0 (eA ev) := by
  refine pm_of (by decide) (Nat.le_of_ble_eq_true rfl) ?_
  intro p e s m below meth c S hr hlk hv ls hl
  obtain ⟨hP, hK, hX⟩ := hv
  have hS : SS ev s s.heap [] := va_S.rf
  have hl : lv_has ls 5 [(0, .ref th), (1, .long l1)] := hl
  unfold g_X8_falls at h
  refine lv_lload_n S.1 S.2.1 dX8_falls_0 rfl (lv_at hl 1 rfl) ?_
  refine lv_aload_n S.1 S.2.1 dX8_falls_1 rfl (lv_at hl 0 rfl) ?_
  obtain ⟨v1, ev1, h⟩ := ob_s h
  refine pm_cVr (As := []) (rest := [.long l1]) S hK hX hP hS (c_X8_disc l ev z E hth th v1 ev1) vm_X8_disc mw_4_46 (rc_6 hK hP hth) ⟨⟨rfl, rfl⟩, by decide, by decide⟩ rfl hl.1 rfl (Nat.le_of_ble_eq_true rfl) ⟨Nat.zero_le _, Nat.zero_le _⟩ dX8_falls_2 ?_
  obtain ⟨v2, ev2, h⟩ := ob_s h
  refine pm_cS (As := [.long l1, .long v1]) (rest := []) S (c_X8_times l l1 v1 v2 ev2) sm_X8_times mw_4_166 ⟨⟨rfl, rfl⟩, by decide, by decide⟩ rfl hl.1 rfl (Nat.le_of_ble_eq_true rfl) ⟨Nat.zero_le _, Nat.zero_le _⟩ dX8_falls_5 ?_
  refine lv_istore_n (lv' := [(3, .int v2), (0, .ref th), (1, .long l1)]) S.1 S.2.1 dX8_falls_8 rfl hl (by decide) rfl (fun ls hl => ?_)
  refine lv_iload_n S.1 S.2.1 dX8_falls_9 rfl (lv_at hl 0 rfl) ?_
  refine lv_if_ne (tgt := 25) S.1 S.2.1 dX8_falls_10 (by decide) (fun c3 => ?_) (fun c3 => ?_)
  · rw [if_neg c3] at h
    refine lv_aload_n S.1 S.2.1 dX8_falls_25 rfl (lv_at hl 1 rfl) ?_
    refine lv_lload_n S.1 S.2.1 dX8_falls_26 rfl (lv_at hl 2 rfl) ?_
    obtain ⟨z4, ez4, h⟩ := ob_s h
    refine pm_cVv (As := [.long l1]) (rest := []) S hK hX hP hS (c_X8_comesToMidst l ev z E hth th l1 z4 ez4) vm_X8_comesToMidst mw_4_198 (rc_6 hK hP hth) ⟨⟨rfl, rfl⟩, by decide, by decide⟩ rfl hl.1 rfl (Nat.le_of_ble_eq_true rfl) ⟨Nat.zero_le _, Nat.zero_le _⟩ dX8_falls_27 (fun H locs hP hS => ?_)
    refine lv_aload_n S.1 S.2.1 dX8_falls_30 rfl (lv_at hl 1 rfl) ?_
    obtain ⟨v5, ev5, h⟩ := ob_s h
    refine pm_cVr (As := []) (rest := []) S hK hX hP hS (c_X8_b2 l ev z4 E hth th v5 ev5) vm_X8_b2 mw_4_50 (rc_6 hK hP hth) ⟨⟨rfl, rfl⟩, by decide, by decide⟩ rfl hl.1 rfl (Nat.le_of_ble_eq_true rfl) ⟨Nat.zero_le _, Nat.zero_le _⟩ dX8_falls_31 ?_
    refine lv_lload_n S.1 S.2.1 dX8_falls_34 rfl (lv_at hl 2 rfl) ?_
    obtain ⟨hc6, h⟩ := ck_s h
    refine pm_lrem S hc6 dX8_falls_35 ?_
    refine lv_lconst (v := 0) S.1 S.2.1 dX8_falls_36 (by decide) ?_
    refine pm_leq (tgt := 96) S dX8_falls_37 dX8_falls_38 (by decide) (fun c7 => ?_) (fun c7 => ?_)
    · rw [if_pos c7] at h
      refine lv_aload_n S.1 S.2.1 dX8_falls_96 rfl (lv_at hl 1 rfl) ?_
      refine lv_lload_n S.1 S.2.1 dX8_falls_97 rfl (lv_at hl 2 rfl) ?_
      refine lv_iconst (v := 4) S.1 S.2.1 dX8_falls_98 (by decide) ?_
      refine lv_iconst (v := 2) S.1 S.2.1 dX8_falls_99 (by decide) ?_
      obtain ⟨v8, ev8, h⟩ := ob_s h
      refine pm_cVr (As := [.long l1, .int (4 : Int32), .int (2 : Int32)]) (rest := []) S hK hX hP hS (c_X8_goesIn l ev z4 E hth th l1 (4 : Int32) (2 : Int32) v8 ev8) vm_X8_goesIn mw_4_202 (rc_6 hK hP hth) ⟨⟨rfl, rfl⟩, by decide, by decide⟩ rfl hl.1 rfl (Nat.le_of_ble_eq_true rfl) ⟨Nat.zero_le _, Nat.zero_le _⟩ dX8_falls_100 ?_
      refine lv_if_ne (tgt := 119) S.1 S.2.1 dX8_falls_103 (by decide) (fun c9 => ?_) (fun c9 => ?_)
      · rw [if_neg c9] at h
        refine lv_aload_n S.1 S.2.1 dX8_falls_119 rfl (lv_at hl 1 rfl) ?_
        obtain ⟨v10, ev10, h⟩ := ob_s h
        refine pm_cVr (As := []) (rest := []) S hK hX hP hS (c_X8_b8 l ev z4 E hth th v10 ev10) vm_X8_b8 mw_4_64 (rc_6 hK hP hth) ⟨⟨rfl, rfl⟩, by decide, by decide⟩ rfl hl.1 rfl (Nat.le_of_ble_eq_true rfl) ⟨Nat.zero_le _, Nat.zero_le _⟩ dX8_falls_120 ?_
        refine lv_lload_n S.1 S.2.1 dX8_falls_123 rfl (lv_at hl 2 rfl) ?_
        refine lv_iconst (v := 3) S.1 S.2.1 dX8_falls_124 (by decide) ?_
        obtain ⟨v11, ev11, h⟩ := ob_s h
        refine pm_cS (As := [.long l1, .int (3 : Int32)]) (rest := [.long v10]) S (c_X8_power l l1 (3 : Int32) v11 ev11) sm_X8_power mw_4_111 ⟨⟨rfl, rfl⟩, by decide, by decide⟩ rfl hl.1 rfl (Nat.le_of_ble_eq_true rfl) ⟨Nat.zero_le _, Nat.zero_le _⟩ dX8_falls_125 ?_
        obtain ⟨hc12, h⟩ := ck_s h
        refine pm_lrem S hc12 dX8_falls_128 ?_
        refine lv_lconst (v := 0) S.1 S.2.1 dX8_falls_129 (by decide) ?_
        refine pm_leq (tgt := 149) S dX8_falls_130 dX8_falls_131 (by decide) (fun c13 => ?_) (fun c13 => ?_)
        · rw [if_pos c13] at h
          refine lv_aload_n S.1 S.2.1 dX8_falls_149 rfl (lv_at hl 1 rfl) ?_
          obtain ⟨v14, ev14, h⟩ := ob_s h
          refine pm_cVr (As := []) (rest := []) S hK hX hP hS (c_X8_b6 l ev z4 E hth th v14 ev14) vm_X8_b6 mw_4_60 (rc_6 hK hP hth) ⟨⟨rfl, rfl⟩, by decide, by decide⟩ rfl hl.1 rfl (Nat.le_of_ble_eq_true rfl) ⟨Nat.zero_le _, Nat.zero_le _⟩ dX8_falls_150 ?_
          refine lv_lload_n S.1 S.2.1 dX8_falls_153 rfl (lv_at hl 2 rfl) ?_
          refine lv_iconst (v := 3) S.1 S.2.1 dX8_falls_154 (by decide) ?_
          obtain ⟨v15, ev15, h⟩ := ob_s h
          refine pm_cS (As := [.long l1, .int (3 : Int32)]) (rest := [.long v14]) S (c_X8_power l l1 (3 : Int32) v15 ev15) sm_X8_power mw_4_111 ⟨⟨rfl, rfl⟩, by decide, by decide⟩ rfl hl.1 rfl (Nat.le_of_ble_eq_true rfl) ⟨Nat.zero_le _, Nat.zero_le _⟩ dX8_falls_155 ?_
          obtain ⟨hc16, h⟩ := ck_s h
          refine pm_lrem S hc16 dX8_falls_158 ?_
          refine lv_lconst (v := 0) S.1 S.2.1 dX8_falls_159 (by decide) ?_
          refine pm_leq (tgt := 219) S dX8_falls_160 dX8_falls_161 (by decide) (fun c17 => ?_) (fun c17 => ?_)
          · rw [if_pos c17] at h
            refine lv_aload_n S.1 S.2.1 dX8_falls_219 rfl (lv_at hl 1 rfl) ?_
            refine lv_lload_n S.1 S.2.1 dX8_falls_220 rfl (lv_at hl 2 rfl) ?_
            refine lv_iload_n S.1 S.2.1 dX8_falls_221 rfl (lv_at hl 0 rfl) ?_
            obtain ⟨qv19, ev19, h⟩ := ob_s h
            obtain ⟨v19, fv19, h⟩ := bd_s h
            obtain ⟨z18, fz18, h⟩ := bd_s h
            have ev19 : g_X8_fallsOn ev z4 th l1 v2 = some (v19, z18) := by rw [fv19, fz18]; exact ev19
            refine pm_cVi (As := [.long l1, .int v2]) (rest := []) S hK hX hP hS (c_X8_fallsOn l ev z4 E hth th l1 v2 v19 z18 ev19) vm_X8_fallsOn mw_4_214 (rc_6 hK hP hth) ⟨⟨rfl, rfl⟩, by decide, by decide⟩ rfl hl.1 rfl (Nat.le_of_ble_eq_true rfl) ⟨Nat.zero_le _, Nat.zero_le _⟩ dX8_falls_222 (fun H locs hP hS => ?_)
            obtain ⟨hc20, h⟩ := ck_s h
            have h9 := Option.some.inj h
            exact pm_zretW S hr hlk hc20 hP hS (congrArg Prod.fst h9) (congrArg Prod.snd h9) dX8_falls_225
          · rw [if_neg c17] at h
            refine lv_aload_n S.1 S.2.1 dX8_falls_164 rfl (lv_at hl 1 rfl) ?_
            refine lv_iconst (v := 4) S.1 S.2.1 dX8_falls_165 (by decide) ?_
            refine lv_iconst (v := 0) S.1 S.2.1 dX8_falls_166 (by decide) ?_
            refine lv_iload_n S.1 S.2.1 dX8_falls_167 rfl (lv_at hl 0 rfl) ?_
            refine lv_iconst (v := 2) S.1 S.2.1 dX8_falls_168 (by decide) ?_
            refine lv_isub S.1 S.2.1 dX8_falls_169 ?_
            refine lv_iconst (v := 3) S.1 S.2.1 dX8_falls_170 (by decide) ?_
            refine lv_aload_n S.1 S.2.1 dX8_falls_171 rfl (lv_at hl 1 rfl) ?_
            refine lv_lload_n S.1 S.2.1 dX8_falls_172 rfl (lv_at hl 2 rfl) ?_
            refine lv_lconst (v := 1) S.1 S.2.1 dX8_falls_173 (by decide) ?_
            refine lv_aload_n S.1 S.2.1 dX8_falls_174 rfl (lv_at hl 1 rfl) ?_
            refine gf_6_3 S hK hP hth mw_3_224 dX8_falls_175 ?_
            refine lv_iconst (v := 2) S.1 S.2.1 dX8_falls_178 (by decide) ?_
            refine al_J S hK hP (E_6_3 E hth) (by rw [N_6_3 E hth]; decide) dX8_falls_179 ?_
            refine pm_nmL (v := (rJ z4 (rf ev 123 th) 2)) rfl ?_
            refine lv_lload_n S.1 S.2.1 dX8_falls_180 rfl (lv_at hl 2 rfl) ?_
            obtain ⟨hc21, h⟩ := ck_s h
            refine lv_ldiv S.1 S.2.1 dX8_falls_181 hc21 ?_
            refine lv_lload_n S.1 S.2.1 dX8_falls_182 rfl (lv_at hl 2 rfl) ?_
            obtain ⟨v22, ev22, h⟩ := ob_s h
            refine pm_cS (As := [.long ((rJ z4 (rf ev 123 th) 2) / l1), .long l1]) (rest := [.long (1 : Int64), .long l1, .ref th, .int (3 : Int32), .int (v2 - (2 : Int32)), .int (0 : Int32), .int (4 : Int32), .ref th]) S (c_X8_modulo l ((rJ z4 (rf ev 123 th) 2) / l1) l1 v22 ev22) sm_X8_modulo mw_4_183 ⟨⟨rfl, rfl⟩, by decide, by decide⟩ rfl hl.1 rfl (Nat.le_of_ble_eq_true rfl) ⟨Nat.zero_le _, Nat.zero_le _⟩ dX8_falls_183 ?_
            refine lv_aload_n S.1 S.2.1 dX8_falls_186 rfl (lv_at hl 1 rfl) ?_
            refine gf_6_3 S hK hP hth mw_3_224 dX8_falls_187 ?_
            refine lv_iconst (v := 4) S.1 S.2.1 dX8_falls_190 (by decide) ?_
            refine al_J S hK hP (E_6_3 E hth) (by rw [N_6_3 E hth]; decide) dX8_falls_191 ?_
            refine pm_nmL (v := (rJ z4 (rf ev 123 th) 4)) rfl ?_
            refine lv_lload_n S.1 S.2.1 dX8_falls_192 rfl (lv_at hl 2 rfl) ?_
            refine lv_lload_n S.1 S.2.1 dX8_falls_193 rfl (lv_at hl 2 rfl) ?_
            refine lv_lmul S.1 S.2.1 dX8_falls_194 ?_
            obtain ⟨hc23, h⟩ := ck_s h
            refine lv_ldiv S.1 S.2.1 dX8_falls_195 hc23 ?_
            refine lv_lneg S.1 S.2.1 dX8_falls_196 ?_
            refine lv_lload_n S.1 S.2.1 dX8_falls_197 rfl (lv_at hl 2 rfl) ?_
            obtain ⟨v24, ev24, h⟩ := ob_s h
            refine pm_cS (As := [.long (-((rJ z4 (rf ev 123 th) 4) / (l1 * l1))), .long l1]) (rest := [.long v22, .long (1 : Int64), .long l1, .ref th, .int (3 : Int32), .int (v2 - (2 : Int32)), .int (0 : Int32), .int (4 : Int32), .ref th]) S (c_X8_modulo l (-((rJ z4 (rf ev 123 th) 4) / (l1 * l1))) l1 v24 ev24) sm_X8_modulo mw_4_183 ⟨⟨rfl, rfl⟩, by decide, by decide⟩ rfl hl.1 rfl (Nat.le_of_ble_eq_true rfl) ⟨Nat.zero_le _, Nat.zero_le _⟩ dX8_falls_198 ?_
            obtain ⟨qv26, ev26, h⟩ := ob_s h
            obtain ⟨v26, fv26, h⟩ := bd_s h
            obtain ⟨z25, fz25, h⟩ := bd_s h
            have ev26 : g_X8_roots ev z4 th l1 (1 : Int64) v22 v24 = some (v26, z25) := by rw [fv26, fz25]; exact ev26
            refine pm_cVi (As := [.long l1, .long (1 : Int64), .long v22, .long v24]) (rest := [.int (3 : Int32), .int (v2 - (2 : Int32)), .int (0 : Int32), .int (4 : Int32), .ref th]) S hK hX hP hS (c_X8_roots l ev z4 E hth th l1 (1 : Int64) v22 v24 v26 z25 ev26) vm_X8_roots mw_4_210 (rc_6 hK hP hth) ⟨⟨rfl, rfl⟩, by decide, by decide⟩ rfl hl.1 rfl (Nat.le_of_ble_eq_true rfl) ⟨Nat.zero_le _, Nat.zero_le _⟩ dX8_falls_201 (fun H locs hP hS => ?_)
            refine lv_if_le (tgt := 211) S.1 S.2.1 dX8_falls_204 (by decide) (fun c27 => ?_) (fun c27 => ?_)
            · rw [if_pos c27] at h
              refine lv_iconst (v := 1) S.1 S.2.1 dX8_falls_211 (by decide) ?_
              refine lv_iload_n S.1 S.2.1 dX8_falls_212 rfl (lv_at hl 0 rfl) ?_
              obtain ⟨z28, ez28, h⟩ := ob_s h
              refine pm_cVv (As := [.int (4 : Int32), .int (0 : Int32), .int (v2 - (2 : Int32)), .int (3 : Int32), .int (1 : Int32), .int v2]) (rest := []) S hK hX hP hS (c_X8_is l ev z25 E hth th (4 : Int32) (0 : Int32) (v2 - (2 : Int32)) (3 : Int32) (1 : Int32) v2 z28 ez28) vm_X8_is mw_4_175 (rc_6 hK hP hth) ⟨⟨rfl, rfl⟩, by decide, by decide⟩ rfl hl.1 rfl (Nat.le_of_ble_eq_true rfl) ⟨Nat.zero_le _, Nat.zero_le _⟩ dX8_falls_213 (fun H locs hP hS => ?_)
              refine lv_goto (tgt := 226) S.1 S.2.1 dX8_falls_216 (by decide) ?_
              refine lv_iconst (v := 1) S.1 S.2.1 dX8_falls_226 (by decide) ?_
              have h9 := Option.some.inj h
              exact pm_zretW S hr hlk (Or.inr rfl) hP hS (congrArg Prod.fst h9) (congrArg Prod.snd h9) dX8_falls_227
            · rw [if_neg c27] at h
              refine lv_iconst (v := 3) S.1 S.2.1 dX8_falls_207 (by decide) ?_
              refine lv_goto (tgt := 212) S.1 S.2.1 dX8_falls_208 (by decide) ?_
              refine lv_iload_n S.1 S.2.1 dX8_falls_212 rfl (lv_at hl 0 rfl) ?_
              obtain ⟨z29, ez29, h⟩ := ob_s h
              refine pm_cVv (As := [.int (4 : Int32), .int (0 : Int32), .int (v2 - (2 : Int32)), .int (3 : Int32), .int (3 : Int32), .int v2]) (rest := []) S hK hX hP hS (c_X8_is l ev z25 E hth th (4 : Int32) (0 : Int32) (v2 - (2 : Int32)) (3 : Int32) (3 : Int32) v2 z29 ez29) vm_X8_is mw_4_175 (rc_6 hK hP hth) ⟨⟨rfl, rfl⟩, by decide, by decide⟩ rfl hl.1 rfl (Nat.le_of_ble_eq_true rfl) ⟨Nat.zero_le _, Nat.zero_le _⟩ dX8_falls_213 (fun H locs hP hS => ?_)
              refine lv_goto (tgt := 226) S.1 S.2.1 dX8_falls_216 (by decide) ?_
              refine lv_iconst (v := 1) S.1 S.2.1 dX8_falls_226 (by decide) ?_
              have h9 := Option.some.inj h
              exact pm_zretW S hr hlk (Or.inr rfl) hP hS (congrArg Prod.fst h9) (congrArg Prod.snd h9) dX8_falls_227
        · rw [if_neg c13] at h
          refine lv_aload_n S.1 S.2.1 dX8_falls_134 rfl (lv_at hl 1 rfl) ?_
          refine lv_iconst (v := 3) S.1 S.2.1 dX8_falls_135 (by decide) ?_
          refine lv_iconst (v := 0) S.1 S.2.1 dX8_falls_136 (by decide) ?_
          refine lv_iload_n S.1 S.2.1 dX8_falls_137 rfl (lv_at hl 0 rfl) ?_
          refine lv_iconst (v := 1) S.1 S.2.1 dX8_falls_138 (by decide) ?_
          refine lv_isub S.1 S.2.1 dX8_falls_139 ?_
          refine lv_iconst (v := 2) S.1 S.2.1 dX8_falls_140 (by decide) ?_
          refine lv_iconst (v := 2) S.1 S.2.1 dX8_falls_141 (by decide) ?_
          refine lv_iload_n S.1 S.2.1 dX8_falls_142 rfl (lv_at hl 0 rfl) ?_
          obtain ⟨z30, ez30, h⟩ := ob_s h
          refine pm_cVv (As := [.int (3 : Int32), .int (0 : Int32), .int (v2 - (1 : Int32)), .int (2 : Int32), .int (2 : Int32), .int v2]) (rest := []) S hK hX hP hS (c_X8_is l ev z4 E hth th (3 : Int32) (0 : Int32) (v2 - (1 : Int32)) (2 : Int32) (2 : Int32) v2 z30 ez30) vm_X8_is mw_4_175 (rc_6 hK hP hth) ⟨⟨rfl, rfl⟩, by decide, by decide⟩ rfl hl.1 rfl (Nat.le_of_ble_eq_true rfl) ⟨Nat.zero_le _, Nat.zero_le _⟩ dX8_falls_143 (fun H locs hP hS => ?_)
          refine lv_goto (tgt := 226) S.1 S.2.1 dX8_falls_146 (by decide) ?_
          refine lv_iconst (v := 1) S.1 S.2.1 dX8_falls_226 (by decide) ?_
          have h9 := Option.some.inj h
          exact pm_zretW S hr hlk (Or.inr rfl) hP hS (congrArg Prod.fst h9) (congrArg Prod.snd h9) dX8_falls_227
      · rw [if_pos c9] at h
        refine lv_aload_n S.1 S.2.1 dX8_falls_106 rfl (lv_at hl 1 rfl) ?_
        refine lv_iconst (v := 2) S.1 S.2.1 dX8_falls_107 (by decide) ?_
        refine lv_iconst (v := 0) S.1 S.2.1 dX8_falls_108 (by decide) ?_
        refine lv_iload_n S.1 S.2.1 dX8_falls_109 rfl (lv_at hl 0 rfl) ?_
        refine lv_iconst (v := 1) S.1 S.2.1 dX8_falls_110 (by decide) ?_
        refine lv_iconst (v := 1) S.1 S.2.1 dX8_falls_111 (by decide) ?_
        refine lv_iload_n S.1 S.2.1 dX8_falls_112 rfl (lv_at hl 0 rfl) ?_
        obtain ⟨z31, ez31, h⟩ := ob_s h
        refine pm_cVv (As := [.int (2 : Int32), .int (0 : Int32), .int v2, .int (1 : Int32), .int (1 : Int32), .int v2]) (rest := []) S hK hX hP hS (c_X8_is l ev z4 E hth th (2 : Int32) (0 : Int32) v2 (1 : Int32) (1 : Int32) v2 z31 ez31) vm_X8_is mw_4_175 (rc_6 hK hP hth) ⟨⟨rfl, rfl⟩, by decide, by decide⟩ rfl hl.1 rfl (Nat.le_of_ble_eq_true rfl) ⟨Nat.zero_le _, Nat.zero_le _⟩ dX8_falls_113 (fun H locs hP hS => ?_)
        refine lv_goto (tgt := 226) S.1 S.2.1 dX8_falls_116 (by decide) ?_
        refine lv_iconst (v := 1) S.1 S.2.1 dX8_falls_226 (by decide) ?_
        have h9 := Option.some.inj h
        exact pm_zretW S hr hlk (Or.inr rfl) hP hS (congrArg Prod.fst h9) (congrArg Prod.snd h9) dX8_falls_227
    · rw [if_neg c7] at h
      refine lv_aload_n S.1 S.2.1 dX8_falls_41 rfl (lv_at hl 1 rfl) ?_
      refine lv_lload_n S.1 S.2.1 dX8_falls_42 rfl (lv_at hl 2 rfl) ?_
      obtain ⟨qv33, ev33, h⟩ := ob_s h
      obtain ⟨v33, fv33, h⟩ := bd_s h
      obtain ⟨z32, fz32, h⟩ := bd_s h
      have ev33 : g_X8_splits ev z4 th l1 = some (v33, z32) := by rw [fv33, fz32]; exact ev33
      refine pm_cVi (As := [.long l1]) (rest := []) S hK hX hP hS (c_X8_splits l ev z4 E hth th l1 v33 z32 ev33) vm_X8_splits mw_4_206 (rc_6 hK hP hth) ⟨⟨rfl, rfl⟩, by decide, by decide⟩ rfl hl.1 rfl (Nat.le_of_ble_eq_true rfl) ⟨Nat.zero_le _, Nat.zero_le _⟩ dX8_falls_43 (fun H locs hP hS => ?_)
      refine lv_istore (lv' := [(4, .int v33), (3, .int v2), (0, .ref th), (1, .long l1)]) S.1 S.2.1 dX8_falls_46 hl (by decide) rfl (fun ls hl => ?_)
      refine lv_aload_n S.1 S.2.1 dX8_falls_48 rfl (lv_at hl 2 rfl) ?_
      refine lv_iconst (v := 1) S.1 S.2.1 dX8_falls_49 (by decide) ?_
      refine lv_iload_n S.1 S.2.1 dX8_falls_50 rfl (lv_at hl 1 rfl) ?_
      refine lv_iconst (v := 1) S.1 S.2.1 dX8_falls_51 (by decide) ?_
      refine lv_iload_n S.1 S.2.1 dX8_falls_52 rfl (lv_at hl 1 rfl) ?_
      refine lv_iload S.1 S.2.1 dX8_falls_53 (lv_at hl 0 rfl) ?_
      refine lv_if_eq (tgt := 62) S.1 S.2.1 dX8_falls_55 (by decide) (fun c34 => ?_) (fun c34 => ?_)
      · rw [if_pos c34] at h
        refine lv_iload_n S.1 S.2.1 dX8_falls_62 rfl (lv_at hl 1 rfl) ?_
        refine lv_iconst (v := 2) S.1 S.2.1 dX8_falls_63 (by decide) ?_
        refine pm_irem S (by decide) dX8_falls_64 ?_
        refine lv_if_ne (tgt := 72) S.1 S.2.1 dX8_falls_65 (by decide) (fun c35 => ?_) (fun c35 => ?_)
        · rw [if_neg c35] at h
          refine lv_iconst (v := 1) S.1 S.2.1 dX8_falls_72 (by decide) ?_
          refine lv_iload_n S.1 S.2.1 dX8_falls_73 rfl (lv_at hl 1 rfl) ?_
          obtain ⟨z36, ez36, h⟩ := ob_s h
          refine pm_cVv (As := [.int (1 : Int32), .int v2, .int (1 : Int32), .int v2, .int (1 : Int32), .int v2]) (rest := []) S hK hX hP hS (c_X8_is l ev z32 E hth th (1 : Int32) v2 (1 : Int32) v2 (1 : Int32) v2 z36 ez36) vm_X8_is mw_4_175 (rc_6 hK hP hth) ⟨⟨rfl, rfl⟩, by decide, by decide⟩ rfl hl.1 rfl (Nat.le_of_ble_eq_true rfl) ⟨Nat.zero_le _, Nat.zero_le _⟩ dX8_falls_74 (fun H locs hP hS => ?_)
          refine lv_aload_n S.1 S.2.1 dX8_falls_77 rfl (lv_at hl 2 rfl) ?_
          refine gf_6_7 S hK hP hth mw_3_228 dX8_falls_78 ?_
          refine lv_bipush (v := 6) S.1 S.2.1 dX8_falls_81 (by decide) ?_
          refine lv_iload S.1 S.2.1 dX8_falls_83 (lv_at hl 0 rfl) ?_
          refine lv_if_eq (tgt := 92) S.1 S.2.1 dX8_falls_85 (by decide) (fun c37 => ?_) (fun c37 => ?_)
          · rw [if_pos c37] at h
            refine lv_iconst (v := 0) S.1 S.2.1 dX8_falls_92 (by decide) ?_
            obtain ⟨z38, ez38, h⟩ := bd_s h
            refine as_I S E hK hP hS (E_6_7 E hth) (by rw [N_6_7 E hth]; decide) dX8_falls_93 (fun H locs hP hS => ?_)
            have hP : Wd ev (wI z36 (rf ev 127 th) 6 (0 : Int32)) H := hP
            rw [← ez38] at hP
            refine lv_iconst (v := 1) S.1 S.2.1 dX8_falls_94 (by decide) ?_
            have h9 := Option.some.inj h
            exact pm_zretW S hr hlk (Or.inr rfl) hP hS (congrArg Prod.fst h9) (congrArg Prod.snd h9) dX8_falls_95
          · rw [if_neg c37] at h
            refine lv_iconst (v := 1) S.1 S.2.1 dX8_falls_88 (by decide) ?_
            refine lv_goto (tgt := 93) S.1 S.2.1 dX8_falls_89 (by decide) ?_
            obtain ⟨z39, ez39, h⟩ := bd_s h
            refine as_I S E hK hP hS (E_6_7 E hth) (by rw [N_6_7 E hth]; decide) dX8_falls_93 (fun H locs hP hS => ?_)
            have hP : Wd ev (wI z36 (rf ev 127 th) 6 (1 : Int32)) H := hP
            rw [← ez39] at hP
            refine lv_iconst (v := 1) S.1 S.2.1 dX8_falls_94 (by decide) ?_
            have h9 := Option.some.inj h
            exact pm_zretW S hr hlk (Or.inr rfl) hP hS (congrArg Prod.fst h9) (congrArg Prod.snd h9) dX8_falls_95
        · rw [if_pos c35] at h
          refine lv_iconst (v := 2) S.1 S.2.1 dX8_falls_68 (by decide) ?_
          refine lv_goto (tgt := 73) S.1 S.2.1 dX8_falls_69 (by decide) ?_
          refine lv_iload_n S.1 S.2.1 dX8_falls_73 rfl (lv_at hl 1 rfl) ?_
          obtain ⟨z40, ez40, h⟩ := ob_s h
          refine pm_cVv (As := [.int (1 : Int32), .int v2, .int (1 : Int32), .int v2, .int (2 : Int32), .int v2]) (rest := []) S hK hX hP hS (c_X8_is l ev z32 E hth th (1 : Int32) v2 (1 : Int32) v2 (2 : Int32) v2 z40 ez40) vm_X8_is mw_4_175 (rc_6 hK hP hth) ⟨⟨rfl, rfl⟩, by decide, by decide⟩ rfl hl.1 rfl (Nat.le_of_ble_eq_true rfl) ⟨Nat.zero_le _, Nat.zero_le _⟩ dX8_falls_74 (fun H locs hP hS => ?_)
          refine lv_aload_n S.1 S.2.1 dX8_falls_77 rfl (lv_at hl 2 rfl) ?_
          refine gf_6_7 S hK hP hth mw_3_228 dX8_falls_78 ?_
          refine lv_bipush (v := 6) S.1 S.2.1 dX8_falls_81 (by decide) ?_
          refine lv_iload S.1 S.2.1 dX8_falls_83 (lv_at hl 0 rfl) ?_
          refine lv_if_eq (tgt := 92) S.1 S.2.1 dX8_falls_85 (by decide) (fun c41 => ?_) (fun c41 => ?_)
          · rw [if_pos c41] at h
            refine lv_iconst (v := 0) S.1 S.2.1 dX8_falls_92 (by decide) ?_
            obtain ⟨z42, ez42, h⟩ := bd_s h
            refine as_I S E hK hP hS (E_6_7 E hth) (by rw [N_6_7 E hth]; decide) dX8_falls_93 (fun H locs hP hS => ?_)
            have hP : Wd ev (wI z40 (rf ev 127 th) 6 (0 : Int32)) H := hP
            rw [← ez42] at hP
            refine lv_iconst (v := 1) S.1 S.2.1 dX8_falls_94 (by decide) ?_
            have h9 := Option.some.inj h
            exact pm_zretW S hr hlk (Or.inr rfl) hP hS (congrArg Prod.fst h9) (congrArg Prod.snd h9) dX8_falls_95
          · rw [if_neg c41] at h
            refine lv_iconst (v := 1) S.1 S.2.1 dX8_falls_88 (by decide) ?_
            refine lv_goto (tgt := 93) S.1 S.2.1 dX8_falls_89 (by decide) ?_
            obtain ⟨z43, ez43, h⟩ := bd_s h
            refine as_I S E hK hP hS (E_6_7 E hth) (by rw [N_6_7 E hth]; decide) dX8_falls_93 (fun H locs hP hS => ?_)
            have hP : Wd ev (wI z40 (rf ev 127 th) 6 (1 : Int32)) H := hP
            rw [← ez43] at hP
            refine lv_iconst (v := 1) S.1 S.2.1 dX8_falls_94 (by decide) ?_
            have h9 := Option.some.inj h
            exact pm_zretW S hr hlk (Or.inr rfl) hP hS (congrArg Prod.fst h9) (congrArg Prod.snd h9) dX8_falls_95
      · rw [if_neg c34] at h
        refine lv_iload_n S.1 S.2.1 dX8_falls_58 rfl (lv_at hl 1 rfl) ?_
        refine lv_goto (tgt := 73) S.1 S.2.1 dX8_falls_59 (by decide) ?_
        refine lv_iload_n S.1 S.2.1 dX8_falls_73 rfl (lv_at hl 1 rfl) ?_
        obtain ⟨z44, ez44, h⟩ := ob_s h
        refine pm_cVv (As := [.int (1 : Int32), .int v2, .int (1 : Int32), .int v2, .int v2, .int v2]) (rest := []) S hK hX hP hS (c_X8_is l ev z32 E hth th (1 : Int32) v2 (1 : Int32) v2 v2 v2 z44 ez44) vm_X8_is mw_4_175 (rc_6 hK hP hth) ⟨⟨rfl, rfl⟩, by decide, by decide⟩ rfl hl.1 rfl (Nat.le_of_ble_eq_true rfl) ⟨Nat.zero_le _, Nat.zero_le _⟩ dX8_falls_74 (fun H locs hP hS => ?_)
        refine lv_aload_n S.1 S.2.1 dX8_falls_77 rfl (lv_at hl 2 rfl) ?_
        refine gf_6_7 S hK hP hth mw_3_228 dX8_falls_78 ?_
        refine lv_bipush (v := 6) S.1 S.2.1 dX8_falls_81 (by decide) ?_
        refine lv_iload S.1 S.2.1 dX8_falls_83 (lv_at hl 0 rfl) ?_
        refine lv_if_eq (tgt := 92) S.1 S.2.1 dX8_falls_85 (by decide) (fun c45 => ?_) (fun c45 => ?_)
        · rw [if_pos c45] at h
          refine lv_iconst (v := 0) S.1 S.2.1 dX8_falls_92 (by decide) ?_
          obtain ⟨z46, ez46, h⟩ := bd_s h
          refine as_I S E hK hP hS (E_6_7 E hth) (by rw [N_6_7 E hth]; decide) dX8_falls_93 (fun H locs hP hS => ?_)
          have hP : Wd ev (wI z44 (rf ev 127 th) 6 (0 : Int32)) H := hP
          rw [← ez46] at hP
          refine lv_iconst (v := 1) S.1 S.2.1 dX8_falls_94 (by decide) ?_
          have h9 := Option.some.inj h
          exact pm_zretW S hr hlk (Or.inr rfl) hP hS (congrArg Prod.fst h9) (congrArg Prod.snd h9) dX8_falls_95
        · rw [if_neg c45] at h
          refine lv_iconst (v := 1) S.1 S.2.1 dX8_falls_88 (by decide) ?_
          refine lv_goto (tgt := 93) S.1 S.2.1 dX8_falls_89 (by decide) ?_
          obtain ⟨z47, ez47, h⟩ := bd_s h
          refine as_I S E hK hP hS (E_6_7 E hth) (by rw [N_6_7 E hth]; decide) dX8_falls_93 (fun H locs hP hS => ?_)
          have hP : Wd ev (wI z44 (rf ev 127 th) 6 (1 : Int32)) H := hP
          rw [← ez47] at hP
          refine lv_iconst (v := 1) S.1 S.2.1 dX8_falls_94 (by decide) ?_
          have h9 := Option.some.inj h
          exact pm_zretW S hr hlk (Or.inr rfl) hP hS (congrArg Prod.fst h9) (congrArg Prod.snd h9) dX8_falls_95
  · rw [if_pos c3] at h
    refine lv_aload_n S.1 S.2.1 dX8_falls_13 rfl (lv_at hl 1 rfl) ?_
    refine lv_iconst (v := 0) S.1 S.2.1 dX8_falls_14 (by decide) ?_
    refine lv_iconst (v := 0) S.1 S.2.1 dX8_falls_15 (by decide) ?_
    refine lv_iconst (v := 0) S.1 S.2.1 dX8_falls_16 (by decide) ?_
    refine lv_iconst (v := 1) S.1 S.2.1 dX8_falls_17 (by decide) ?_
    refine lv_iconst (v := 1) S.1 S.2.1 dX8_falls_18 (by decide) ?_
    refine lv_iconst (v := 0) S.1 S.2.1 dX8_falls_19 (by decide) ?_
    obtain ⟨z48, ez48, h⟩ := ob_s h
    refine pm_cVv (As := [.int (0 : Int32), .int (0 : Int32), .int (0 : Int32), .int (1 : Int32), .int (1 : Int32), .int (0 : Int32)]) (rest := []) S hK hX hP hS (c_X8_is l ev z E hth th (0 : Int32) (0 : Int32) (0 : Int32) (1 : Int32) (1 : Int32) (0 : Int32) z48 ez48) vm_X8_is mw_4_175 (rc_6 hK hP hth) ⟨⟨rfl, rfl⟩, by decide, by decide⟩ rfl hl.1 rfl (Nat.le_of_ble_eq_true rfl) ⟨Nat.zero_le _, Nat.zero_le _⟩ dX8_falls_20 (fun H locs hP hS => ?_)
    refine lv_iconst (v := 1) S.1 S.2.1 dX8_falls_23 (by decide) ?_
    have h9 := Option.some.inj h
    exact pm_zretW S hr hlk (Or.inr rfl) hP hS (congrArg Prod.fst h9) (congrArg Prod.snd h9) dX8_falls_24
theorem vm_X8_falls : pm_Vm yX8_falls cX8_falls 5 (some .boolean) 1 := ⟨mw_4_197, mw_4_196, ms_660, mw_1_7, by decide, by decide⟩
