def g_X7_within (l0 : Int64) (l2 : Int64) : Option Int32 := if l0 < (-l2) then (some (0 : Int32)) else (if l2 < l0 then (some (0 : Int32)) else (some (1 : Int32)))
set_option maxRecDepth 20000 in
set_option maxHeartbeats 4000000 in
theorem c_X7_within (l : Launch) (l0 : Int64) (l2 : Int64) (r : Int32) (h : g_X7_within l0 l2 = some r) : Met l yX7_within (pWs yX7_within cX7_within 4 (some .boolean)) (pR 0 0) (va_Pc [.long l0, .long l2] (fun _ => True)) (k2_QcV (.int r)) 0 0 (fun _ => False) := by
  refine pm_of (by decide) (Nat.le_of_ble_eq_true rfl) ?_
  intro p e s m below meth c S hr hlk hv ls hl
  have hl : lv_has ls 4 [(0, .long l0), (2, .long l2)] := hl
  unfold g_X7_within at h
  refine lv_lload_n S.1 S.2.1 dX7_within_0 rfl (lv_at hl 0 rfl) ?_
  refine lv_lload_n S.1 S.2.1 dX7_within_1 rfl (lv_at hl 1 rfl) ?_
  refine lv_lneg S.1 S.2.1 dX7_within_2 ?_
  refine pm_llt (tgt := 17) S dX7_within_3 dX7_within_4 (by decide) (fun c1 => ?_) (fun c1 => ?_)
  · rw [if_pos c1] at h
    refine lv_iconst (v := 0) S.1 S.2.1 dX7_within_17 (by decide) ?_
    exact pm_zretR S hr hlk (Or.inl rfl) (Option.some.inj h) dX7_within_18
  · rw [if_neg c1] at h
    refine lv_lload_n S.1 S.2.1 dX7_within_7 rfl (lv_at hl 0 rfl) ?_
    refine lv_lload_n S.1 S.2.1 dX7_within_8 rfl (lv_at hl 1 rfl) ?_
    refine pm_lgt (tgt := 17) S dX7_within_9 dX7_within_10 (by decide) (fun c2 => ?_) (fun c2 => ?_)
    · rw [if_pos c2] at h
      refine lv_iconst (v := 0) S.1 S.2.1 dX7_within_17 (by decide) ?_
      exact pm_zretR S hr hlk (Or.inl rfl) (Option.some.inj h) dX7_within_18
    · rw [if_neg c2] at h
      refine lv_iconst (v := 1) S.1 S.2.1 dX7_within_13 (by decide) ?_
      refine lv_goto (tgt := 18) S.1 S.2.1 dX7_within_14 (by decide) ?_
      exact pm_zretR S hr hlk (Or.inr rfl) (Option.some.inj h) dX7_within_18
theorem sm_X7_within : pm_Sm yX7_within cX7_within 4 (some .boolean) 2 := ⟨mw_1_214, mw_1_213, mw_1_1, by decide, by decide⟩
def q_X4_times_22 : Nat → Int64 → Int32 → Int64 → Option Int32
  | 0, _, _, _ => none
  | n + 1, l2, l4, l5 => ck (¬ l2 = 0) (if (jr64 l5 l2) = (0 : Int64) then (if (64 : Int32) ≤ l4 then (some l4) else (bd (l4 + (1 : Int32)) (fun v6 => ck (¬ l2 = 0) (bd ((l5 / l2)) (fun v8 => q_X4_times_22 n l2 v6 v8))))) else (some l4))
set_option maxRecDepth 20000 in
set_option maxHeartbeats 4000000 in
theorem w_X4_times_22 {p : Program} {l : Launch} {e : Env} {s : State} {m : MethodId} {args : Array Value} {below : List Frame} {meth : Method} {c : Code} {r : Int32} (S : CallFix p m c cX4_times 7 s args gT RX4) (hr : meth.sig.returnType = (some .int)) (hlk : meth.locks = false) : ∀ (n : Nat), ∀ (l2 : Int64) (l4 : Int32) (l5 : Int64) (ls : Array Slot), q_X4_times_22 n l2 l4 l5 = some r → lv_has ls 7 [(2, .long l2), (4, .int l4), (5, .long l5)] → W p l e (pR 0 0) s m args below meth c s.heap [] 0 0 (MQ below (k2_QcV (.int r)) args s 0 0 (fun _ => False)) (F0 m 22 ls []) := by
  intro n
  induction n with
  | zero => intro l2 l4 l5 ls h; cases h
  | succ n ih =>
    intro l2 l4 l5 ls h hl
    rw [q_X4_times_22] at h
    refine lv_lload S.1 S.2.1 dX4_times_22 (lv_at hl 2 rfl) ?_
    refine lv_lload_n S.1 S.2.1 dX4_times_24 rfl (lv_at hl 0 rfl) ?_
    obtain ⟨hc3, h⟩ := ck_s h
    refine pm_lrem S hc3 dX4_times_25 ?_
    refine lv_lconst (v := 0) S.1 S.2.1 dX4_times_26 (by decide) ?_
    refine pm_lne (tgt := 50) S dX4_times_27 dX4_times_28 (by decide) (fun c4 => ?_) (fun c4 => ?_)
    · rw [if_neg c4] at h
      refine lv_iload S.1 S.2.1 dX4_times_50 (lv_at hl 1 rfl) ?_
      exact pm_iretR S hr hlk (Option.some.inj h) dX4_times_52
    · rw [if_pos c4] at h
      refine lv_iload S.1 S.2.1 dX4_times_31 (lv_at hl 1 rfl) ?_
      refine lv_bipush (v := 64) S.1 S.2.1 dX4_times_33 (by decide) ?_
      refine lv_icmp_ge (tgt := 50) S.1 S.2.1 dX4_times_35 (by decide) (fun c5 => ?_) (fun c5 => ?_)
      · rw [if_pos c5] at h
        refine lv_iload S.1 S.2.1 dX4_times_50 (lv_at hl 1 rfl) ?_
        exact pm_iretR S hr hlk (Option.some.inj h) dX4_times_52
      · rw [if_neg c5] at h
        obtain ⟨v6, ev6, h⟩ := bd_s h
        refine lv_iinc (v := v6) (lv' := [(4, .int v6), (2, .long l2), (5, .long l5)]) S.1 S.2.1 dX4_times_38 hl (k := 1) rfl (by rw [ev6]; rfl) (by decide) rfl (fun ls hl => ?_)
        refine lv_lload S.1 S.2.1 dX4_times_41 (lv_at hl 2 rfl) ?_
        refine lv_lload_n S.1 S.2.1 dX4_times_43 rfl (lv_at hl 1 rfl) ?_
        obtain ⟨hc7, h⟩ := ck_s h
        refine lv_ldiv S.1 S.2.1 dX4_times_44 hc7 ?_
        obtain ⟨v8, ev8, h⟩ := bd_s h
        refine pm_nmL ev8 ?_
        refine lv_lstore (lv' := [(5, .long v8), (4, .int v6), (2, .long l2)]) S.1 S.2.1 dX4_times_45 hl (by decide) rfl (fun ls hl => ?_)
        refine lv_goto (tgt := 22) S.1 S.2.1 dX4_times_47 (by decide) ?_
        exact ih l2 v6 v8 ls h (lv_sub hl [2, 1, 0] rfl)
def g_X4_times (l0 : Int64) (l2 : Int64) : Option Int32 := if l2 < (2 : Int64) then (some (0 : Int32)) else (if l0 = (0 : Int64) then (some (0 : Int32)) else (q_X4_times_22 FU l2 (0 : Int32) l0))
set_option maxRecDepth 20000 in
set_option maxHeartbeats 4000000 in
theorem c_X4_times (l : Launch) (l0 : Int64) (l2 : Int64) (r : Int32) (h : g_X4_times l0 l2 = some r) : Met l yX4_times (pWs yX4_times cX4_times 7 (some .int)) (pR 0 0) (va_Pc [.long l0, .long l2] (fun _ => True)) (k2_QcV (.int r)) 0 0 (fun _ => False) := by
  refine pm_of (by decide) (Nat.le_of_ble_eq_true rfl) ?_
  intro p e s m below meth c S hr hlk hv ls hl
  have hl : lv_has ls 7 [(0, .long l0), (2, .long l2)] := hl
  unfold g_X4_times at h
  refine lv_lload_n S.1 S.2.1 dX4_times_0 rfl (lv_at hl 1 rfl) ?_
  refine pm_ldc2 S mw_2_19 dX4_times_1 ?_
  refine pm_llt (tgt := 14) S dX4_times_4 dX4_times_5 (by decide) (fun c1 => ?_) (fun c1 => ?_)
  · rw [if_pos c1] at h
    refine lv_iconst (v := 0) S.1 S.2.1 dX4_times_14 (by decide) ?_
    exact pm_iretR S hr hlk (Option.some.inj h) dX4_times_15
  · rw [if_neg c1] at h
    refine lv_lload_n S.1 S.2.1 dX4_times_8 rfl (lv_at hl 0 rfl) ?_
    refine lv_lconst (v := 0) S.1 S.2.1 dX4_times_9 (by decide) ?_
    refine pm_lne (tgt := 16) S dX4_times_10 dX4_times_11 (by decide) (fun c2 => ?_) (fun c2 => ?_)
    · rw [if_neg c2] at h
      refine lv_iconst (v := 0) S.1 S.2.1 dX4_times_16 (by decide) ?_
      refine lv_istore (lv' := [(4, .int (0 : Int32)), (0, .long l0), (2, .long l2)]) S.1 S.2.1 dX4_times_17 hl (by decide) rfl (fun ls hl => ?_)
      refine lv_lload_n S.1 S.2.1 dX4_times_19 rfl (lv_at hl 1 rfl) ?_
      refine lv_lstore (lv' := [(5, .long l0), (4, .int (0 : Int32)), (0, .long l0), (2, .long l2)]) S.1 S.2.1 dX4_times_20 hl (by decide) rfl (fun ls hl => ?_)
      exact w_X4_times_22 S hr hlk FU l2 (0 : Int32) l0 ls h (lv_sub hl [3, 1, 0] rfl)
    · rw [if_pos c2] at h
      refine lv_iconst (v := 0) S.1 S.2.1 dX4_times_14 (by decide) ?_
      exact pm_iretR S hr hlk (Option.some.inj h) dX4_times_15
theorem sm_X4_times : pm_Sm yX4_times cX4_times 7 (some .int) 2 := ⟨mw_2_18, mw_2_17, mw_1_9, by decide, by decide⟩
def q_X4_power_5 : Nat → Int64 → Int32 → Int64 → Int32 → Option Int64
  | 0, _, _, _, _ => none
  | n + 1, l0, l2, l3, l5 => if l2 ≤ l5 then (some l3) else (bd ((l3 * l0)) (fun v2 => bd (l5 + (1 : Int32)) (fun v3 => q_X4_power_5 n l0 l2 v2 v3)))
set_option maxRecDepth 20000 in
set_option maxHeartbeats 4000000 in
theorem w_X4_power_5 {p : Program} {l : Launch} {e : Env} {s : State} {m : MethodId} {args : Array Value} {below : List Frame} {meth : Method} {c : Code} {r : Int64} (S : CallFix p m c cX4_power 6 s args gT RX4) (hr : meth.sig.returnType = (some .long)) (hlk : meth.locks = false) : ∀ (n : Nat), ∀ (l0 : Int64) (l2 : Int32) (l3 : Int64) (l5 : Int32) (ls : Array Slot), q_X4_power_5 n l0 l2 l3 l5 = some r → lv_has ls 6 [(0, .long l0), (2, .int l2), (3, .long l3), (5, .int l5)] → W p l e (pR 0 0) s m args below meth c s.heap [] 0 0 (MQ below (k2_QcV (.long r)) args s 0 0 (fun _ => False)) (F0 m 5 ls []) := by
  intro n
  induction n with
  | zero => intro l0 l2 l3 l5 ls h; cases h
  | succ n ih =>
    intro l0 l2 l3 l5 ls h hl
    rw [q_X4_power_5] at h
    refine lv_iload S.1 S.2.1 dX4_power_5 (lv_at hl 3 rfl) ?_
    refine lv_iload_n S.1 S.2.1 dX4_power_7 rfl (lv_at hl 1 rfl) ?_
    refine lv_icmp_ge (tgt := 21) S.1 S.2.1 dX4_power_8 (by decide) (fun c1 => ?_) (fun c1 => ?_)
    · rw [if_pos c1] at h
      refine lv_lload_n S.1 S.2.1 dX4_power_21 rfl (lv_at hl 2 rfl) ?_
      exact pm_lretR S hr hlk (Option.some.inj h) dX4_power_22
    · rw [if_neg c1] at h
      refine lv_lload_n S.1 S.2.1 dX4_power_11 rfl (lv_at hl 2 rfl) ?_
      refine lv_lload_n S.1 S.2.1 dX4_power_12 rfl (lv_at hl 0 rfl) ?_
      refine lv_lmul S.1 S.2.1 dX4_power_13 ?_
      obtain ⟨v2, ev2, h⟩ := bd_s h
      refine pm_nmL ev2 ?_
      refine lv_lstore_n (lv' := [(3, .long v2), (0, .long l0), (2, .int l2), (5, .int l5)]) S.1 S.2.1 dX4_power_14 rfl hl (by decide) rfl (fun ls hl => ?_)
      obtain ⟨v3, ev3, h⟩ := bd_s h
      refine lv_iinc (v := v3) (lv' := [(5, .int v3), (3, .long v2), (0, .long l0), (2, .int l2)]) S.1 S.2.1 dX4_power_15 hl (k := 3) rfl (by rw [ev3]; rfl) (by decide) rfl (fun ls hl => ?_)
      refine lv_goto (tgt := 5) S.1 S.2.1 dX4_power_18 (by decide) ?_
      exact ih l0 l2 v2 v3 ls h (lv_sub hl [2, 3, 1, 0] rfl)
def g_X4_power (l0 : Int64) (l2 : Int32) : Option Int64 := q_X4_power_5 FU l0 l2 (1 : Int64) (0 : Int32)
set_option maxRecDepth 20000 in
set_option maxHeartbeats 4000000 in
theorem c_X4_power (l : Launch) (l0 : Int64) (l2 : Int32) (r : Int64) (h : g_X4_power l0 l2 = some r) : Met l yX4_power (pWs yX4_power cX4_power 6 (some .long)) (pR 0 0) (va_Pc [.long l0, .int l2] (fun _ => True)) (k2_QcV (.long r)) 0 0 (fun _ => False) := by
  refine pm_of (by decide) (Nat.le_of_ble_eq_true rfl) ?_
  intro p e s m below meth c S hr hlk hv ls hl
  have hl : lv_has ls 6 [(0, .long l0), (2, .int l2)] := hl
  unfold g_X4_power at h
  refine lv_lconst (v := 1) S.1 S.2.1 dX4_power_0 (by decide) ?_
  refine lv_lstore_n (lv' := [(3, .long (1 : Int64)), (0, .long l0), (2, .int l2)]) S.1 S.2.1 dX4_power_1 rfl hl (by decide) rfl (fun ls hl => ?_)
  refine lv_iconst (v := 0) S.1 S.2.1 dX4_power_2 (by decide) ?_
  refine lv_istore (lv' := [(5, .int (0 : Int32)), (3, .long (1 : Int64)), (0, .long l0), (2, .int l2)]) S.1 S.2.1 dX4_power_3 hl (by decide) rfl (fun ls hl => ?_)
  exact w_X4_power_5 S hr hlk FU l0 l2 (1 : Int64) (0 : Int32) ls h (lv_sub hl [2, 3, 1, 0] rfl)
theorem sm_X4_power : pm_Sm yX4_power cX4_power 6 (some .long) 2 := ⟨mw_2_28, mw_2_27, mw_1_9, by decide, by decide⟩
def g_X4_quotient (l0 : Int64) (l2 : Int64) : Option Int64 := if l2 = (0 : Int64) then (some (0 : Int64)) else (ck (¬ l2 = 0) (some (l0 / l2)))
set_option maxRecDepth 20000 in
set_option maxHeartbeats 4000000 in
theorem c_X4_quotient (l : Launch) (l0 : Int64) (l2 : Int64) (r : Int64) (h : g_X4_quotient l0 l2 = some r) : Met l yX4_quotient (pWs yX4_quotient cX4_quotient 4 (some .long)) (pR 0 0) (va_Pc [.long l0, .long l2] (fun _ => True)) (k2_QcV (.long r)) 0 0 (fun _ => False) := by
  refine pm_of (by decide) (Nat.le_of_ble_eq_true rfl) ?_
  intro p e s m below meth c S hr hlk hv ls hl
  have hl : lv_has ls 4 [(0, .long l0), (2, .long l2)] := hl
  unfold g_X4_quotient at h
  refine lv_lload_n S.1 S.2.1 dX4_quotient_0 rfl (lv_at hl 1 rfl) ?_
  refine lv_lconst (v := 0) S.1 S.2.1 dX4_quotient_1 (by decide) ?_
  refine pm_lne (tgt := 10) S dX4_quotient_2 dX4_quotient_3 (by decide) (fun c1 => ?_) (fun c1 => ?_)
  · rw [if_neg c1] at h
    refine lv_lload_n S.1 S.2.1 dX4_quotient_10 rfl (lv_at hl 0 rfl) ?_
    refine lv_lload_n S.1 S.2.1 dX4_quotient_11 rfl (lv_at hl 1 rfl) ?_
    obtain ⟨hc2, h⟩ := ck_s h
    refine lv_ldiv S.1 S.2.1 dX4_quotient_12 hc2 ?_
    exact pm_lretR S hr hlk (Option.some.inj h) dX4_quotient_13
  · rw [if_pos c1] at h
    refine lv_lconst (v := 0) S.1 S.2.1 dX4_quotient_6 (by decide) ?_
    refine lv_goto (tgt := 13) S.1 S.2.1 dX4_quotient_7 (by decide) ?_
    exact pm_lretR S hr hlk (Option.some.inj h) dX4_quotient_13
theorem sm_X4_quotient : pm_Sm yX4_quotient cX4_quotient 4 (some .long) 2 := ⟨mw_2_31, mw_2_30, mw_1_9, by decide, by decide⟩
def g_X4_rest (l0 : Int64) (l2 : Int64) : Option Int64 := if (0 : Int64) < l2 then (ck (¬ l2 = 0) (bd ((jr64 l0 l2)) (fun v3 => if (0 : Int64) ≤ v3 then (some v3) else (some (v3 + l2))))) else (some (0 : Int64))
set_option maxRecDepth 20000 in
set_option maxHeartbeats 4000000 in
theorem c_X4_rest (l : Launch) (l0 : Int64) (l2 : Int64) (r : Int64) (h : g_X4_rest l0 l2 = some r) : Met l yX4_rest (pWs yX4_rest cX4_rest 6 (some .long)) (pR 0 0) (va_Pc [.long l0, .long l2] (fun _ => True)) (k2_QcV (.long r)) 0 0 (fun _ => False) := by
  refine pm_of (by decide) (Nat.le_of_ble_eq_true rfl) ?_
  intro p e s m below meth c S hr hlk hv ls hl
  have hl : lv_has ls 6 [(0, .long l0), (2, .long l2)] := hl
  unfold g_X4_rest at h
  refine lv_lload_n S.1 S.2.1 dX4_rest_0 rfl (lv_at hl 1 rfl) ?_
  refine lv_lconst (v := 0) S.1 S.2.1 dX4_rest_1 (by decide) ?_
  refine pm_lgt (tgt := 8) S dX4_rest_2 dX4_rest_3 (by decide) (fun c1 => ?_) (fun c1 => ?_)
  · rw [if_pos c1] at h
    refine lv_lload_n S.1 S.2.1 dX4_rest_8 rfl (lv_at hl 0 rfl) ?_
    refine lv_lload_n S.1 S.2.1 dX4_rest_9 rfl (lv_at hl 1 rfl) ?_
    obtain ⟨hc2, h⟩ := ck_s h
    refine pm_lrem S hc2 dX4_rest_10 ?_
    obtain ⟨v3, ev3, h⟩ := bd_s h
    refine pm_nmL ev3 ?_
    refine lv_lstore (lv' := [(4, .long v3), (0, .long l0), (2, .long l2)]) S.1 S.2.1 dX4_rest_11 hl (by decide) rfl (fun ls hl => ?_)
    refine lv_lload S.1 S.2.1 dX4_rest_13 (lv_at hl 0 rfl) ?_
    refine lv_lconst (v := 0) S.1 S.2.1 dX4_rest_15 (by decide) ?_
    refine pm_lge (tgt := 27) S dX4_rest_16 dX4_rest_17 (by decide) (fun c4 => ?_) (fun c4 => ?_)
    · rw [if_pos c4] at h
      refine lv_lload S.1 S.2.1 dX4_rest_27 (lv_at hl 0 rfl) ?_
      exact pm_lretR S hr hlk (Option.some.inj h) dX4_rest_29
    · rw [if_neg c4] at h
      refine lv_lload S.1 S.2.1 dX4_rest_20 (lv_at hl 0 rfl) ?_
      refine lv_lload_n S.1 S.2.1 dX4_rest_22 rfl (lv_at hl 2 rfl) ?_
      refine lv_ladd S.1 S.2.1 dX4_rest_23 ?_
      refine lv_goto (tgt := 29) S.1 S.2.1 dX4_rest_24 (by decide) ?_
      exact pm_lretR S hr hlk (Option.some.inj h) dX4_rest_29
  · rw [if_neg c1] at h
    refine lv_lconst (v := 0) S.1 S.2.1 dX4_rest_6 (by decide) ?_
    exact pm_lretR S hr hlk (Option.some.inj h) dX4_rest_7
theorem sm_X4_rest : pm_Sm yX4_rest cX4_rest 6 (some .long) 2 := ⟨mw_2_38, mw_2_37, mw_1_9, by decide, by decide⟩
def q_X4_isPrime_37 : Nat → Int32 → Int32 → Option Int32
  | 0, _, _ => none
  | n + 1, l0, l1 => if (46340 : Int32) < l1 then (some (1 : Int32)) else (if l0 < (l1 * l1) then (some (1 : Int32)) else (ck (¬ l1 = 0) (if (jr32 l0 l1) = 0 then (some (0 : Int32)) else (ck (¬ (l1 + (2 : Int32)) = 0) (if (jr32 l0 (l1 + (2 : Int32))) = 0 then (some (0 : Int32)) else (bd (l1 + (6 : Int32)) (fun v12 => q_X4_isPrime_37 n l0 v12)))))))
set_option maxRecDepth 20000 in
set_option maxHeartbeats 4000000 in
theorem w_X4_isPrime_37 {p : Program} {l : Launch} {e : Env} {s : State} {m : MethodId} {args : Array Value} {below : List Frame} {meth : Method} {c : Code} {r : Int32} (S : CallFix p m c cX4_isPrime 2 s args gT RX4) (hr : meth.sig.returnType = (some .boolean)) (hlk : meth.locks = false) : ∀ (n : Nat), ∀ (l0 : Int32) (l1 : Int32) (ls : Array Slot), q_X4_isPrime_37 n l0 l1 = some r → lv_has ls 2 [(0, .int l0), (1, .int l1)] → W p l e (pR 0 0) s m args below meth c s.heap [] 0 0 (MQ below (k2_QcV (.int r)) args s 0 0 (fun _ => False)) (F0 m 37 ls []) := by
  intro n
  induction n with
  | zero => intro l0 l1 ls h; cases h
  | succ n ih =>
    intro l0 l1 ls h hl
    rw [q_X4_isPrime_37] at h
    refine lv_iload_n S.1 S.2.1 dX4_isPrime_37 rfl (lv_at hl 1 rfl) ?_
    refine pm_ldc S mw_2_132 dX4_isPrime_38 ?_
    refine lv_icmp_gt (tgt := 72) S.1 S.2.1 dX4_isPrime_40 (by decide) (fun c6 => ?_) (fun c6 => ?_)
    · rw [if_pos c6] at h
      refine lv_iconst (v := 1) S.1 S.2.1 dX4_isPrime_72 (by decide) ?_
      exact pm_zretR S hr hlk (Or.inr rfl) (Option.some.inj h) dX4_isPrime_73
    · rw [if_neg c6] at h
      refine lv_iload_n S.1 S.2.1 dX4_isPrime_43 rfl (lv_at hl 1 rfl) ?_
      refine lv_iload_n S.1 S.2.1 dX4_isPrime_44 rfl (lv_at hl 1 rfl) ?_
      refine lv_imul S.1 S.2.1 dX4_isPrime_45 ?_
      refine lv_iload_n S.1 S.2.1 dX4_isPrime_46 rfl (lv_at hl 0 rfl) ?_
      refine lv_icmp_gt (tgt := 72) S.1 S.2.1 dX4_isPrime_47 (by decide) (fun c7 => ?_) (fun c7 => ?_)
      · rw [if_pos c7] at h
        refine lv_iconst (v := 1) S.1 S.2.1 dX4_isPrime_72 (by decide) ?_
        exact pm_zretR S hr hlk (Or.inr rfl) (Option.some.inj h) dX4_isPrime_73
      · rw [if_neg c7] at h
        refine lv_iload_n S.1 S.2.1 dX4_isPrime_50 rfl (lv_at hl 0 rfl) ?_
        refine lv_iload_n S.1 S.2.1 dX4_isPrime_51 rfl (lv_at hl 1 rfl) ?_
        obtain ⟨hc8, h⟩ := ck_s h
        refine pm_irem S hc8 dX4_isPrime_52 ?_
        refine lv_if_eq (tgt := 64) S.1 S.2.1 dX4_isPrime_53 (by decide) (fun c9 => ?_) (fun c9 => ?_)
        · rw [if_pos c9] at h
          refine lv_iconst (v := 0) S.1 S.2.1 dX4_isPrime_64 (by decide) ?_
          exact pm_zretR S hr hlk (Or.inl rfl) (Option.some.inj h) dX4_isPrime_65
        · rw [if_neg c9] at h
          refine lv_iload_n S.1 S.2.1 dX4_isPrime_56 rfl (lv_at hl 0 rfl) ?_
          refine lv_iload_n S.1 S.2.1 dX4_isPrime_57 rfl (lv_at hl 1 rfl) ?_
          refine lv_iconst (v := 2) S.1 S.2.1 dX4_isPrime_58 (by decide) ?_
          refine lv_iadd S.1 S.2.1 dX4_isPrime_59 ?_
          obtain ⟨hc10, h⟩ := ck_s h
          refine pm_irem S hc10 dX4_isPrime_60 ?_
          refine lv_if_ne (tgt := 66) S.1 S.2.1 dX4_isPrime_61 (by decide) (fun c11 => ?_) (fun c11 => ?_)
          · rw [if_neg c11] at h
            obtain ⟨v12, ev12, h⟩ := bd_s h
            refine lv_iinc (v := v12) (lv' := [(1, .int v12), (0, .int l0)]) S.1 S.2.1 dX4_isPrime_66 hl (k := 1) rfl (by rw [ev12]; rfl) (by decide) rfl (fun ls hl => ?_)
            refine lv_goto (tgt := 37) S.1 S.2.1 dX4_isPrime_69 (by decide) ?_
            exact ih l0 v12 ls h (lv_sub hl [1, 0] rfl)
          · rw [if_pos c11] at h
            refine lv_iconst (v := 0) S.1 S.2.1 dX4_isPrime_64 (by decide) ?_
            exact pm_zretR S hr hlk (Or.inl rfl) (Option.some.inj h) dX4_isPrime_65
def g_X4_isPrime (l0 : Int32) : Option Int32 := if (4 : Int32) ≤ l0 then (if (jr32 l0 (2 : Int32)) = 0 then (some (0 : Int32)) else (if (jr32 l0 (3 : Int32)) = 0 then (some (0 : Int32)) else (q_X4_isPrime_37 FU l0 (5 : Int32)))) else (if l0 = (2 : Int32) then (some (1 : Int32)) else (if l0 = (3 : Int32) then (some (1 : Int32)) else (some (0 : Int32))))
set_option maxRecDepth 20000 in
set_option maxHeartbeats 4000000 in
theorem c_X4_isPrime (l : Launch) (l0 : Int32) (r : Int32) (h : g_X4_isPrime l0 = some r) : Met l yX4_isPrime (pWs yX4_isPrime cX4_isPrime 2 (some .boolean)) (pR 0 0) (va_Pc [.int l0] (fun _ => True)) (k2_QcV (.int r)) 0 0 (fun _ => False) := by
  refine pm_of (by decide) (Nat.le_of_ble_eq_true rfl) ?_
  intro p e s m below meth c S hr hlk hv ls hl
  have hl : lv_has ls 2 [(0, .int l0)] := hl
  unfold g_X4_isPrime at h
  refine lv_iload_n S.1 S.2.1 dX4_isPrime_0 rfl (lv_at hl 0 rfl) ?_
  refine lv_iconst (v := 4) S.1 S.2.1 dX4_isPrime_1 (by decide) ?_
  refine lv_icmp_ge (tgt := 21) S.1 S.2.1 dX4_isPrime_2 (by decide) (fun c1 => ?_) (fun c1 => ?_)
  · rw [if_pos c1] at h
    refine lv_iload_n S.1 S.2.1 dX4_isPrime_21 rfl (lv_at hl 0 rfl) ?_
    refine lv_iconst (v := 2) S.1 S.2.1 dX4_isPrime_22 (by decide) ?_
    refine pm_irem S (by decide) dX4_isPrime_23 ?_
    refine lv_if_eq (tgt := 33) S.1 S.2.1 dX4_isPrime_24 (by decide) (fun c2 => ?_) (fun c2 => ?_)
    · rw [if_pos c2] at h
      refine lv_iconst (v := 0) S.1 S.2.1 dX4_isPrime_33 (by decide) ?_
      exact pm_zretR S hr hlk (Or.inl rfl) (Option.some.inj h) dX4_isPrime_34
    · rw [if_neg c2] at h
      refine lv_iload_n S.1 S.2.1 dX4_isPrime_27 rfl (lv_at hl 0 rfl) ?_
      refine lv_iconst (v := 3) S.1 S.2.1 dX4_isPrime_28 (by decide) ?_
      refine pm_irem S (by decide) dX4_isPrime_29 ?_
      refine lv_if_ne (tgt := 35) S.1 S.2.1 dX4_isPrime_30 (by decide) (fun c3 => ?_) (fun c3 => ?_)
      · rw [if_neg c3] at h
        refine lv_iconst (v := 5) S.1 S.2.1 dX4_isPrime_35 (by decide) ?_
        refine lv_istore_n (lv' := [(1, .int (5 : Int32)), (0, .int l0)]) S.1 S.2.1 dX4_isPrime_36 rfl hl (by decide) rfl (fun ls hl => ?_)
        exact w_X4_isPrime_37 S hr hlk FU l0 (5 : Int32) ls h (lv_sub hl [1, 0] rfl)
      · rw [if_pos c3] at h
        refine lv_iconst (v := 0) S.1 S.2.1 dX4_isPrime_33 (by decide) ?_
        exact pm_zretR S hr hlk (Or.inl rfl) (Option.some.inj h) dX4_isPrime_34
  · rw [if_neg c1] at h
    refine lv_iload_n S.1 S.2.1 dX4_isPrime_5 rfl (lv_at hl 0 rfl) ?_
    refine lv_iconst (v := 2) S.1 S.2.1 dX4_isPrime_6 (by decide) ?_
    refine lv_icmp_eq (tgt := 15) S.1 S.2.1 dX4_isPrime_7 (by decide) (fun c4 => ?_) (fun c4 => ?_)
    · rw [if_pos c4] at h
      refine lv_iconst (v := 1) S.1 S.2.1 dX4_isPrime_15 (by decide) ?_
      refine lv_goto (tgt := 20) S.1 S.2.1 dX4_isPrime_16 (by decide) ?_
      exact pm_zretR S hr hlk (Or.inr rfl) (Option.some.inj h) dX4_isPrime_20
    · rw [if_neg c4] at h
      refine lv_iload_n S.1 S.2.1 dX4_isPrime_10 rfl (lv_at hl 0 rfl) ?_
      refine lv_iconst (v := 3) S.1 S.2.1 dX4_isPrime_11 (by decide) ?_
      refine lv_icmp_ne (tgt := 19) S.1 S.2.1 dX4_isPrime_12 (by decide) (fun c5 => ?_) (fun c5 => ?_)
      · rw [if_neg c5] at h
        refine lv_iconst (v := 0) S.1 S.2.1 dX4_isPrime_19 (by decide) ?_
        exact pm_zretR S hr hlk (Or.inl rfl) (Option.some.inj h) dX4_isPrime_20
      · rw [if_pos c5] at h
        refine lv_iconst (v := 1) S.1 S.2.1 dX4_isPrime_15 (by decide) ?_
        refine lv_goto (tgt := 20) S.1 S.2.1 dX4_isPrime_16 (by decide) ?_
        exact pm_zretR S hr hlk (Or.inr rfl) (Option.some.inj h) dX4_isPrime_20
theorem sm_X4_isPrime : pm_Sm yX4_isPrime cX4_isPrime 2 (some .boolean) 1 := ⟨mw_2_131, mw_2_130, mw_1_9, by decide, by decide⟩
def q_X4_powerRest_21 : Nat → Int64 → Int64 → Int64 → Int64 → Option Int64
  | 0, _, _, _, _ => none
  | n + 1, l4, l6, l8, l10 => if l10 ≤ (0 : Int64) then (ck (¬ l4 = 0) (bd ((jr64 l6 l4)) (fun v6 => if (0 : Int64) ≤ v6 then (some v6) else (some (v6 + l4))))) else (if (l10 &&& (1 : Int64)) = (1 : Int64) then (ck (¬ l4 = 0) (bd ((jr64 (l6 * l8) l4)) (fun v13 => ck (¬ l4 = 0) (bd ((jr64 (l8 * l8) l4)) (fun v15 => bd ((l10 >>> (((1 : Int32)).toInt64 &&& 63))) (fun v16 => q_X4_powerRest_21 n l4 v13 v15 v16)))))) else (ck (¬ l4 = 0) (bd ((jr64 (l8 * l8) l4)) (fun v10 => bd ((l10 >>> (((1 : Int32)).toInt64 &&& 63))) (fun v11 => q_X4_powerRest_21 n l4 l6 v10 v11)))))
set_option maxRecDepth 20000 in
set_option maxHeartbeats 4000000 in
theorem w_X4_powerRest_21 {p : Program} {l : Launch} {e : Env} {s : State} {m : MethodId} {args : Array Value} {below : List Frame} {meth : Method} {c : Code} {r : Int64} (S : CallFix p m c cX4_powerRest 12 s args gT RX4) (hr : meth.sig.returnType = (some .long)) (hlk : meth.locks = false) : ∀ (n : Nat), ∀ (l4 : Int64) (l6 : Int64) (l8 : Int64) (l10 : Int64) (ls : Array Slot), q_X4_powerRest_21 n l4 l6 l8 l10 = some r → lv_has ls 12 [(4, .long l4), (6, .long l6), (8, .long l8), (10, .long l10)] → W p l e (pR 0 0) s m args below meth c s.heap [] 0 0 (MQ below (k2_QcV (.long r)) args s 0 0 (fun _ => False)) (F0 m 21 ls []) := by
  intro n
  induction n with
  | zero => intro l4 l6 l8 l10 ls h; cases h
  | succ n ih =>
    intro l4 l6 l8 l10 ls h hl
    rw [q_X4_powerRest_21] at h
    refine lv_lload S.1 S.2.1 dX4_powerRest_21 (lv_at hl 3 rfl) ?_
    refine lv_lconst (v := 0) S.1 S.2.1 dX4_powerRest_23 (by decide) ?_
    refine pm_lle (tgt := 66) S dX4_powerRest_24 dX4_powerRest_25 (by decide) (fun c4 => ?_) (fun c4 => ?_)
    · rw [if_pos c4] at h
      refine lv_lload S.1 S.2.1 dX4_powerRest_66 (lv_at hl 1 rfl) ?_
      refine lv_lload S.1 S.2.1 dX4_powerRest_68 (lv_at hl 0 rfl) ?_
      obtain ⟨hc5, h⟩ := ck_s h
      refine pm_lrem S hc5 dX4_powerRest_70 ?_
      obtain ⟨v6, ev6, h⟩ := bd_s h
      refine pm_nmL ev6 ?_
      refine lv_lstore (lv' := [(6, .long v6), (4, .long l4), (8, .long l8), (10, .long l10)]) S.1 S.2.1 dX4_powerRest_71 hl (by decide) rfl (fun ls hl => ?_)
      refine lv_lload S.1 S.2.1 dX4_powerRest_73 (lv_at hl 0 rfl) ?_
      refine lv_lconst (v := 0) S.1 S.2.1 dX4_powerRest_75 (by decide) ?_
      refine pm_lge (tgt := 88) S dX4_powerRest_76 dX4_powerRest_77 (by decide) (fun c7 => ?_) (fun c7 => ?_)
      · rw [if_pos c7] at h
        refine lv_lload S.1 S.2.1 dX4_powerRest_88 (lv_at hl 0 rfl) ?_
        exact pm_lretR S hr hlk (Option.some.inj h) dX4_powerRest_90
      · rw [if_neg c7] at h
        refine lv_lload S.1 S.2.1 dX4_powerRest_80 (lv_at hl 0 rfl) ?_
        refine lv_lload S.1 S.2.1 dX4_powerRest_82 (lv_at hl 1 rfl) ?_
        refine lv_ladd S.1 S.2.1 dX4_powerRest_84 ?_
        refine lv_goto (tgt := 90) S.1 S.2.1 dX4_powerRest_85 (by decide) ?_
        exact pm_lretR S hr hlk (Option.some.inj h) dX4_powerRest_90
    · rw [if_neg c4] at h
      refine lv_lload S.1 S.2.1 dX4_powerRest_28 (lv_at hl 3 rfl) ?_
      refine lv_lconst (v := 1) S.1 S.2.1 dX4_powerRest_30 (by decide) ?_
      refine lv_land S.1 S.2.1 dX4_powerRest_31 ?_
      refine lv_lconst (v := 1) S.1 S.2.1 dX4_powerRest_32 (by decide) ?_
      refine pm_lne (tgt := 47) S dX4_powerRest_33 dX4_powerRest_34 (by decide) (fun c8 => ?_) (fun c8 => ?_)
      · rw [if_neg c8] at h
        refine lv_lload S.1 S.2.1 dX4_powerRest_47 (lv_at hl 2 rfl) ?_
        refine lv_lload S.1 S.2.1 dX4_powerRest_49 (lv_at hl 2 rfl) ?_
        refine lv_lmul S.1 S.2.1 dX4_powerRest_51 ?_
        refine lv_lload S.1 S.2.1 dX4_powerRest_52 (lv_at hl 0 rfl) ?_
        obtain ⟨hc9, h⟩ := ck_s h
        refine pm_lrem S hc9 dX4_powerRest_54 ?_
        obtain ⟨v10, ev10, h⟩ := bd_s h
        refine pm_nmL ev10 ?_
        refine lv_lstore (lv' := [(8, .long v10), (4, .long l4), (6, .long l6), (10, .long l10)]) S.1 S.2.1 dX4_powerRest_55 hl (by decide) rfl (fun ls hl => ?_)
        refine lv_lload S.1 S.2.1 dX4_powerRest_57 (lv_at hl 3 rfl) ?_
        refine lv_iconst (v := 1) S.1 S.2.1 dX4_powerRest_59 (by decide) ?_
        refine lv_lshr S.1 S.2.1 dX4_powerRest_60 rfl ?_
        obtain ⟨v11, ev11, h⟩ := bd_s h
        refine pm_nmL ev11 ?_
        refine lv_lstore (lv' := [(10, .long v11), (8, .long v10), (4, .long l4), (6, .long l6)]) S.1 S.2.1 dX4_powerRest_61 hl (by decide) rfl (fun ls hl => ?_)
        refine lv_goto (tgt := 21) S.1 S.2.1 dX4_powerRest_63 (by decide) ?_
        exact ih l4 l6 v10 v11 ls h (lv_sub hl [2, 3, 1, 0] rfl)
      · rw [if_pos c8] at h
        refine lv_lload S.1 S.2.1 dX4_powerRest_37 (lv_at hl 1 rfl) ?_
        refine lv_lload S.1 S.2.1 dX4_powerRest_39 (lv_at hl 2 rfl) ?_
        refine lv_lmul S.1 S.2.1 dX4_powerRest_41 ?_
        refine lv_lload S.1 S.2.1 dX4_powerRest_42 (lv_at hl 0 rfl) ?_
        obtain ⟨hc12, h⟩ := ck_s h
        refine pm_lrem S hc12 dX4_powerRest_44 ?_
        obtain ⟨v13, ev13, h⟩ := bd_s h
        refine pm_nmL ev13 ?_
        refine lv_lstore (lv' := [(6, .long v13), (4, .long l4), (8, .long l8), (10, .long l10)]) S.1 S.2.1 dX4_powerRest_45 hl (by decide) rfl (fun ls hl => ?_)
        refine lv_lload S.1 S.2.1 dX4_powerRest_47 (lv_at hl 2 rfl) ?_
        refine lv_lload S.1 S.2.1 dX4_powerRest_49 (lv_at hl 2 rfl) ?_
        refine lv_lmul S.1 S.2.1 dX4_powerRest_51 ?_
        refine lv_lload S.1 S.2.1 dX4_powerRest_52 (lv_at hl 1 rfl) ?_
        obtain ⟨hc14, h⟩ := ck_s h
        refine pm_lrem S hc14 dX4_powerRest_54 ?_
        obtain ⟨v15, ev15, h⟩ := bd_s h
        refine pm_nmL ev15 ?_
        refine lv_lstore (lv' := [(8, .long v15), (6, .long v13), (4, .long l4), (10, .long l10)]) S.1 S.2.1 dX4_powerRest_55 hl (by decide) rfl (fun ls hl => ?_)
        refine lv_lload S.1 S.2.1 dX4_powerRest_57 (lv_at hl 3 rfl) ?_
        refine lv_iconst (v := 1) S.1 S.2.1 dX4_powerRest_59 (by decide) ?_
        refine lv_lshr S.1 S.2.1 dX4_powerRest_60 rfl ?_
        obtain ⟨v16, ev16, h⟩ := bd_s h
        refine pm_nmL ev16 ?_
        refine lv_lstore (lv' := [(10, .long v16), (8, .long v15), (6, .long v13), (4, .long l4)]) S.1 S.2.1 dX4_powerRest_61 hl (by decide) rfl (fun ls hl => ?_)
        refine lv_goto (tgt := 21) S.1 S.2.1 dX4_powerRest_63 (by decide) ?_
        exact ih l4 v13 v15 v16 ls h (lv_sub hl [3, 2, 1, 0] rfl)
def g_X4_powerRest (l0 : Int64) (l2 : Int64) (l4 : Int64) : Option Int64 := if (0 : Int64) < l4 then (ck (¬ l4 = 0) (bd ((jr64 l0 l4)) (fun v3 => q_X4_powerRest_21 FU l4 (1 : Int64) v3 l2))) else (some (0 : Int64))
set_option maxRecDepth 20000 in
set_option maxHeartbeats 4000000 in
theorem c_X4_powerRest (l : Launch) (l0 : Int64) (l2 : Int64) (l4 : Int64) (r : Int64) (h : g_X4_powerRest l0 l2 l4 = some r) : Met l yX4_powerRest (pWs yX4_powerRest cX4_powerRest 12 (some .long)) (pR 0 0) (va_Pc [.long l0, .long l2, .long l4] (fun _ => True)) (k2_QcV (.long r)) 0 0 (fun _ => False) := by
  refine pm_of (by decide) (Nat.le_of_ble_eq_true rfl) ?_
  intro p e s m below meth c S hr hlk hv ls hl
  have hl : lv_has ls 12 [(0, .long l0), (2, .long l2), (4, .long l4)] := hl
  unfold g_X4_powerRest at h
  refine lv_lload S.1 S.2.1 dX4_powerRest_0 (lv_at hl 2 rfl) ?_
  refine lv_lconst (v := 0) S.1 S.2.1 dX4_powerRest_2 (by decide) ?_
  refine pm_lgt (tgt := 9) S dX4_powerRest_3 dX4_powerRest_4 (by decide) (fun c1 => ?_) (fun c1 => ?_)
  · rw [if_pos c1] at h
    refine lv_lconst (v := 1) S.1 S.2.1 dX4_powerRest_9 (by decide) ?_
    refine lv_lstore (lv' := [(6, .long (1 : Int64)), (0, .long l0), (2, .long l2), (4, .long l4)]) S.1 S.2.1 dX4_powerRest_10 hl (by decide) rfl (fun ls hl => ?_)
    refine lv_lload_n S.1 S.2.1 dX4_powerRest_12 rfl (lv_at hl 1 rfl) ?_
    refine lv_lload S.1 S.2.1 dX4_powerRest_13 (lv_at hl 3 rfl) ?_
    obtain ⟨hc2, h⟩ := ck_s h
    refine pm_lrem S hc2 dX4_powerRest_15 ?_
    obtain ⟨v3, ev3, h⟩ := bd_s h
    refine pm_nmL ev3 ?_
    refine lv_lstore (lv' := [(8, .long v3), (6, .long (1 : Int64)), (0, .long l0), (2, .long l2), (4, .long l4)]) S.1 S.2.1 dX4_powerRest_16 hl (by decide) rfl (fun ls hl => ?_)
    refine lv_lload_n S.1 S.2.1 dX4_powerRest_18 rfl (lv_at hl 3 rfl) ?_
    refine lv_lstore (lv' := [(10, .long l2), (8, .long v3), (6, .long (1 : Int64)), (0, .long l0), (2, .long l2), (4, .long l4)]) S.1 S.2.1 dX4_powerRest_19 hl (by decide) rfl (fun ls hl => ?_)
    exact w_X4_powerRest_21 S hr hlk FU l4 (1 : Int64) v3 l2 ls h (lv_sub hl [5, 2, 1, 0] rfl)
  · rw [if_neg c1] at h
    refine lv_lconst (v := 0) S.1 S.2.1 dX4_powerRest_7 (by decide) ?_
    exact pm_lretR S hr hlk (Option.some.inj h) dX4_powerRest_8
theorem sm_X4_powerRest : pm_Sm yX4_powerRest cX4_powerRest 12 (some .long) 3 := ⟨mw_2_154, mw_2_153, mw_1_9, by decide, by decide⟩
def g_X4_isSquareAt (l0 : Int64) (l2 : Int64) : Option Int32 := ob (g_X4_powerRest l0 ((l2 - (1 : Int64)) >>> (((1 : Int32)).toInt64 &&& 63)) l2) (fun v1 => if v1 = (1 : Int64) then (some (1 : Int32)) else (some (0 : Int32)))
set_option maxRecDepth 20000 in
set_option maxHeartbeats 4000000 in
theorem c_X4_isSquareAt (l : Launch) (l0 : Int64) (l2 : Int64) (r : Int32) (h : g_X4_isSquareAt l0 l2 = some r) : Met l yX4_isSquareAt (pWs yX4_isSquareAt cX4_isSquareAt 4 (some .boolean)) (pR 1 43) (va_Pc [.long l0, .long l2] (fun _ => True)) (k2_QcV (.int r)) 0 0 (fun _ => False) := by
  refine pm_of (by decide) (Nat.le_of_ble_eq_true rfl) ?_
  intro p e s m below meth c S hr hlk hv ls hl
  have hl : lv_has ls 4 [(0, .long l0), (2, .long l2)] := hl
  unfold g_X4_isSquareAt at h
  refine lv_lload_n S.1 S.2.1 dX4_isSquareAt_0 rfl (lv_at hl 0 rfl) ?_
  refine lv_lload_n S.1 S.2.1 dX4_isSquareAt_1 rfl (lv_at hl 1 rfl) ?_
  refine lv_lconst (v := 1) S.1 S.2.1 dX4_isSquareAt_2 (by decide) ?_
  refine lv_lsub S.1 S.2.1 dX4_isSquareAt_3 ?_
  refine lv_iconst (v := 1) S.1 S.2.1 dX4_isSquareAt_4 (by decide) ?_
  refine lv_lshr S.1 S.2.1 dX4_isSquareAt_5 rfl ?_
  refine lv_lload_n S.1 S.2.1 dX4_isSquareAt_6 rfl (lv_at hl 1 rfl) ?_
  obtain ⟨v1, ev1, h⟩ := ob_s h
  refine pm_cS (As := [.long l0, .long ((l2 - (1 : Int64)) >>> (((1 : Int32)).toInt64 &&& 63)), .long l2]) (rest := []) S (c_X4_powerRest l l0 ((l2 - (1 : Int64)) >>> (((1 : Int32)).toInt64 &&& 63)) l2 v1 ev1) sm_X4_powerRest mw_2_152 ⟨⟨rfl, rfl⟩, by decide, by decide⟩ rfl hl.1 rfl (Nat.le_of_ble_eq_true rfl) ⟨Nat.zero_le _, Nat.zero_le _⟩ dX4_isSquareAt_7 ?_
  refine lv_lconst (v := 1) S.1 S.2.1 dX4_isSquareAt_10 (by decide) ?_
  refine pm_lne (tgt := 19) S dX4_isSquareAt_11 dX4_isSquareAt_12 (by decide) (fun c2 => ?_) (fun c2 => ?_)
  · rw [if_neg c2] at h
    refine lv_iconst (v := 0) S.1 S.2.1 dX4_isSquareAt_19 (by decide) ?_
    exact pm_zretR S hr hlk (Or.inl rfl) (Option.some.inj h) dX4_isSquareAt_20
  · rw [if_pos c2] at h
    refine lv_iconst (v := 1) S.1 S.2.1 dX4_isSquareAt_15 (by decide) ?_
    refine lv_goto (tgt := 20) S.1 S.2.1 dX4_isSquareAt_16 (by decide) ?_
    exact pm_zretR S hr hlk (Or.inr rfl) (Option.some.inj h) dX4_isSquareAt_20
theorem sm_X4_isSquareAt : pm_Sm yX4_isSquareAt cX4_isSquareAt 4 (some .boolean) 2 := ⟨mw_2_151, mw_2_150, mw_1_9, by decide, by decide⟩
def g_X7_isCountedPrime (l0 : Int32) : Option Int32 := if (199 : Int32) < l0 then (some (0 : Int32)) else (ob (g_X4_isPrime l0) (fun v2 => if v2 = 0 then (some (0 : Int32)) else (some (1 : Int32))))
set_option maxRecDepth 20000 in
set_option maxHeartbeats 4000000 in
theorem c_X7_isCountedPrime (l : Launch) (l0 : Int32) (r : Int32) (h : g_X7_isCountedPrime l0 = some r) : Met l yX7_isCountedPrime (pWs yX7_isCountedPrime cX7_isCountedPrime 1 (some .boolean)) (pR 1 33) (va_Pc [.int l0] (fun _ => True)) (k2_QcV (.int r)) 0 0 (fun _ => False) := by
  refine pm_of (by decide) (Nat.le_of_ble_eq_true rfl) ?_
  intro p e s m below meth c S hr hlk hv ls hl
  have hl : lv_has ls 1 [(0, .int l0)] := hl
  unfold g_X7_isCountedPrime at h
  refine lv_iload_n S.1 S.2.1 dX7_isCountedPrime_0 rfl (lv_at hl 0 rfl) ?_
  refine lv_sipush (v := 199) S.1 S.2.1 dX7_isCountedPrime_1 (by decide) ?_
  refine lv_icmp_gt (tgt := 18) S.1 S.2.1 dX7_isCountedPrime_4 (by decide) (fun c1 => ?_) (fun c1 => ?_)
  · rw [if_pos c1] at h
    refine lv_iconst (v := 0) S.1 S.2.1 dX7_isCountedPrime_18 (by decide) ?_
    exact pm_zretR S hr hlk (Or.inl rfl) (Option.some.inj h) dX7_isCountedPrime_19
  · rw [if_neg c1] at h
    refine lv_iload_n S.1 S.2.1 dX7_isCountedPrime_7 rfl (lv_at hl 0 rfl) ?_
    obtain ⟨v2, ev2, h⟩ := ob_s h
    refine pm_cS (As := [.int l0]) (rest := []) S (c_X4_isPrime l l0 v2 ev2) sm_X4_isPrime mw_2_129 ⟨⟨rfl, rfl⟩, by decide, by decide⟩ rfl hl.1 rfl (Nat.le_of_ble_eq_true rfl) ⟨Nat.zero_le _, Nat.zero_le _⟩ dX7_isCountedPrime_8 ?_
    refine lv_if_eq (tgt := 18) S.1 S.2.1 dX7_isCountedPrime_11 (by decide) (fun c3 => ?_) (fun c3 => ?_)
    · rw [if_pos c3] at h
      refine lv_iconst (v := 0) S.1 S.2.1 dX7_isCountedPrime_18 (by decide) ?_
      exact pm_zretR S hr hlk (Or.inl rfl) (Option.some.inj h) dX7_isCountedPrime_19
    · rw [if_neg c3] at h
      refine lv_iconst (v := 1) S.1 S.2.1 dX7_isCountedPrime_14 (by decide) ?_
      refine lv_goto (tgt := 19) S.1 S.2.1 dX7_isCountedPrime_15 (by decide) ?_
      exact pm_zretR S hr hlk (Or.inr rfl) (Option.some.inj h) dX7_isCountedPrime_19
theorem sm_X7_isCountedPrime : pm_Sm yX7_isCountedPrime cX7_isCountedPrime 1 (some .boolean) 1 := ⟨mw_3_43, mw_3_42, mw_1_1, by decide, by decide⟩
def q_X4_squareRoot_7 : Nat → Int64 → Int64 → Int64 → Option Int64
  | 0, _, _, _ => none
  | n + 1, l0, l2, l4 => if l4 ≤ (0 : Int64) then (some l2) else (bd ((l2 + l4)) (fun v2 => if l0 < (v2 * v2) then (bd ((l4 >>> (((1 : Int32)).toInt64 &&& 63))) (fun v4 => q_X4_squareRoot_7 n l0 l2 v4)) else (bd ((l4 >>> (((1 : Int32)).toInt64 &&& 63))) (fun v5 => q_X4_squareRoot_7 n l0 v2 v5))))
set_option maxRecDepth 20000 in
set_option maxHeartbeats 4000000 in
theorem w_X4_squareRoot_7 {p : Program} {l : Launch} {e : Env} {s : State} {m : MethodId} {args : Array Value} {below : List Frame} {meth : Method} {c : Code} {r : Int64} (S : CallFix p m c cX4_squareRoot 8 s args gT RX4) (hr : meth.sig.returnType = (some .long)) (hlk : meth.locks = false) : ∀ (n : Nat), ∀ (l0 : Int64) (l2 : Int64) (l4 : Int64) (ls : Array Slot), q_X4_squareRoot_7 n l0 l2 l4 = some r → lv_has ls 8 [(0, .long l0), (2, .long l2), (4, .long l4)] → W p l e (pR 0 0) s m args below meth c s.heap [] 0 0 (MQ below (k2_QcV (.long r)) args s 0 0 (fun _ => False)) (F0 m 7 ls []) := by
  intro n
  induction n with
  | zero => intro l0 l2 l4 ls h; cases h
  | succ n ih =>
    intro l0 l2 l4 ls h hl
    rw [q_X4_squareRoot_7] at h
    refine lv_lload S.1 S.2.1 dX4_squareRoot_7 (lv_at hl 2 rfl) ?_
    refine lv_lconst (v := 0) S.1 S.2.1 dX4_squareRoot_9 (by decide) ?_
    refine pm_lle (tgt := 42) S dX4_squareRoot_10 dX4_squareRoot_11 (by decide) (fun c1 => ?_) (fun c1 => ?_)
    · rw [if_pos c1] at h
      refine lv_lload_n S.1 S.2.1 dX4_squareRoot_42 rfl (lv_at hl 1 rfl) ?_
      exact pm_lretR S hr hlk (Option.some.inj h) dX4_squareRoot_43
    · rw [if_neg c1] at h
      refine lv_lload_n S.1 S.2.1 dX4_squareRoot_14 rfl (lv_at hl 1 rfl) ?_
      refine lv_lload S.1 S.2.1 dX4_squareRoot_15 (lv_at hl 2 rfl) ?_
      refine lv_ladd S.1 S.2.1 dX4_squareRoot_17 ?_
      obtain ⟨v2, ev2, h⟩ := bd_s h
      refine pm_nmL ev2 ?_
      refine lv_lstore (lv' := [(6, .long v2), (0, .long l0), (2, .long l2), (4, .long l4)]) S.1 S.2.1 dX4_squareRoot_18 hl (by decide) rfl (fun ls hl => ?_)
      refine lv_lload S.1 S.2.1 dX4_squareRoot_20 (lv_at hl 0 rfl) ?_
      refine lv_lload S.1 S.2.1 dX4_squareRoot_22 (lv_at hl 0 rfl) ?_
      refine lv_lmul S.1 S.2.1 dX4_squareRoot_24 ?_
      refine lv_lload_n S.1 S.2.1 dX4_squareRoot_25 rfl (lv_at hl 1 rfl) ?_
      refine pm_lgt (tgt := 33) S dX4_squareRoot_26 dX4_squareRoot_27 (by decide) (fun c3 => ?_) (fun c3 => ?_)
      · rw [if_pos c3] at h
        refine lv_lload S.1 S.2.1 dX4_squareRoot_33 (lv_at hl 3 rfl) ?_
        refine lv_iconst (v := 1) S.1 S.2.1 dX4_squareRoot_35 (by decide) ?_
        refine lv_lshr S.1 S.2.1 dX4_squareRoot_36 rfl ?_
        obtain ⟨v4, ev4, h⟩ := bd_s h
        refine pm_nmL ev4 ?_
        refine lv_lstore (lv' := [(4, .long v4), (6, .long v2), (0, .long l0), (2, .long l2)]) S.1 S.2.1 dX4_squareRoot_37 hl (by decide) rfl (fun ls hl => ?_)
        refine lv_goto (tgt := 7) S.1 S.2.1 dX4_squareRoot_39 (by decide) ?_
        exact ih l0 l2 v4 ls h (lv_sub hl [2, 3, 0] rfl)
      · rw [if_neg c3] at h
        refine lv_lload S.1 S.2.1 dX4_squareRoot_30 (lv_at hl 0 rfl) ?_
        refine lv_lstore_n (lv' := [(2, .long v2), (6, .long v2), (0, .long l0), (4, .long l4)]) S.1 S.2.1 dX4_squareRoot_32 rfl hl (by decide) rfl (fun ls hl => ?_)
        refine lv_lload S.1 S.2.1 dX4_squareRoot_33 (lv_at hl 3 rfl) ?_
        refine lv_iconst (v := 1) S.1 S.2.1 dX4_squareRoot_35 (by decide) ?_
        refine lv_lshr S.1 S.2.1 dX4_squareRoot_36 rfl ?_
        obtain ⟨v5, ev5, h⟩ := bd_s h
        refine pm_nmL ev5 ?_
        refine lv_lstore (lv' := [(4, .long v5), (2, .long v2), (6, .long v2), (0, .long l0)]) S.1 S.2.1 dX4_squareRoot_37 hl (by decide) rfl (fun ls hl => ?_)
        refine lv_goto (tgt := 7) S.1 S.2.1 dX4_squareRoot_39 (by decide) ?_
        exact ih l0 v2 v5 ls h (lv_sub hl [3, 1, 0] rfl)
def g_X4_squareRoot (l0 : Int64) : Option Int64 := q_X4_squareRoot_7 FU l0 (0 : Int64) (1073741824 : Int64)
set_option maxRecDepth 20000 in
set_option maxHeartbeats 4000000 in
theorem c_X4_squareRoot (l : Launch) (l0 : Int64) (r : Int64) (h : g_X4_squareRoot l0 = some r) : Met l yX4_squareRoot (pWs yX4_squareRoot cX4_squareRoot 8 (some .long)) (pR 0 0) (va_Pc [.long l0] (fun _ => True)) (k2_QcV (.long r)) 0 0 (fun _ => False) := by
  refine pm_of (by decide) (Nat.le_of_ble_eq_true rfl) ?_
  intro p e s m below meth c S hr hlk hv ls hl
  have hl : lv_has ls 8 [(0, .long l0)] := hl
  unfold g_X4_squareRoot at h
  refine lv_lconst (v := 0) S.1 S.2.1 dX4_squareRoot_0 (by decide) ?_
  refine lv_lstore_n (lv' := [(2, .long (0 : Int64)), (0, .long l0)]) S.1 S.2.1 dX4_squareRoot_1 rfl hl (by decide) rfl (fun ls hl => ?_)
  refine pm_ldc2 S mw_3_98 dX4_squareRoot_2 ?_
  refine lv_lstore (lv' := [(4, .long (1073741824 : Int64)), (2, .long (0 : Int64)), (0, .long l0)]) S.1 S.2.1 dX4_squareRoot_5 hl (by decide) rfl (fun ls hl => ?_)
  exact w_X4_squareRoot_7 S hr hlk FU l0 (0 : Int64) (1073741824 : Int64) ls h (lv_sub hl [2, 1, 0] rfl)
theorem sm_X4_squareRoot : pm_Sm yX4_squareRoot cX4_squareRoot 8 (some .long) 1 := ⟨mw_3_97, mw_3_96, mw_1_9, by decide, by decide⟩
