def q_X8_laysAt_22 (ev : EV) (th : Nat) : Nat → Int64 → PS → Option PS
  | 0, _, _ => none
  | n + 1, l1, z => ob (g_X8_falls ev z th l1) (fun qv5 => bd qv5.1 (fun v5 => bd qv5.2 (fun z4 => if v5 = 0 then (ob (g_X8_shrinks ev z4 th l1) (fun qv8 => bd qv8.1 (fun v8 => bd qv8.2 (fun z7 => bd (((rI z7 (rf ev 127 th) 7) + (1 : Int32))) (fun v9 => bd (wI z7 (rf ev 127 th) 7 v9) (fun z10 => q_X8_laysAt_22 ev th n l1 z10)))))) else (some z4))))
set_option maxRecDepth 20000 in
set_option maxHeartbeats 4000000 in
theorem w_X8_laysAt_22 {ev : EV} {th : Nat} {p : Program} {l : Launch} {e : Env} {s : State} {m : MethodId} {args : Array Value} {below : List Frame} {meth : Method} {c : Code} {z9 : PS} (S : CallFix p m c cX8_laysAt 4 s args gT RX8) (hr : meth.sig.returnType = none) (hlk : meth.locks = false) (E : EWF ev) (hK : KK ev s) (hX : pXt ev s) (hth : isK ev 6 th) : ∀ (n : Nat), ∀ (l1 : Int64) (z : PS) (ls : Array Slot) (H : Heap) (locs : List Loc), q_X8_laysAt_22 ev th n l1 z = some z9 → lv_has ls 4 [(0, .ref th), (1, .long l1)] → Wd ev z H → SS ev s H locs → W p l e (pR 6 220) s m args below meth c H locs 0 0 (MQ below (pQv ev z9) args s 0 0 (eA ev)) (F0 m 22 ls []) := by
  intro n
  induction n with
  | zero => intro l1 z ls H locs h; cases h
  | succ n ih =>
    intro l1 z ls H locs h hl hP hS
    rw [q_X8_laysAt_22] at h
    refine lv_aload_n S.1 S.2.1 dX8_laysAt_22 rfl (lv_at hl 0 rfl) ?_
    refine lv_lload_n S.1 S.2.1 dX8_laysAt_23 rfl (lv_at hl 1 rfl) ?_
    obtain ⟨qv5, ev5, h⟩ := ob_s h
    obtain ⟨v5, fv5, h⟩ := bd_s h
    obtain ⟨z4, fz4, h⟩ := bd_s h
    have ev5 : g_X8_falls ev z th l1 = some (v5, z4) := by rw [fv5, fz4]; exact ev5
    refine pm_cVi (As := [.long l1]) (rest := []) S hK hX hP hS (c_X8_falls l ev z E hth th l1 v5 z4 ev5) vm_X8_falls mw_4_194 (rc_6 hK hP hth) ⟨⟨rfl, rfl⟩, by decide, by decide⟩ rfl hl.1 rfl (Nat.le_of_ble_eq_true rfl) ⟨Nat.zero_le _, Nat.zero_le _⟩ dX8_laysAt_24 (fun H locs hP hS => ?_)
    refine lv_if_ne (tgt := 50) S.1 S.2.1 dX8_laysAt_27 (by decide) (fun c6 => ?_) (fun c6 => ?_)
    · rw [if_neg c6] at h
      exact pm_vretW S hr hlk hP hS (Option.some.inj h) dX8_laysAt_50
    · rw [if_pos c6] at h
      refine lv_aload_n S.1 S.2.1 dX8_laysAt_30 rfl (lv_at hl 0 rfl) ?_
      refine lv_lload_n S.1 S.2.1 dX8_laysAt_31 rfl (lv_at hl 1 rfl) ?_
      obtain ⟨qv8, ev8, h⟩ := ob_s h
      obtain ⟨v8, fv8, h⟩ := bd_s h
      obtain ⟨z7, fz7, h⟩ := bd_s h
      have ev8 : g_X8_shrinks ev z4 th l1 = some (v8, z7) := by rw [fv8, fz7]; exact ev8
      refine pm_cVi (As := [.long l1]) (rest := []) S hK hX hP hS (c_X8_shrinks l ev z4 E hth th l1 v8 z7 ev8) vm_X8_shrinks mw_4_104 (rc_6 hK hP hth) ⟨⟨rfl, rfl⟩, by decide, by decide⟩ rfl hl.1 rfl (Nat.le_of_ble_eq_true rfl) ⟨Nat.zero_le _, Nat.zero_le _⟩ dX8_laysAt_32 (fun H locs hP hS => ?_)
      refine lv_istore_n (lv' := [(3, .int v8), (0, .ref th), (1, .long l1)]) S.1 S.2.1 dX8_laysAt_35 rfl hl (by decide) rfl (fun ls hl => ?_)
      refine lv_aload_n S.1 S.2.1 dX8_laysAt_36 rfl (lv_at hl 1 rfl) ?_
      refine gf_6_7 S hK hP hth mw_3_228 dX8_laysAt_37 ?_
      refine lv_bipush (v := 7) S.1 S.2.1 dX8_laysAt_40 (by decide) ?_
      refine lv_dup2_11 S.1 S.2.1 dX8_laysAt_42 rfl rfl ?_
      refine al_I S hK hP (E_6_7 E hth) (by rw [N_6_7 E hth]; decide) dX8_laysAt_43 ?_
      refine pm_nmI (v := (rI z7 (rf ev 127 th) 7)) rfl ?_
      refine lv_iconst (v := 1) S.1 S.2.1 dX8_laysAt_44 (by decide) ?_
      refine lv_iadd S.1 S.2.1 dX8_laysAt_45 ?_
      obtain ⟨v9, ev9, h⟩ := bd_s h
      refine pm_nmI ev9 ?_
      obtain ⟨z10, ez10, h⟩ := bd_s h
      refine as_I S E hK hP hS (E_6_7 E hth) (by rw [N_6_7 E hth]; decide) dX8_laysAt_46 (fun H locs hP hS => ?_)
      have hP : Wd ev (wI z7 (rf ev 127 th) 7 v9) H := hP
      rw [← ez10] at hP
      refine lv_goto (tgt := 22) S.1 S.2.1 dX8_laysAt_47 (by decide) ?_
      exact ih l1 z10 ls _ _ h (lv_sub hl [1, 2] rfl) hP hS
def g_X8_laysAt (ev : EV) (z : PS) (th : Nat) (l1 : Int64) : Option PS := bd (wI z (rf ev 127 th) 7 (0 : Int32)) (fun z1 => if l1 ≤ (3 : Int64) then (q_X8_laysAt_22 ev th FU l1 z1) else (ob (g_X8_fallsFar ev z1 th l1) (fun z3 => some z3)))
set_option maxRecDepth 20000 in
set_option maxHeartbeats 4000000 in
theorem c_X8_laysAt (l : Launch) (ev : EV) (z : PS) (E : EWF ev) {th : Nat} (hth : isK ev 6 th) (th_ : Nat) (l1 : Int64) (z9 : PS) (h : g_X8_laysAt ev z th l1 = some z9) : Met l yX8_laysAt (pWs yX8_laysAt cX8_laysAt 4 none) (pR 6 220) (va_Pc [.ref th, .long l1] (pPe ev z)) (pQv ev z9) 0 0 (eA ev) := by
  refine pm_of (by decide) (Nat.le_of_ble_eq_true rfl) ?_
  intro p e s m below meth c S hr hlk hv ls hl
  obtain ⟨hP, hK, hX⟩ := hv
  have hS : SS ev s s.heap [] := va_S.rf
  have hl : lv_has ls 4 [(0, .ref th), (1, .long l1)] := hl
  unfold g_X8_laysAt at h
  refine lv_aload_n S.1 S.2.1 dX8_laysAt_0 rfl (lv_at hl 0 rfl) ?_
  refine gf_6_7 S hK hP hth mw_3_228 dX8_laysAt_1 ?_
  refine lv_bipush (v := 7) S.1 S.2.1 dX8_laysAt_4 (by decide) ?_
  refine lv_iconst (v := 0) S.1 S.2.1 dX8_laysAt_6 (by decide) ?_
  obtain ⟨z1, ez1, h⟩ := bd_s h
  refine as_I S E hK hP hS (E_6_7 E hth) (by rw [N_6_7 E hth]; decide) dX8_laysAt_7 (fun H locs hP hS => ?_)
  have hP : Wd ev (wI z (rf ev 127 th) 7 (0 : Int32)) H := hP
  rw [← ez1] at hP
  refine lv_lload_n S.1 S.2.1 dX8_laysAt_8 rfl (lv_at hl 1 rfl) ?_
  refine pm_ldc2 S mw_4_99 dX8_laysAt_9 ?_
  refine pm_lle (tgt := 22) S dX8_laysAt_12 dX8_laysAt_13 (by decide) (fun c2 => ?_) (fun c2 => ?_)
  · rw [if_pos c2] at h
    exact w_X8_laysAt_22 S hr hlk E hK hX hth FU l1 z1 ls _ _ h (lv_sub hl [0, 1] rfl) hP hS
  · rw [if_neg c2] at h
    refine lv_aload_n S.1 S.2.1 dX8_laysAt_16 rfl (lv_at hl 0 rfl) ?_
    refine lv_lload_n S.1 S.2.1 dX8_laysAt_17 rfl (lv_at hl 1 rfl) ?_
    obtain ⟨z3, ez3, h⟩ := ob_s h
    refine pm_cVv (As := [.long l1]) (rest := []) S hK hX hP hS (c_X8_fallsFar l ev z1 E hth th l1 z3 ez3) vm_X8_fallsFar mw_4_151 (rc_6 hK hP hth) ⟨⟨rfl, rfl⟩, by decide, by decide⟩ rfl hl.1 rfl (Nat.le_of_ble_eq_true rfl) ⟨Nat.zero_le _, Nat.zero_le _⟩ dX8_laysAt_18 (fun H locs hP hS => ?_)
    exact pm_vretW S hr hlk hP hS (Option.some.inj h) dX8_laysAt_21
theorem vm_X8_laysAt : pm_Vm yX8_laysAt cX8_laysAt 4 none 1 := ⟨mw_4_150, mw_4_149, ms_665, mw_1_7, by decide, by decide⟩
def q_X8_leads_30 (ev : EV) (th : Nat) (l1 : Int64) (l3 : Int64) (t0 : Int64) (z : PS) : Option PS := bd ((((t0 * t0) - l1) / (24 : Int64))) (fun v3 => bd (((((((36 : Int64) * t0) * v3) - ((t0 * t0) * t0)) - l3) / (216 : Int64))) (fun v4 => ob (g_X8_modulo t0 (2 : Int64)) (fun v5 => bd (wJ z (rf ev 124 th) 0 v5) (fun z6 => ob (g_X8_modulo v4 (2 : Int64)) (fun v7 => bd (wJ z6 (rf ev 124 th) 2 v7) (fun z8 => bd (((t0 - (rJ z8 (rf ev 124 th) 0)) / (4 : Int64))) (fun v9 => bd (wJ z8 (rf ev 124 th) 1 v9) (fun z10 => bd (((v3 - ((rJ z10 (rf ev 124 th) 0) * (rJ z10 (rf ev 124 th) 2))) / (2 : Int64))) (fun v11 => bd (wJ z10 (rf ev 124 th) 3 v11) (fun z12 => bd (((v4 - (rJ z12 (rf ev 124 th) 2)) / (4 : Int64))) (fun v13 => bd (wJ z12 (rf ev 124 th) 4 v13) (fun z14 => some z14))))))))))))
set_option maxRecDepth 20000 in
set_option maxHeartbeats 4000000 in
theorem w_X8_leads_30 {ev : EV} {th : Nat} {p : Program} {l : Launch} {e : Env} {s : State} {m : MethodId} {args : Array Value} {below : List Frame} {meth : Method} {c : Code} {z9 : PS} (S : CallFix p m c cX8_leads 11 s args gT RX8) (hr : meth.sig.returnType = none) (hlk : meth.locks = false) (E : EWF ev) (hK : KK ev s) (hX : pXt ev s) (hth : isK ev 6 th) : ∀ (l1 : Int64) (l3 : Int64) (t0 : Int64) (z : PS) (ls : Array Slot) (H : Heap) (locs : List Loc), q_X8_leads_30 ev th l1 l3 t0 z = some z9 → lv_has ls 11 [(0, .ref th), (1, .long l1), (3, .long l3)] → Wd ev z H → SS ev s H locs → W p l e (pR 1 35) s m args below meth c H locs 0 0 (MQ below (pQv ev z9) args s 0 0 (eA ev)) (F0 m 30 ls [.long t0]) := by
  intro l1 l3 t0 z ls H locs h hl hP hS
  unfold q_X8_leads_30 at h
  refine lv_lstore (lv' := [(5, .long t0), (0, .ref th), (1, .long l1), (3, .long l3)]) S.1 S.2.1 dX8_leads_30 hl (by decide) rfl (fun ls hl => ?_)
  refine lv_lload S.1 S.2.1 dX8_leads_32 (lv_at hl 0 rfl) ?_
  refine lv_lload S.1 S.2.1 dX8_leads_34 (lv_at hl 0 rfl) ?_
  refine lv_lmul S.1 S.2.1 dX8_leads_36 ?_
  refine lv_lload_n S.1 S.2.1 dX8_leads_37 rfl (lv_at hl 2 rfl) ?_
  refine lv_lsub S.1 S.2.1 dX8_leads_38 ?_
  refine pm_ldc2 S mw_4_159 dX8_leads_39 ?_
  refine lv_ldiv S.1 S.2.1 dX8_leads_42 (by decide) ?_
  obtain ⟨v3, ev3, h⟩ := bd_s h
  refine pm_nmL ev3 ?_
  refine lv_lstore (lv' := [(7, .long v3), (5, .long t0), (0, .ref th), (1, .long l1), (3, .long l3)]) S.1 S.2.1 dX8_leads_43 hl (by decide) rfl (fun ls hl => ?_)
  refine pm_ldc2 S mw_4_164 dX8_leads_45 ?_
  refine lv_lload S.1 S.2.1 dX8_leads_48 (lv_at hl 1 rfl) ?_
  refine lv_lmul S.1 S.2.1 dX8_leads_50 ?_
  refine lv_lload S.1 S.2.1 dX8_leads_51 (lv_at hl 0 rfl) ?_
  refine lv_lmul S.1 S.2.1 dX8_leads_53 ?_
  refine lv_lload S.1 S.2.1 dX8_leads_54 (lv_at hl 1 rfl) ?_
  refine lv_lload S.1 S.2.1 dX8_leads_56 (lv_at hl 1 rfl) ?_
  refine lv_lmul S.1 S.2.1 dX8_leads_58 ?_
  refine lv_lload S.1 S.2.1 dX8_leads_59 (lv_at hl 1 rfl) ?_
  refine lv_lmul S.1 S.2.1 dX8_leads_61 ?_
  refine lv_lsub S.1 S.2.1 dX8_leads_62 ?_
  refine lv_lload_n S.1 S.2.1 dX8_leads_63 rfl (lv_at hl 4 rfl) ?_
  refine lv_lsub S.1 S.2.1 dX8_leads_64 ?_
  refine pm_ldc2 S mw_4_165 dX8_leads_65 ?_
  refine lv_ldiv S.1 S.2.1 dX8_leads_68 (by decide) ?_
  obtain ⟨v4, ev4, h⟩ := bd_s h
  refine pm_nmL ev4 ?_
  refine lv_lstore (lv' := [(9, .long v4), (7, .long v3), (5, .long t0), (0, .ref th), (1, .long l1), (3, .long l3)]) S.1 S.2.1 dX8_leads_69 hl (by decide) rfl (fun ls hl => ?_)
  refine lv_aload_n S.1 S.2.1 dX8_leads_71 rfl (lv_at hl 3 rfl) ?_
  refine gf_6_4 S hK hP hth mw_3_225 dX8_leads_72 ?_
  refine lv_iconst (v := 0) S.1 S.2.1 dX8_leads_75 (by decide) ?_
  refine lv_lload S.1 S.2.1 dX8_leads_76 (lv_at hl 2 rfl) ?_
  refine pm_ldc2 S mw_4_59 dX8_leads_78 ?_
  obtain ⟨v5, ev5, h⟩ := ob_s h
  refine pm_cS (As := [.long t0, .long (2 : Int64)]) (rest := [.int (0 : Int32), .ref (rf ev 124 th)]) S (c_X8_modulo l t0 (2 : Int64) v5 ev5) sm_X8_modulo mw_4_183 ⟨⟨rfl, rfl⟩, by decide, by decide⟩ rfl hl.1 rfl (Nat.le_of_ble_eq_true rfl) ⟨Nat.zero_le _, Nat.zero_le _⟩ dX8_leads_81 ?_
  obtain ⟨z6, ez6, h⟩ := bd_s h
  refine as_J S E hK hP hS (E_6_4 E hth) (by rw [N_6_4 E hth]; decide) dX8_leads_84 (fun H locs hP hS => ?_)
  have hP : Wd ev (wJ z (rf ev 124 th) 0 v5) H := hP
  rw [← ez6] at hP
  refine lv_aload_n S.1 S.2.1 dX8_leads_85 rfl (lv_at hl 3 rfl) ?_
  refine gf_6_4 S hK hP hth mw_3_225 dX8_leads_86 ?_
  refine lv_iconst (v := 2) S.1 S.2.1 dX8_leads_89 (by decide) ?_
  refine lv_lload S.1 S.2.1 dX8_leads_90 (lv_at hl 0 rfl) ?_
  refine pm_ldc2 S mw_4_59 dX8_leads_92 ?_
  obtain ⟨v7, ev7, h⟩ := ob_s h
  refine pm_cS (As := [.long v4, .long (2 : Int64)]) (rest := [.int (2 : Int32), .ref (rf ev 124 th)]) S (c_X8_modulo l v4 (2 : Int64) v7 ev7) sm_X8_modulo mw_4_183 ⟨⟨rfl, rfl⟩, by decide, by decide⟩ rfl hl.1 rfl (Nat.le_of_ble_eq_true rfl) ⟨Nat.zero_le _, Nat.zero_le _⟩ dX8_leads_95 ?_
  obtain ⟨z8, ez8, h⟩ := bd_s h
  refine as_J S E hK hP hS (E_6_4 E hth) (by rw [N_6_4 E hth]; decide) dX8_leads_98 (fun H locs hP hS => ?_)
  have hP : Wd ev (wJ z6 (rf ev 124 th) 2 v7) H := hP
  rw [← ez8] at hP
  refine lv_aload_n S.1 S.2.1 dX8_leads_99 rfl (lv_at hl 3 rfl) ?_
  refine gf_6_4 S hK hP hth mw_3_225 dX8_leads_100 ?_
  refine lv_iconst (v := 1) S.1 S.2.1 dX8_leads_103 (by decide) ?_
  refine lv_lload S.1 S.2.1 dX8_leads_104 (lv_at hl 2 rfl) ?_
  refine lv_aload_n S.1 S.2.1 dX8_leads_106 rfl (lv_at hl 3 rfl) ?_
  refine gf_6_4 S hK hP hth mw_3_225 dX8_leads_107 ?_
  refine lv_iconst (v := 0) S.1 S.2.1 dX8_leads_110 (by decide) ?_
  refine al_J S hK hP (E_6_4 E hth) (by rw [N_6_4 E hth]; decide) dX8_leads_111 ?_
  refine pm_nmL (v := (rJ z8 (rf ev 124 th) 0)) rfl ?_
  refine lv_lsub S.1 S.2.1 dX8_leads_112 ?_
  refine pm_ldc2 S mw_4_54 dX8_leads_113 ?_
  refine lv_ldiv S.1 S.2.1 dX8_leads_116 (by decide) ?_
  obtain ⟨v9, ev9, h⟩ := bd_s h
  refine pm_nmL ev9 ?_
  obtain ⟨z10, ez10, h⟩ := bd_s h
  refine as_J S E hK hP hS (E_6_4 E hth) (by rw [N_6_4 E hth]; decide) dX8_leads_117 (fun H locs hP hS => ?_)
  have hP : Wd ev (wJ z8 (rf ev 124 th) 1 v9) H := hP
  rw [← ez10] at hP
  refine lv_aload_n S.1 S.2.1 dX8_leads_118 rfl (lv_at hl 3 rfl) ?_
  refine gf_6_4 S hK hP hth mw_3_225 dX8_leads_119 ?_
  refine lv_iconst (v := 3) S.1 S.2.1 dX8_leads_122 (by decide) ?_
  refine lv_lload S.1 S.2.1 dX8_leads_123 (lv_at hl 1 rfl) ?_
  refine lv_aload_n S.1 S.2.1 dX8_leads_125 rfl (lv_at hl 3 rfl) ?_
  refine gf_6_4 S hK hP hth mw_3_225 dX8_leads_126 ?_
  refine lv_iconst (v := 0) S.1 S.2.1 dX8_leads_129 (by decide) ?_
  refine al_J S hK hP (E_6_4 E hth) (by rw [N_6_4 E hth]; decide) dX8_leads_130 ?_
  refine pm_nmL (v := (rJ z10 (rf ev 124 th) 0)) rfl ?_
  refine lv_aload_n S.1 S.2.1 dX8_leads_131 rfl (lv_at hl 3 rfl) ?_
  refine gf_6_4 S hK hP hth mw_3_225 dX8_leads_132 ?_
  refine lv_iconst (v := 2) S.1 S.2.1 dX8_leads_135 (by decide) ?_
  refine al_J S hK hP (E_6_4 E hth) (by rw [N_6_4 E hth]; decide) dX8_leads_136 ?_
  refine pm_nmL (v := (rJ z10 (rf ev 124 th) 2)) rfl ?_
  refine lv_lmul S.1 S.2.1 dX8_leads_137 ?_
  refine lv_lsub S.1 S.2.1 dX8_leads_138 ?_
  refine pm_ldc2 S mw_4_59 dX8_leads_139 ?_
  refine lv_ldiv S.1 S.2.1 dX8_leads_142 (by decide) ?_
  obtain ⟨v11, ev11, h⟩ := bd_s h
  refine pm_nmL ev11 ?_
  obtain ⟨z12, ez12, h⟩ := bd_s h
  refine as_J S E hK hP hS (E_6_4 E hth) (by rw [N_6_4 E hth]; decide) dX8_leads_143 (fun H locs hP hS => ?_)
  have hP : Wd ev (wJ z10 (rf ev 124 th) 3 v11) H := hP
  rw [← ez12] at hP
  refine lv_aload_n S.1 S.2.1 dX8_leads_144 rfl (lv_at hl 3 rfl) ?_
  refine gf_6_4 S hK hP hth mw_3_225 dX8_leads_145 ?_
  refine lv_iconst (v := 4) S.1 S.2.1 dX8_leads_148 (by decide) ?_
  refine lv_lload S.1 S.2.1 dX8_leads_149 (lv_at hl 0 rfl) ?_
  refine lv_aload_n S.1 S.2.1 dX8_leads_151 rfl (lv_at hl 3 rfl) ?_
  refine gf_6_4 S hK hP hth mw_3_225 dX8_leads_152 ?_
  refine lv_iconst (v := 2) S.1 S.2.1 dX8_leads_155 (by decide) ?_
  refine al_J S hK hP (E_6_4 E hth) (by rw [N_6_4 E hth]; decide) dX8_leads_156 ?_
  refine pm_nmL (v := (rJ z12 (rf ev 124 th) 2)) rfl ?_
  refine lv_lsub S.1 S.2.1 dX8_leads_157 ?_
  refine pm_ldc2 S mw_4_54 dX8_leads_158 ?_
  refine lv_ldiv S.1 S.2.1 dX8_leads_161 (by decide) ?_
  obtain ⟨v13, ev13, h⟩ := bd_s h
  refine pm_nmL ev13 ?_
  obtain ⟨z14, ez14, h⟩ := bd_s h
  refine as_J S E hK hP hS (E_6_4 E hth) (by rw [N_6_4 E hth]; decide) dX8_leads_162 (fun H locs hP hS => ?_)
  have hP : Wd ev (wJ z12 (rf ev 124 th) 4 v13) H := hP
  rw [← ez14] at hP
  exact pm_vretW S hr hlk hP hS (Option.some.inj h) dX8_leads_163
def g_X8_leads (ev : EV) (z : PS) (th : Nat) (l1 : Int64) (l3 : Int64) : Option PS := ob (g_X8_modulo (-l3) (12 : Int64)) (fun v1 => if v1 ≤ (6 : Int64) then (q_X8_leads_30 ev th l1 l3 v1 z) else (q_X8_leads_30 ev th l1 l3 (v1 - (12 : Int64)) z))
set_option maxRecDepth 20000 in
set_option maxHeartbeats 4000000 in
theorem c_X8_leads (l : Launch) (ev : EV) (z : PS) (E : EWF ev) {th : Nat} (hth : isK ev 6 th) (th_ : Nat) (l1 : Int64) (l3 : Int64) (z9 : PS) (h : g_X8_leads ev z th l1 l3 = some z9) : Met l yX8_leads (pWs yX8_leads cX8_leads 11 none) (pR 1 35) (va_Pc [.ref th, .long l1, .long l3] (pPe ev z)) (pQv ev z9) 0 0 (eA ev) := by
  refine pm_of (by decide) (Nat.le_of_ble_eq_true rfl) ?_
  intro p e s m below meth c S hr hlk hv ls hl
  obtain ⟨hP, hK, hX⟩ := hv
  have hS : SS ev s s.heap [] := va_S.rf
  have hl : lv_has ls 11 [(0, .ref th), (1, .long l1), (3, .long l3)] := hl
  unfold g_X8_leads at h
  refine lv_lload_n S.1 S.2.1 dX8_leads_0 rfl (lv_at hl 2 rfl) ?_
  refine lv_lneg S.1 S.2.1 dX8_leads_1 ?_
  refine pm_ldc2 S mw_5_22 dX8_leads_2 ?_
  obtain ⟨v1, ev1, h⟩ := ob_s h
  refine pm_cS (As := [.long (-l3), .long (12 : Int64)]) (rest := []) S (c_X8_modulo l (-l3) (12 : Int64) v1 ev1) sm_X8_modulo mw_4_183 ⟨⟨rfl, rfl⟩, by decide, by decide⟩ rfl hl.1 rfl (Nat.le_of_ble_eq_true rfl) ⟨Nat.zero_le _, Nat.zero_le _⟩ dX8_leads_5 ?_
  refine lv_lstore (lv' := [(5, .long v1), (0, .ref th), (1, .long l1), (3, .long l3)]) S.1 S.2.1 dX8_leads_8 hl (by decide) rfl (fun ls hl => ?_)
  refine lv_lload S.1 S.2.1 dX8_leads_10 (lv_at hl 0 rfl) ?_
  refine pm_ldc2 S mw_5_23 dX8_leads_12 ?_
  refine pm_lle (tgt := 28) S dX8_leads_15 dX8_leads_16 (by decide) (fun c2 => ?_) (fun c2 => ?_)
  · rw [if_pos c2] at h
    refine lv_lload S.1 S.2.1 dX8_leads_28 (lv_at hl 0 rfl) ?_
    exact w_X8_leads_30 S hr hlk E hK hX hth l1 l3 v1 z ls _ _ h (lv_sub hl [1, 2, 3] rfl) hP hS
  · rw [if_neg c2] at h
    refine lv_lload S.1 S.2.1 dX8_leads_19 (lv_at hl 0 rfl) ?_
    refine pm_ldc2 S mw_5_22 dX8_leads_21 ?_
    refine lv_lsub S.1 S.2.1 dX8_leads_24 ?_
    refine lv_goto (tgt := 30) S.1 S.2.1 dX8_leads_25 (by decide) ?_
    exact w_X8_leads_30 S hr hlk E hK hX hth l1 l3 (v1 - (12 : Int64)) z ls _ _ h (lv_sub hl [1, 2, 3] rfl) hP hS
theorem vm_X8_leads : pm_Vm yX8_leads cX8_leads 11 none 2 := ⟨mw_5_21, mw_5_20, ms_671, mw_1_7, by decide, by decide⟩
def q_X8_keepsWhole_2 (ev : EV) (th : Nat) : Nat → Int32 → PS → Option PS
  | 0, _, _ => none
  | n + 1, l1, z => if (5 : Int32) ≤ l1 then (some z) else (ck (inB l1 5) (bd ((rJ z (rf ev 123 th) l1.toNatClampNeg)) (fun v3 => ck (inB l1 5) (bd (wJ z (rf ev 131 th) l1.toNatClampNeg v3) (fun z5 => bd (l1 + (1 : Int32)) (fun v6 => q_X8_keepsWhole_2 ev th n v6 z5))))))
set_option maxRecDepth 20000 in
set_option maxHeartbeats 4000000 in
theorem w_X8_keepsWhole_2 {ev : EV} {th : Nat} {p : Program} {l : Launch} {e : Env} {s : State} {m : MethodId} {args : Array Value} {below : List Frame} {meth : Method} {c : Code} {z9 : PS} (S : CallFix p m c cX8_keepsWhole 2 s args gT RX8) (hr : meth.sig.returnType = none) (hlk : meth.locks = false) (E : EWF ev) (hK : KK ev s) (hX : pXt ev s) (hth : isK ev 6 th) : ∀ (n : Nat), ∀ (l1 : Int32) (z : PS) (ls : Array Slot) (H : Heap) (locs : List Loc), q_X8_keepsWhole_2 ev th n l1 z = some z9 → lv_has ls 2 [(0, .ref th), (1, .int l1)] → Wd ev z H → SS ev s H locs → W p l e (pR 0 0) s m args below meth c H locs 0 0 (MQ below (pQv ev z9) args s 0 0 (eA ev)) (F0 m 2 ls []) := by
  intro n
  induction n with
  | zero => intro l1 z ls H locs h; cases h
  | succ n ih =>
    intro l1 z ls H locs h hl hP hS
    rw [q_X8_keepsWhole_2] at h
    refine lv_iload_n S.1 S.2.1 dX8_keepsWhole_2 rfl (lv_at hl 1 rfl) ?_
    refine lv_iconst (v := 5) S.1 S.2.1 dX8_keepsWhole_3 (by decide) ?_
    refine lv_icmp_ge (tgt := 25) S.1 S.2.1 dX8_keepsWhole_4 (by decide) (fun c1 => ?_) (fun c1 => ?_)
    · rw [if_pos c1] at h
      exact pm_vretW S hr hlk hP hS (Option.some.inj h) dX8_keepsWhole_25
    · rw [if_neg c1] at h
      refine lv_aload_n S.1 S.2.1 dX8_keepsWhole_7 rfl (lv_at hl 0 rfl) ?_
      refine gf_6_11 S hK hP hth mw_3_232 dX8_keepsWhole_8 ?_
      refine lv_iload_n S.1 S.2.1 dX8_keepsWhole_11 rfl (lv_at hl 1 rfl) ?_
      refine lv_aload_n S.1 S.2.1 dX8_keepsWhole_12 rfl (lv_at hl 0 rfl) ?_
      refine gf_6_3 S hK hP hth mw_3_224 dX8_keepsWhole_13 ?_
      refine lv_iload_n S.1 S.2.1 dX8_keepsWhole_16 rfl (lv_at hl 1 rfl) ?_
      obtain ⟨hc2, h⟩ := ck_s h
      refine al_J S hK hP (E_6_3 E hth) (by rw [N_6_3 E hth]; exact hc2) dX8_keepsWhole_17 ?_
      obtain ⟨v3, ev3, h⟩ := bd_s h
      refine pm_nmL ev3 ?_
      obtain ⟨hc4, h⟩ := ck_s h
      obtain ⟨z5, ez5, h⟩ := bd_s h
      refine as_J S E hK hP hS (E_6_11 E hth) (by rw [N_6_11 E hth]; exact hc4) dX8_keepsWhole_18 (fun H locs hP hS => ?_)
      rw [← ez5] at hP
      obtain ⟨v6, ev6, h⟩ := bd_s h
      refine lv_iinc (v := v6) (lv' := [(1, .int v6), (0, .ref th)]) S.1 S.2.1 dX8_keepsWhole_19 hl (k := 1) rfl (by rw [ev6]; rfl) (by decide) rfl (fun ls hl => ?_)
      refine lv_goto (tgt := 2) S.1 S.2.1 dX8_keepsWhole_22 (by decide) ?_
      exact ih v6 z5 ls _ _ h (lv_sub hl [1, 0] rfl) hP hS
def g_X8_keepsWhole (ev : EV) (z : PS) (th : Nat) : Option PS := q_X8_keepsWhole_2 ev th FU (0 : Int32) z
set_option maxRecDepth 20000 in
set_option maxHeartbeats 4000000 in
theorem c_X8_keepsWhole (l : Launch) (ev : EV) (z : PS) (E : EWF ev) {th : Nat} (hth : isK ev 6 th) (th_ : Nat) (z9 : PS) (h : g_X8_keepsWhole ev z th = some z9) : Met l yX8_keepsWhole (pWs yX8_keepsWhole cX8_keepsWhole 2 none) (pR 0 0) (va_Pc [.ref th] (pPe ev z)) (pQv ev z9) 0 0 (eA ev) := by
  refine pm_of (by decide) (Nat.le_of_ble_eq_true rfl) ?_
  intro p e s m below meth c S hr hlk hv ls hl
  obtain ⟨hP, hK, hX⟩ := hv
  have hS : SS ev s s.heap [] := va_S.rf
  have hl : lv_has ls 2 [(0, .ref th)] := hl
  unfold g_X8_keepsWhole at h
  refine lv_iconst (v := 0) S.1 S.2.1 dX8_keepsWhole_0 (by decide) ?_
  refine lv_istore_n (lv' := [(1, .int (0 : Int32)), (0, .ref th)]) S.1 S.2.1 dX8_keepsWhole_1 rfl hl (by decide) rfl (fun ls hl => ?_)
  exact w_X8_keepsWhole_2 S hr hlk E hK hX hth FU (0 : Int32) z ls _ _ h (lv_sub hl [1, 0] rfl) hP hS
theorem vm_X8_keepsWhole : pm_Vm yX8_keepsWhole cX8_keepsWhole 2 none 0 := ⟨mw_4_137, mw_4_136, ms_675, mw_1_7, by decide, by decide⟩
def q_X8_wholeAgain_2 (ev : EV) (th : Nat) : Nat → Int32 → PS → Option PS
  | 0, _, _ => none
  | n + 1, l1, z => if (5 : Int32) ≤ l1 then (some z) else (ck (inB l1 5) (bd ((rJ z (rf ev 131 th) l1.toNatClampNeg)) (fun v3 => ck (inB l1 5) (bd (wJ z (rf ev 123 th) l1.toNatClampNeg v3) (fun z5 => bd (l1 + (1 : Int32)) (fun v6 => q_X8_wholeAgain_2 ev th n v6 z5))))))
set_option maxRecDepth 20000 in
set_option maxHeartbeats 4000000 in
theorem w_X8_wholeAgain_2 {ev : EV} {th : Nat} {p : Program} {l : Launch} {e : Env} {s : State} {m : MethodId} {args : Array Value} {below : List Frame} {meth : Method} {c : Code} {z9 : PS} (S : CallFix p m c cX8_wholeAgain 2 s args gT RX8) (hr : meth.sig.returnType = none) (hlk : meth.locks = false) (E : EWF ev) (hK : KK ev s) (hX : pXt ev s) (hth : isK ev 6 th) : ∀ (n : Nat), ∀ (l1 : Int32) (z : PS) (ls : Array Slot) (H : Heap) (locs : List Loc), q_X8_wholeAgain_2 ev th n l1 z = some z9 → lv_has ls 2 [(0, .ref th), (1, .int l1)] → Wd ev z H → SS ev s H locs → W p l e (pR 0 0) s m args below meth c H locs 0 0 (MQ below (pQv ev z9) args s 0 0 (eA ev)) (F0 m 2 ls []) := by
  intro n
  induction n with
  | zero => intro l1 z ls H locs h; cases h
  | succ n ih =>
    intro l1 z ls H locs h hl hP hS
    rw [q_X8_wholeAgain_2] at h
    refine lv_iload_n S.1 S.2.1 dX8_wholeAgain_2 rfl (lv_at hl 1 rfl) ?_
    refine lv_iconst (v := 5) S.1 S.2.1 dX8_wholeAgain_3 (by decide) ?_
    refine lv_icmp_ge (tgt := 25) S.1 S.2.1 dX8_wholeAgain_4 (by decide) (fun c1 => ?_) (fun c1 => ?_)
    · rw [if_pos c1] at h
      exact pm_vretW S hr hlk hP hS (Option.some.inj h) dX8_wholeAgain_25
    · rw [if_neg c1] at h
      refine lv_aload_n S.1 S.2.1 dX8_wholeAgain_7 rfl (lv_at hl 0 rfl) ?_
      refine gf_6_3 S hK hP hth mw_3_224 dX8_wholeAgain_8 ?_
      refine lv_iload_n S.1 S.2.1 dX8_wholeAgain_11 rfl (lv_at hl 1 rfl) ?_
      refine lv_aload_n S.1 S.2.1 dX8_wholeAgain_12 rfl (lv_at hl 0 rfl) ?_
      refine gf_6_11 S hK hP hth mw_3_232 dX8_wholeAgain_13 ?_
      refine lv_iload_n S.1 S.2.1 dX8_wholeAgain_16 rfl (lv_at hl 1 rfl) ?_
      obtain ⟨hc2, h⟩ := ck_s h
      refine al_J S hK hP (E_6_11 E hth) (by rw [N_6_11 E hth]; exact hc2) dX8_wholeAgain_17 ?_
      obtain ⟨v3, ev3, h⟩ := bd_s h
      refine pm_nmL ev3 ?_
      obtain ⟨hc4, h⟩ := ck_s h
      obtain ⟨z5, ez5, h⟩ := bd_s h
      refine as_J S E hK hP hS (E_6_3 E hth) (by rw [N_6_3 E hth]; exact hc4) dX8_wholeAgain_18 (fun H locs hP hS => ?_)
      rw [← ez5] at hP
      obtain ⟨v6, ev6, h⟩ := bd_s h
      refine lv_iinc (v := v6) (lv' := [(1, .int v6), (0, .ref th)]) S.1 S.2.1 dX8_wholeAgain_19 hl (k := 1) rfl (by rw [ev6]; rfl) (by decide) rfl (fun ls hl => ?_)
      refine lv_goto (tgt := 2) S.1 S.2.1 dX8_wholeAgain_22 (by decide) ?_
      exact ih v6 z5 ls _ _ h (lv_sub hl [1, 0] rfl) hP hS
def g_X8_wholeAgain (ev : EV) (z : PS) (th : Nat) : Option PS := q_X8_wholeAgain_2 ev th FU (0 : Int32) z
set_option maxRecDepth 20000 in
set_option maxHeartbeats 4000000 in
theorem c_X8_wholeAgain (l : Launch) (ev : EV) (z : PS) (E : EWF ev) {th : Nat} (hth : isK ev 6 th) (th_ : Nat) (z9 : PS) (h : g_X8_wholeAgain ev z th = some z9) : Met l yX8_wholeAgain (pWs yX8_wholeAgain cX8_wholeAgain 2 none) (pR 0 0) (va_Pc [.ref th] (pPe ev z)) (pQv ev z9) 0 0 (eA ev) := by
  refine pm_of (by decide) (Nat.le_of_ble_eq_true rfl) ?_
  intro p e s m below meth c S hr hlk hv ls hl
  obtain ⟨hP, hK, hX⟩ := hv
  have hS : SS ev s s.heap [] := va_S.rf
  have hl : lv_has ls 2 [(0, .ref th)] := hl
  unfold g_X8_wholeAgain at h
  refine lv_iconst (v := 0) S.1 S.2.1 dX8_wholeAgain_0 (by decide) ?_
  refine lv_istore_n (lv' := [(1, .int (0 : Int32)), (0, .ref th)]) S.1 S.2.1 dX8_wholeAgain_1 rfl hl (by decide) rfl (fun ls hl => ?_)
  exact w_X8_wholeAgain_2 S hr hlk E hK hX hth FU (0 : Int32) z ls _ _ h (lv_sub hl [1, 0] rfl) hP hS
theorem vm_X8_wholeAgain : pm_Vm yX8_wholeAgain cX8_wholeAgain 2 none 0 := ⟨mw_4_146, mw_4_145, ms_678, mw_1_7, by decide, by decide⟩
def q_X8_laysLeast_19 (ev : EV) (th : Nat) : Nat → Int32 → PS → Option PS
  | 0, _, _ => none
  | n + 1, l1, z => if (r32 z 126 th) ≤ l1 then (ob (g_X8_wholeAgain ev z th) (fun z6 => ob (g_X8_c4 ev z6 th) (fun v7 => ob (g_X8_power (r64 z6 130 th) (4 : Int32)) (fun v8 => ck (¬ v8 = 0) (ob (g_X8_c6 ev z6 th) (fun v10 => ob (g_X8_power (r64 z6 130 th) (6 : Int32)) (fun v11 => ck (¬ v11 = 0) (ob (g_X8_leads ev z6 th (v7 / v8) (v10 / v11)) (fun z13 => some z13))))))))) else (ob (g_X8_wholeAgain ev z th) (fun z14 => ck (inB l1 20) (ob (g_X8_laysAt ev z14 th (rJ z14 (rf ev 125 th) l1.toNatClampNeg)) (fun z16 => ck (inB l1 20) (ob (g_X8_power (rJ z16 (rf ev 125 th) l1.toNatClampNeg) (rI z16 (rf ev 127 th) 7)) (fun v18 => bd (((r64 z16 130 th) * v18)) (fun v19 => bd (w64 z16 130 th v19) (fun z20 => bd (l1 + (1 : Int32)) (fun v21 => q_X8_laysLeast_19 ev th n v21 z20)))))))))
set_option maxRecDepth 20000 in
set_option maxHeartbeats 4000000 in
theorem w_X8_laysLeast_19 {ev : EV} {th : Nat} {p : Program} {l : Launch} {e : Env} {s : State} {m : MethodId} {args : Array Value} {below : List Frame} {meth : Method} {c : Code} {z9 : PS} (S : CallFix p m c cX8_laysLeast 2 s args gT RX8) (hr : meth.sig.returnType = none) (hlk : meth.locks = false) (E : EWF ev) (hK : KK ev s) (hX : pXt ev s) (hth : isK ev 6 th) : ∀ (n : Nat), ∀ (l1 : Int32) (z : PS) (ls : Array Slot) (H : Heap) (locs : List Loc), q_X8_laysLeast_19 ev th n l1 z = some z9 → lv_has ls 2 [(0, .ref th), (1, .int l1)] → Wd ev z H → SS ev s H locs → W p l e (pR 7 255) s m args below meth c H locs 0 0 (MQ below (pQv ev z9) args s 0 0 (eA ev)) (F0 m 19 ls []) := by
  intro n
  induction n with
  | zero => intro l1 z ls H locs h; cases h
  | succ n ih =>
    intro l1 z ls H locs h hl hP hS
    rw [q_X8_laysLeast_19] at h
    refine lv_iload_n S.1 S.2.1 dX8_laysLeast_19 rfl (lv_at hl 1 rfl) ?_
    refine lv_aload_n S.1 S.2.1 dX8_laysLeast_20 rfl (lv_at hl 0 rfl) ?_
    refine gf_6_6 S hK hP hth mw_3_227 dX8_laysLeast_21 ?_
    refine lv_icmp_ge (tgt := 72) S.1 S.2.1 dX8_laysLeast_24 (by decide) (fun c5 => ?_) (fun c5 => ?_)
    · rw [if_pos c5] at h
      refine lv_aload_n S.1 S.2.1 dX8_laysLeast_72 rfl (lv_at hl 0 rfl) ?_
      obtain ⟨z6, ez6, h⟩ := ob_s h
      refine pm_cVv (As := []) (rest := []) S hK hX hP hS (c_X8_wholeAgain l ev z E hth th z6 ez6) vm_X8_wholeAgain mw_4_143 (rc_6 hK hP hth) ⟨⟨rfl, rfl⟩, by decide, by decide⟩ rfl hl.1 rfl (Nat.le_of_ble_eq_true rfl) ⟨Nat.zero_le _, Nat.zero_le _⟩ dX8_laysLeast_73 (fun H locs hP hS => ?_)
      refine lv_aload_n S.1 S.2.1 dX8_laysLeast_76 rfl (lv_at hl 0 rfl) ?_
      refine lv_aload_n S.1 S.2.1 dX8_laysLeast_77 rfl (lv_at hl 0 rfl) ?_
      obtain ⟨v7, ev7, h⟩ := ob_s h
      refine pm_cVr (As := []) (rest := [.ref th]) S hK hX hP hS (c_X8_c4 l ev z6 E hth th v7 ev7) vm_X8_c4 mw_4_155 (rc_6 hK hP hth) ⟨⟨rfl, rfl⟩, by decide, by decide⟩ rfl hl.1 rfl (Nat.le_of_ble_eq_true rfl) ⟨Nat.zero_le _, Nat.zero_le _⟩ dX8_laysLeast_78 ?_
      refine lv_aload_n S.1 S.2.1 dX8_laysLeast_81 rfl (lv_at hl 0 rfl) ?_
      refine gf_6_10 S hK hP hth mw_3_231 dX8_laysLeast_82 ?_
      refine lv_iconst (v := 4) S.1 S.2.1 dX8_laysLeast_85 (by decide) ?_
      obtain ⟨v8, ev8, h⟩ := ob_s h
      refine pm_cS (As := [.long (r64 z6 130 th), .int (4 : Int32)]) (rest := [.long v7, .ref th]) S (c_X8_power l (r64 z6 130 th) (4 : Int32) v8 ev8) sm_X8_power mw_4_111 ⟨⟨rfl, rfl⟩, by decide, by decide⟩ rfl hl.1 rfl (Nat.le_of_ble_eq_true rfl) ⟨Nat.zero_le _, Nat.zero_le _⟩ dX8_laysLeast_86 ?_
      obtain ⟨hc9, h⟩ := ck_s h
      refine lv_ldiv S.1 S.2.1 dX8_laysLeast_89 hc9 ?_
      refine lv_aload_n S.1 S.2.1 dX8_laysLeast_90 rfl (lv_at hl 0 rfl) ?_
      obtain ⟨v10, ev10, h⟩ := ob_s h
      refine pm_cVr (As := []) (rest := [.long (v7 / v8), .ref th]) S hK hX hP hS (c_X8_c6 l ev z6 E hth th v10 ev10) vm_X8_c6 mw_4_160 (rc_6 hK hP hth) ⟨⟨rfl, rfl⟩, by decide, by decide⟩ rfl hl.1 rfl (Nat.le_of_ble_eq_true rfl) ⟨Nat.zero_le _, Nat.zero_le _⟩ dX8_laysLeast_91 ?_
      refine lv_aload_n S.1 S.2.1 dX8_laysLeast_94 rfl (lv_at hl 0 rfl) ?_
      refine gf_6_10 S hK hP hth mw_3_231 dX8_laysLeast_95 ?_
      refine lv_bipush (v := 6) S.1 S.2.1 dX8_laysLeast_98 (by decide) ?_
      obtain ⟨v11, ev11, h⟩ := ob_s h
      refine pm_cS (As := [.long (r64 z6 130 th), .int (6 : Int32)]) (rest := [.long v10, .long (v7 / v8), .ref th]) S (c_X8_power l (r64 z6 130 th) (6 : Int32) v11 ev11) sm_X8_power mw_4_111 ⟨⟨rfl, rfl⟩, by decide, by decide⟩ rfl hl.1 rfl (Nat.le_of_ble_eq_true rfl) ⟨Nat.zero_le _, Nat.zero_le _⟩ dX8_laysLeast_100 ?_
      obtain ⟨hc12, h⟩ := ck_s h
      refine lv_ldiv S.1 S.2.1 dX8_laysLeast_103 hc12 ?_
      obtain ⟨z13, ez13, h⟩ := ob_s h
      refine pm_cVv (As := [.long (v7 / v8), .long (v10 / v11)]) (rest := []) S hK hX hP hS (c_X8_leads l ev z6 E hth th (v7 / v8) (v10 / v11) z13 ez13) vm_X8_leads mw_5_18 (rc_6 hK hP hth) ⟨⟨rfl, rfl⟩, by decide, by decide⟩ rfl hl.1 rfl (Nat.le_of_ble_eq_true rfl) ⟨Nat.zero_le _, Nat.zero_le _⟩ dX8_laysLeast_104 (fun H locs hP hS => ?_)
      exact pm_vretW S hr hlk hP hS (Option.some.inj h) dX8_laysLeast_107
    · rw [if_neg c5] at h
      refine lv_aload_n S.1 S.2.1 dX8_laysLeast_27 rfl (lv_at hl 0 rfl) ?_
      obtain ⟨z14, ez14, h⟩ := ob_s h
      refine pm_cVv (As := []) (rest := []) S hK hX hP hS (c_X8_wholeAgain l ev z E hth th z14 ez14) vm_X8_wholeAgain mw_4_143 (rc_6 hK hP hth) ⟨⟨rfl, rfl⟩, by decide, by decide⟩ rfl hl.1 rfl (Nat.le_of_ble_eq_true rfl) ⟨Nat.zero_le _, Nat.zero_le _⟩ dX8_laysLeast_28 (fun H locs hP hS => ?_)
      refine lv_aload_n S.1 S.2.1 dX8_laysLeast_31 rfl (lv_at hl 0 rfl) ?_
      refine lv_aload_n S.1 S.2.1 dX8_laysLeast_32 rfl (lv_at hl 0 rfl) ?_
      refine gf_6_5 S hK hP hth mw_3_226 dX8_laysLeast_33 ?_
      refine lv_iload_n S.1 S.2.1 dX8_laysLeast_36 rfl (lv_at hl 1 rfl) ?_
      obtain ⟨hc15, h⟩ := ck_s h
      refine al_J S hK hP (E_6_5 E hth) (by rw [N_6_5 E hth]; exact hc15) dX8_laysLeast_37 ?_
      obtain ⟨z16, ez16, h⟩ := ob_s h
      refine pm_cVv (As := [.long (rJ z14 (rf ev 125 th) l1.toNatClampNeg)]) (rest := []) S hK hX hP hS (c_X8_laysAt l ev z14 E hth th (rJ z14 (rf ev 125 th) l1.toNatClampNeg) z16 ez16) vm_X8_laysAt mw_4_147 (rc_6 hK hP hth) ⟨⟨rfl, rfl⟩, by decide, by decide⟩ rfl hl.1 rfl (Nat.le_of_ble_eq_true rfl) ⟨Nat.zero_le _, Nat.zero_le _⟩ dX8_laysLeast_38 (fun H locs hP hS => ?_)
      refine lv_aload_n S.1 S.2.1 dX8_laysLeast_41 rfl (lv_at hl 0 rfl) ?_
      refine lv_dup S.1 S.2.1 dX8_laysLeast_42 rfl ?_
      refine gf_6_10 S hK hP hth mw_3_231 dX8_laysLeast_43 ?_
      refine lv_aload_n S.1 S.2.1 dX8_laysLeast_46 rfl (lv_at hl 0 rfl) ?_
      refine gf_6_5 S hK hP hth mw_3_226 dX8_laysLeast_47 ?_
      refine lv_iload_n S.1 S.2.1 dX8_laysLeast_50 rfl (lv_at hl 1 rfl) ?_
      obtain ⟨hc17, h⟩ := ck_s h
      refine al_J S hK hP (E_6_5 E hth) (by rw [N_6_5 E hth]; exact hc17) dX8_laysLeast_51 ?_
      refine lv_aload_n S.1 S.2.1 dX8_laysLeast_52 rfl (lv_at hl 0 rfl) ?_
      refine gf_6_7 S hK hP hth mw_3_228 dX8_laysLeast_53 ?_
      refine lv_bipush (v := 7) S.1 S.2.1 dX8_laysLeast_56 (by decide) ?_
      refine al_I S hK hP (E_6_7 E hth) (by rw [N_6_7 E hth]; decide) dX8_laysLeast_58 ?_
      refine pm_nmI (v := (rI z16 (rf ev 127 th) 7)) rfl ?_
      obtain ⟨v18, ev18, h⟩ := ob_s h
      refine pm_cS (As := [.long (rJ z16 (rf ev 125 th) l1.toNatClampNeg), .int (rI z16 (rf ev 127 th) 7)]) (rest := [.long (r64 z16 130 th), .ref th]) S (c_X8_power l (rJ z16 (rf ev 125 th) l1.toNatClampNeg) (rI z16 (rf ev 127 th) 7) v18 ev18) sm_X8_power mw_4_111 ⟨⟨rfl, rfl⟩, by decide, by decide⟩ rfl hl.1 rfl (Nat.le_of_ble_eq_true rfl) ⟨Nat.zero_le _, Nat.zero_le _⟩ dX8_laysLeast_59 ?_
      refine lv_lmul S.1 S.2.1 dX8_laysLeast_62 ?_
      obtain ⟨v19, ev19, h⟩ := bd_s h
      refine pm_nmL ev19 ?_
      obtain ⟨z20, ez20, h⟩ := bd_s h
      refine pf_6_10 S E hK hP hS hth mw_3_231 dX8_laysLeast_63 (fun H locs hP hS => ?_)
      rw [← ez20] at hP
      obtain ⟨v21, ev21, h⟩ := bd_s h
      refine lv_iinc (v := v21) (lv' := [(1, .int v21), (0, .ref th)]) S.1 S.2.1 dX8_laysLeast_66 hl (k := 1) rfl (by rw [ev21]; rfl) (by decide) rfl (fun ls hl => ?_)
      refine lv_goto (tgt := 19) S.1 S.2.1 dX8_laysLeast_69 (by decide) ?_
      exact ih v21 z20 ls _ _ h (lv_sub hl [1, 0] rfl) hP hS
def g_X8_laysLeast (ev : EV) (z : PS) (th : Nat) : Option PS := ob (g_X8_keepsWhole ev z th) (fun z1 => ob (g_X8_disc ev z1 th) (fun v2 => ob (g_X8_laysPrimes ev z1 th v2) (fun z3 => bd (w64 z3 130 th (1 : Int64)) (fun z4 => q_X8_laysLeast_19 ev th FU (0 : Int32) z4))))
set_option maxRecDepth 20000 in
set_option maxHeartbeats 4000000 in
theorem c_X8_laysLeast (l : Launch) (ev : EV) (z : PS) (E : EWF ev) {th : Nat} (hth : isK ev 6 th) (th_ : Nat) (z9 : PS) (h : g_X8_laysLeast ev z th = some z9) : Met l yX8_laysLeast (pWs yX8_laysLeast cX8_laysLeast 2 none) (pR 7 255) (va_Pc [.ref th] (pPe ev z)) (pQv ev z9) 0 0 (eA ev) := by
  refine pm_of (by decide) (Nat.le_of_ble_eq_true rfl) ?_
  intro p e s m below meth c S hr hlk hv ls hl
  obtain ⟨hP, hK, hX⟩ := hv
  have hS : SS ev s s.heap [] := va_S.rf
  have hl : lv_has ls 2 [(0, .ref th)] := hl
  unfold g_X8_laysLeast at h
  refine lv_aload_n S.1 S.2.1 dX8_laysLeast_0 rfl (lv_at hl 0 rfl) ?_
  obtain ⟨z1, ez1, h⟩ := ob_s h
  refine pm_cVv (As := []) (rest := []) S hK hX hP hS (c_X8_keepsWhole l ev z E hth th z1 ez1) vm_X8_keepsWhole mw_4_134 (rc_6 hK hP hth) ⟨⟨rfl, rfl⟩, by decide, by decide⟩ rfl hl.1 rfl (Nat.le_of_ble_eq_true rfl) ⟨Nat.zero_le _, Nat.zero_le _⟩ dX8_laysLeast_1 (fun H locs hP hS => ?_)
  refine lv_aload_n S.1 S.2.1 dX8_laysLeast_4 rfl (lv_at hl 0 rfl) ?_
  refine lv_aload_n S.1 S.2.1 dX8_laysLeast_5 rfl (lv_at hl 0 rfl) ?_
  obtain ⟨v2, ev2, h⟩ := ob_s h
  refine pm_cVr (As := []) (rest := [.ref th]) S hK hX hP hS (c_X8_disc l ev z1 E hth th v2 ev2) vm_X8_disc mw_4_46 (rc_6 hK hP hth) ⟨⟨rfl, rfl⟩, by decide, by decide⟩ rfl hl.1 rfl (Nat.le_of_ble_eq_true rfl) ⟨Nat.zero_le _, Nat.zero_le _⟩ dX8_laysLeast_6 ?_
  obtain ⟨z3, ez3, h⟩ := ob_s h
  refine pm_cVv (As := [.long v2]) (rest := []) S hK hX hP hS (c_X8_laysPrimes l ev z1 E hth th v2 z3 ez3) vm_X8_laysPrimes mw_4_138 (rc_6 hK hP hth) ⟨⟨rfl, rfl⟩, by decide, by decide⟩ rfl hl.1 rfl (Nat.le_of_ble_eq_true rfl) ⟨Nat.zero_le _, Nat.zero_le _⟩ dX8_laysLeast_9 (fun H locs hP hS => ?_)
  refine lv_aload_n S.1 S.2.1 dX8_laysLeast_12 rfl (lv_at hl 0 rfl) ?_
  refine lv_lconst (v := 1) S.1 S.2.1 dX8_laysLeast_13 (by decide) ?_
  obtain ⟨z4, ez4, h⟩ := bd_s h
  refine pf_6_10 S E hK hP hS hth mw_3_231 dX8_laysLeast_14 (fun H locs hP hS => ?_)
  rw [← ez4] at hP
  refine lv_iconst (v := 0) S.1 S.2.1 dX8_laysLeast_17 (by decide) ?_
  refine lv_istore_n (lv' := [(1, .int (0 : Int32)), (0, .ref th)]) S.1 S.2.1 dX8_laysLeast_18 rfl hl (by decide) rfl (fun ls hl => ?_)
  exact w_X8_laysLeast_19 S hr hlk E hK hX hth FU (0 : Int32) z4 ls _ _ h (lv_sub hl [1, 0] rfl) hP hS
theorem vm_X8_laysLeast : pm_Vm yX8_laysLeast cX8_laysLeast 2 none 0 := ⟨mw_4_133, mw_4_132, ms_687, mw_1_7, by decide, by decide⟩
def q_X8_goesLeast_6 (ev : EV) (th : Nat) : Nat → Int32 → PS → Option PS
  | 0, _, _ => none
  | n + 1, l1, z => if (5 : Int32) ≤ l1 then (some z) else (ck (inB l1 5) (bd ((rJ z (rf ev 124 th) l1.toNatClampNeg)) (fun v4 => ck (inB l1 5) (bd (wJ z (rf ev 123 th) l1.toNatClampNeg v4) (fun z6 => bd (l1 + (1 : Int32)) (fun v7 => q_X8_goesLeast_6 ev th n v7 z6))))))
set_option maxRecDepth 20000 in
set_option maxHeartbeats 4000000 in
theorem w_X8_goesLeast_6 {ev : EV} {th : Nat} {p : Program} {l : Launch} {e : Env} {s : State} {m : MethodId} {args : Array Value} {below : List Frame} {meth : Method} {c : Code} {z9 : PS} (S : CallFix p m c cX8_goesLeast 2 s args gT RX8) (hr : meth.sig.returnType = none) (hlk : meth.locks = false) (E : EWF ev) (hK : KK ev s) (hX : pXt ev s) (hth : isK ev 6 th) : ∀ (n : Nat), ∀ (l1 : Int32) (z : PS) (ls : Array Slot) (H : Heap) (locs : List Loc), q_X8_goesLeast_6 ev th n l1 z = some z9 → lv_has ls 2 [(0, .ref th), (1, .int l1)] → Wd ev z H → SS ev s H locs → W p l e (pR 8 288) s m args below meth c H locs 0 0 (MQ below (pQv ev z9) args s 0 0 (eA ev)) (F0 m 6 ls []) := by
  intro n
  induction n with
  | zero => intro l1 z ls H locs h; cases h
  | succ n ih =>
    intro l1 z ls H locs h hl hP hS
    rw [q_X8_goesLeast_6] at h
    refine lv_iload_n S.1 S.2.1 dX8_goesLeast_6 rfl (lv_at hl 1 rfl) ?_
    refine lv_iconst (v := 5) S.1 S.2.1 dX8_goesLeast_7 (by decide) ?_
    refine lv_icmp_ge (tgt := 29) S.1 S.2.1 dX8_goesLeast_8 (by decide) (fun c2 => ?_) (fun c2 => ?_)
    · rw [if_pos c2] at h
      exact pm_vretW S hr hlk hP hS (Option.some.inj h) dX8_goesLeast_29
    · rw [if_neg c2] at h
      refine lv_aload_n S.1 S.2.1 dX8_goesLeast_11 rfl (lv_at hl 0 rfl) ?_
      refine gf_6_3 S hK hP hth mw_3_224 dX8_goesLeast_12 ?_
      refine lv_iload_n S.1 S.2.1 dX8_goesLeast_15 rfl (lv_at hl 1 rfl) ?_
      refine lv_aload_n S.1 S.2.1 dX8_goesLeast_16 rfl (lv_at hl 0 rfl) ?_
      refine gf_6_4 S hK hP hth mw_3_225 dX8_goesLeast_17 ?_
      refine lv_iload_n S.1 S.2.1 dX8_goesLeast_20 rfl (lv_at hl 1 rfl) ?_
      obtain ⟨hc3, h⟩ := ck_s h
      refine al_J S hK hP (E_6_4 E hth) (by rw [N_6_4 E hth]; exact hc3) dX8_goesLeast_21 ?_
      obtain ⟨v4, ev4, h⟩ := bd_s h
      refine pm_nmL ev4 ?_
      obtain ⟨hc5, h⟩ := ck_s h
      obtain ⟨z6, ez6, h⟩ := bd_s h
      refine as_J S E hK hP hS (E_6_3 E hth) (by rw [N_6_3 E hth]; exact hc5) dX8_goesLeast_22 (fun H locs hP hS => ?_)
      rw [← ez6] at hP
      obtain ⟨v7, ev7, h⟩ := bd_s h
      refine lv_iinc (v := v7) (lv' := [(1, .int v7), (0, .ref th)]) S.1 S.2.1 dX8_goesLeast_23 hl (k := 1) rfl (by rw [ev7]; rfl) (by decide) rfl (fun ls hl => ?_)
      refine lv_goto (tgt := 6) S.1 S.2.1 dX8_goesLeast_26 (by decide) ?_
      exact ih v7 z6 ls _ _ h (lv_sub hl [1, 0] rfl) hP hS
def g_X8_goesLeast (ev : EV) (z : PS) (th : Nat) : Option PS := ob (g_X8_laysLeast ev z th) (fun z1 => q_X8_goesLeast_6 ev th FU (0 : Int32) z1)
set_option maxRecDepth 20000 in
set_option maxHeartbeats 4000000 in
theorem c_X8_goesLeast (l : Launch) (ev : EV) (z : PS) (E : EWF ev) {th : Nat} (hth : isK ev 6 th) (th_ : Nat) (z9 : PS) (h : g_X8_goesLeast ev z th = some z9) : Met l yX8_goesLeast (pWs yX8_goesLeast cX8_goesLeast 2 none) (pR 8 288) (va_Pc [.ref th] (pPe ev z)) (pQv ev z9) 0 0 (eA ev) := by
  refine pm_of (by decide) (Nat.le_of_ble_eq_true rfl) ?_
  intro p e s m below meth c S hr hlk hv ls hl
  obtain ⟨hP, hK, hX⟩ := hv
  have hS : SS ev s s.heap [] := va_S.rf
  have hl : lv_has ls 2 [(0, .ref th)] := hl
  unfold g_X8_goesLeast at h
  refine lv_aload_n S.1 S.2.1 dX8_goesLeast_0 rfl (lv_at hl 0 rfl) ?_
  obtain ⟨z1, ez1, h⟩ := ob_s h
  refine pm_cVv (As := []) (rest := []) S hK hX hP hS (c_X8_laysLeast l ev z E hth th z1 ez1) vm_X8_laysLeast mw_4_130 (rc_6 hK hP hth) ⟨⟨rfl, rfl⟩, by decide, by decide⟩ rfl hl.1 rfl (Nat.le_of_ble_eq_true rfl) ⟨Nat.zero_le _, Nat.zero_le _⟩ dX8_goesLeast_1 (fun H locs hP hS => ?_)
  refine lv_iconst (v := 0) S.1 S.2.1 dX8_goesLeast_4 (by decide) ?_
  refine lv_istore_n (lv' := [(1, .int (0 : Int32)), (0, .ref th)]) S.1 S.2.1 dX8_goesLeast_5 rfl hl (by decide) rfl (fun ls hl => ?_)
  exact w_X8_goesLeast_6 S hr hlk E hK hX hth FU (0 : Int32) z1 ls _ _ h (lv_sub hl [1, 0] rfl) hP hS
theorem vm_X8_goesLeast : pm_Vm yX8_goesLeast cX8_goesLeast 2 none 0 := ⟨mw_4_129, mw_4_128, ms_691, mw_1_7, by decide, by decide⟩
def g_X8_least (ev : EV) (z : PS) (th : Nat) (l1 : Int32) : Option (Int32 × PS) := bd (w32 z 120 th (0 : Int32)) (fun z1 => ob (g_X8_isCurve ev z1 th l1) (fun v2 => if v2 = 0 then (some ((-1 : Int32), z1)) else (ob (g_X8_loads ev z1 th l1) (fun z4 => ob (g_X8_goesLeast ev z4 th) (fun z5 => ob (g_X8_keeps ev z5 th) (fun qv7 => bd qv7.1 (fun v7 => bd qv7.2 (fun z6 => some (v7, z6)))))))))
set_option maxRecDepth 20000 in
set_option maxHeartbeats 4000000 in
theorem c_X8_least (l : Launch) (ev : EV) (z : PS) (E : EWF ev) {th : Nat} (hth : isK ev 6 th) (th_ : Nat) (l1 : Int32) (r : Int32) (z9 : PS) (h : g_X8_least ev z th l1 = some (r, z9)) : Met l yX8_least (pWs yX8_least cX8_least 2 (some .int)) (pR 9 321) (va_Pc [.ref th, .int l1] (pPe ev z)) (pQi ev r z9) 0 0 (eA ev) := by
  refine pm_of (by decide) (Nat.le_of_ble_eq_true rfl) ?_
  intro p e s m below meth c S hr hlk hv ls hl
  obtain ⟨hP, hK, hX⟩ := hv
  have hS : SS ev s s.heap [] := va_S.rf
  have hl : lv_has ls 2 [(0, .ref th), (1, .int l1)] := hl
  unfold g_X8_least at h
  refine lv_aload_n S.1 S.2.1 dX8_least_0 rfl (lv_at hl 0 rfl) ?_
  refine lv_iconst (v := 0) S.1 S.2.1 dX8_least_1 (by decide) ?_
  obtain ⟨z1, ez1, h⟩ := bd_s h
  refine pf_6_0 S E hK hP hS hth mw_3_221 dX8_least_2 (fun H locs hP hS => ?_)
  rw [← ez1] at hP
  refine lv_aload_n S.1 S.2.1 dX8_least_5 rfl (lv_at hl 0 rfl) ?_
  refine lv_iload_n S.1 S.2.1 dX8_least_6 rfl (lv_at hl 1 rfl) ?_
  obtain ⟨v2, ev2, h⟩ := ob_s h
  refine pm_cVr (As := [.int l1]) (rest := []) S hK hX hP hS (c_X8_isCurve l ev z1 E hth th l1 v2 ev2) vm_X8_isCurve mw_4_87 (rc_6 hK hP hth) ⟨⟨rfl, rfl⟩, by decide, by decide⟩ rfl hl.1 rfl (Nat.le_of_ble_eq_true rfl) ⟨Nat.zero_le _, Nat.zero_le _⟩ dX8_least_7 ?_
  refine lv_if_ne (tgt := 15) S.1 S.2.1 dX8_least_10 (by decide) (fun c3 => ?_) (fun c3 => ?_)
  · rw [if_neg c3] at h
    refine lv_aload_n S.1 S.2.1 dX8_least_15 rfl (lv_at hl 0 rfl) ?_
    refine lv_iload_n S.1 S.2.1 dX8_least_16 rfl (lv_at hl 1 rfl) ?_
    obtain ⟨z4, ez4, h⟩ := ob_s h
    refine pm_cVv (As := [.int l1]) (rest := []) S hK hX hP hS (c_X8_loads l ev z1 E hth th l1 z4 ez4) vm_X8_loads mw_4_91 (rc_6 hK hP hth) ⟨⟨rfl, rfl⟩, by decide, by decide⟩ rfl hl.1 rfl (Nat.le_of_ble_eq_true rfl) ⟨Nat.zero_le _, Nat.zero_le _⟩ dX8_least_17 (fun H locs hP hS => ?_)
    refine lv_aload_n S.1 S.2.1 dX8_least_20 rfl (lv_at hl 0 rfl) ?_
    obtain ⟨z5, ez5, h⟩ := ob_s h
    refine pm_cVv (As := []) (rest := []) S hK hX hP hS (c_X8_goesLeast l ev z4 E hth th z5 ez5) vm_X8_goesLeast mw_4_126 (rc_6 hK hP hth) ⟨⟨rfl, rfl⟩, by decide, by decide⟩ rfl hl.1 rfl (Nat.le_of_ble_eq_true rfl) ⟨Nat.zero_le _, Nat.zero_le _⟩ dX8_least_21 (fun H locs hP hS => ?_)
    refine lv_aload_n S.1 S.2.1 dX8_least_24 rfl (lv_at hl 0 rfl) ?_
    obtain ⟨qv7, ev7, h⟩ := ob_s h
    obtain ⟨v7, fv7, h⟩ := bd_s h
    obtain ⟨z6, fz6, h⟩ := bd_s h
    have ev7 : g_X8_keeps ev z5 th = some (v7, z6) := by rw [fv7, fz6]; exact ev7
    refine pm_cVi (As := []) (rest := []) S hK hX hP hS (c_X8_keeps l ev z5 E hth th v7 z6 ev7) vm_X8_keeps mw_4_70 (rc_6 hK hP hth) ⟨⟨rfl, rfl⟩, by decide, by decide⟩ rfl hl.1 rfl (Nat.le_of_ble_eq_true rfl) ⟨Nat.zero_le _, Nat.zero_le _⟩ dX8_least_25 (fun H locs hP hS => ?_)
    have h9 := Option.some.inj h
    exact pm_iretW S hr hlk hP hS (congrArg Prod.fst h9) (congrArg Prod.snd h9) dX8_least_28
  · rw [if_pos c3] at h
    refine lv_iconst (v := -1) S.1 S.2.1 dX8_least_13 (by decide) ?_
    have h9 := Option.some.inj h
    exact pm_iretW S hr hlk hP hS (congrArg Prod.fst h9) (congrArg Prod.snd h9) dX8_least_14
theorem vm_X8_least : pm_Vm yX8_least cX8_least 2 (some .int) 1 := ⟨mw_4_125, mw_4_123, mw_4_124, mw_1_7, by decide, by decide⟩
def g_X8_isTwist (l0 : Int32) : Option Int32 := ob (g_X8_within (l0.toInt64) (-10 : Int64) (10 : Int64)) (fun v1 => if v1 = 0 then (some (0 : Int32)) else (if l0 = 0 then (some (0 : Int32)) else (if l0 = (1 : Int32) then (some (0 : Int32)) else (if (jr32 l0 (4 : Int32)) = 0 then (some (0 : Int32)) else (if (jr32 l0 (9 : Int32)) = 0 then (some (0 : Int32)) else (some (1 : Int32)))))))
set_option maxRecDepth 20000 in
set_option maxHeartbeats 4000000 in
theorem c_X8_isTwist (l : Launch) (l0 : Int32) (r : Int32) (h : g_X8_isTwist l0 = some r) : Met l yX8_isTwist (pWs yX8_isTwist cX8_isTwist 1 (some .boolean)) (pR 1 37) (va_Pc [.int l0] (fun _ => True)) (k2_QcV (.int r)) 0 0 (fun _ => False) := by
  refine pm_of (by decide) (Nat.le_of_ble_eq_true rfl) ?_
  intro p e s m below meth c S hr hlk hv ls hl
  have hl : lv_has ls 1 [(0, .int l0)] := hl
  unfold g_X8_isTwist at h
  refine lv_iload_n S.1 S.2.1 dX8_isTwist_0 rfl (lv_at hl 0 rfl) ?_
  refine lv_i2l S.1 S.2.1 dX8_isTwist_1 rfl ?_
  refine pm_ldc2 S mw_5_31 dX8_isTwist_2 ?_
  refine pm_ldc2 S mw_5_32 dX8_isTwist_5 ?_
  obtain ⟨v1, ev1, h⟩ := ob_s h
  refine pm_cS (As := [.long (l0.toInt64), .long (-10 : Int64), .long (10 : Int64)]) (rest := []) S (c_X8_within l (l0.toInt64) (-10 : Int64) (10 : Int64) v1 ev1) sm_X8_within mw_4_41 ⟨⟨rfl, rfl⟩, by decide, by decide⟩ rfl hl.1 rfl (Nat.le_of_ble_eq_true rfl) ⟨Nat.zero_le _, Nat.zero_le _⟩ dX8_isTwist_8 ?_
  refine lv_if_eq (tgt := 40) S.1 S.2.1 dX8_isTwist_11 (by decide) (fun c2 => ?_) (fun c2 => ?_)
  · rw [if_pos c2] at h
    refine lv_iconst (v := 0) S.1 S.2.1 dX8_isTwist_40 (by decide) ?_
    exact pm_zretR S hr hlk (Or.inl rfl) (Option.some.inj h) dX8_isTwist_41
  · rw [if_neg c2] at h
    refine lv_iload_n S.1 S.2.1 dX8_isTwist_14 rfl (lv_at hl 0 rfl) ?_
    refine lv_if_eq (tgt := 40) S.1 S.2.1 dX8_isTwist_15 (by decide) (fun c3 => ?_) (fun c3 => ?_)
    · rw [if_pos c3] at h
      refine lv_iconst (v := 0) S.1 S.2.1 dX8_isTwist_40 (by decide) ?_
      exact pm_zretR S hr hlk (Or.inl rfl) (Option.some.inj h) dX8_isTwist_41
    · rw [if_neg c3] at h
      refine lv_iload_n S.1 S.2.1 dX8_isTwist_18 rfl (lv_at hl 0 rfl) ?_
      refine lv_iconst (v := 1) S.1 S.2.1 dX8_isTwist_19 (by decide) ?_
      refine lv_icmp_eq (tgt := 40) S.1 S.2.1 dX8_isTwist_20 (by decide) (fun c4 => ?_) (fun c4 => ?_)
      · rw [if_pos c4] at h
        refine lv_iconst (v := 0) S.1 S.2.1 dX8_isTwist_40 (by decide) ?_
        exact pm_zretR S hr hlk (Or.inl rfl) (Option.some.inj h) dX8_isTwist_41
      · rw [if_neg c4] at h
        refine lv_iload_n S.1 S.2.1 dX8_isTwist_23 rfl (lv_at hl 0 rfl) ?_
        refine lv_iconst (v := 4) S.1 S.2.1 dX8_isTwist_24 (by decide) ?_
        refine pm_irem S (by decide) dX8_isTwist_25 ?_
        refine lv_if_eq (tgt := 40) S.1 S.2.1 dX8_isTwist_26 (by decide) (fun c5 => ?_) (fun c5 => ?_)
        · rw [if_pos c5] at h
          refine lv_iconst (v := 0) S.1 S.2.1 dX8_isTwist_40 (by decide) ?_
          exact pm_zretR S hr hlk (Or.inl rfl) (Option.some.inj h) dX8_isTwist_41
        · rw [if_neg c5] at h
          refine lv_iload_n S.1 S.2.1 dX8_isTwist_29 rfl (lv_at hl 0 rfl) ?_
          refine lv_bipush (v := 9) S.1 S.2.1 dX8_isTwist_30 (by decide) ?_
          refine pm_irem S (by decide) dX8_isTwist_32 ?_
          refine lv_if_eq (tgt := 40) S.1 S.2.1 dX8_isTwist_33 (by decide) (fun c6 => ?_) (fun c6 => ?_)
          · rw [if_pos c6] at h
            refine lv_iconst (v := 0) S.1 S.2.1 dX8_isTwist_40 (by decide) ?_
            exact pm_zretR S hr hlk (Or.inl rfl) (Option.some.inj h) dX8_isTwist_41
          · rw [if_neg c6] at h
            refine lv_iconst (v := 1) S.1 S.2.1 dX8_isTwist_36 (by decide) ?_
            refine lv_goto (tgt := 41) S.1 S.2.1 dX8_isTwist_37 (by decide) ?_
            exact pm_zretR S hr hlk (Or.inr rfl) (Option.some.inj h) dX8_isTwist_41
theorem sm_X8_isTwist : pm_Sm yX8_isTwist cX8_isTwist 1 (some .boolean) 1 := ⟨mw_5_30, mw_5_29, mw_1_7, by decide, by decide⟩
def g_X8_twists (ev : EV) (z : PS) (th : Nat) (l1 : Int32) (l2 : Int32) : Option (Int32 × PS) := ob (g_X8_loads ev z th l1) (fun z1 => ob (g_X8_goesLeast ev z1 th) (fun z2 => ob (g_X8_disc ev z2 th) (fun v3 => ob (g_X8_size v3) (fun v4 => if v4 ≤ (2000000000 : Int64) then (if l2 = (1 : Int32) then (some ((1 : Int32), z2)) else (ob (g_X8_b2 ev z2 th) (fun v7 => ob (g_X8_b4 ev z2 th) (fun v8 => ob (g_X8_b6 ev z2 th) (fun v9 => bd (wJ z2 (rf ev 123 th) 0 (0 : Int64)) (fun z10 => bd (((l2.toInt64) * v7)) (fun v11 => bd (wJ z10 (rf ev 123 th) 1 v11) (fun z12 => bd (wJ z12 (rf ev 123 th) 2 (0 : Int64)) (fun z13 => bd (((((8 : Int64) * (l2.toInt64)) * (l2.toInt64)) * v8)) (fun v14 => bd (wJ z13 (rf ev 123 th) 3 v14) (fun z15 => bd ((((((16 : Int64) * (l2.toInt64)) * (l2.toInt64)) * (l2.toInt64)) * v9)) (fun v16 => bd (wJ z15 (rf ev 123 th) 4 v16) (fun z17 => ob (g_X8_goesLeast ev z17 th) (fun z18 => some ((1 : Int32), z18))))))))))))))) else (some ((0 : Int32), z2))))))
set_option maxRecDepth 20000 in
set_option maxHeartbeats 4000000 in
theorem c_X8_twists (l : Launch) (ev : EV) (z : PS) (E : EWF ev) {th : Nat} (hth : isK ev 6 th) (th_ : Nat) (l1 : Int32) (l2 : Int32) (r : Int32) (z9 : PS) (h : g_X8_twists ev z th l1 l2 = some (r, z9)) : Met l yX8_twists (pWs yX8_twists cX8_twists 9 (some .boolean)) (pR 9 321) (va_Pc [.ref th, .int l1, .int l2] (pPe ev z)) (pQi ev r z9) 0 0 (eA ev) := by
  refine pm_of (by decide) (Nat.le_of_ble_eq_true rfl) ?_
  intro p e s m below meth c S hr hlk hv ls hl
  obtain ⟨hP, hK, hX⟩ := hv
  have hS : SS ev s s.heap [] := va_S.rf
  have hl : lv_has ls 9 [(0, .ref th), (1, .int l1), (2, .int l2)] := hl
  unfold g_X8_twists at h
  refine lv_aload_n S.1 S.2.1 dX8_twists_0 rfl (lv_at hl 0 rfl) ?_
  refine lv_iload_n S.1 S.2.1 dX8_twists_1 rfl (lv_at hl 1 rfl) ?_
  obtain ⟨z1, ez1, h⟩ := ob_s h
  refine pm_cVv (As := [.int l1]) (rest := []) S hK hX hP hS (c_X8_loads l ev z E hth th l1 z1 ez1) vm_X8_loads mw_4_91 (rc_6 hK hP hth) ⟨⟨rfl, rfl⟩, by decide, by decide⟩ rfl hl.1 rfl (Nat.le_of_ble_eq_true rfl) ⟨Nat.zero_le _, Nat.zero_le _⟩ dX8_twists_2 (fun H locs hP hS => ?_)
  refine lv_aload_n S.1 S.2.1 dX8_twists_5 rfl (lv_at hl 0 rfl) ?_
  obtain ⟨z2, ez2, h⟩ := ob_s h
  refine pm_cVv (As := []) (rest := []) S hK hX hP hS (c_X8_goesLeast l ev z1 E hth th z2 ez2) vm_X8_goesLeast mw_4_126 (rc_6 hK hP hth) ⟨⟨rfl, rfl⟩, by decide, by decide⟩ rfl hl.1 rfl (Nat.le_of_ble_eq_true rfl) ⟨Nat.zero_le _, Nat.zero_le _⟩ dX8_twists_6 (fun H locs hP hS => ?_)
  refine lv_aload_n S.1 S.2.1 dX8_twists_9 rfl (lv_at hl 0 rfl) ?_
  obtain ⟨v3, ev3, h⟩ := ob_s h
  refine pm_cVr (As := []) (rest := []) S hK hX hP hS (c_X8_disc l ev z2 E hth th v3 ev3) vm_X8_disc mw_4_46 (rc_6 hK hP hth) ⟨⟨rfl, rfl⟩, by decide, by decide⟩ rfl hl.1 rfl (Nat.le_of_ble_eq_true rfl) ⟨Nat.zero_le _, Nat.zero_le _⟩ dX8_twists_10 ?_
  obtain ⟨v4, ev4, h⟩ := ob_s h
  refine pm_cS (As := [.long v3]) (rest := []) S (c_X8_size l v3 v4 ev4) sm_X8_size mw_4_78 ⟨⟨rfl, rfl⟩, by decide, by decide⟩ rfl hl.1 rfl (Nat.le_of_ble_eq_true rfl) ⟨Nat.zero_le _, Nat.zero_le _⟩ dX8_twists_13 ?_
  refine pm_ldc2 S mw_5_37 dX8_twists_16 ?_
  refine pm_lle (tgt := 25) S dX8_twists_19 dX8_twists_20 (by decide) (fun c5 => ?_) (fun c5 => ?_)
  · rw [if_pos c5] at h
    refine lv_iload_n S.1 S.2.1 dX8_twists_25 rfl (lv_at hl 2 rfl) ?_
    refine lv_iconst (v := 1) S.1 S.2.1 dX8_twists_26 (by decide) ?_
    refine lv_icmp_ne (tgt := 32) S.1 S.2.1 dX8_twists_27 (by decide) (fun c6 => ?_) (fun c6 => ?_)
    · rw [if_neg c6] at h
      refine lv_aload_n S.1 S.2.1 dX8_twists_32 rfl (lv_at hl 0 rfl) ?_
      obtain ⟨v7, ev7, h⟩ := ob_s h
      refine pm_cVr (As := []) (rest := []) S hK hX hP hS (c_X8_b2 l ev z2 E hth th v7 ev7) vm_X8_b2 mw_4_50 (rc_6 hK hP hth) ⟨⟨rfl, rfl⟩, by decide, by decide⟩ rfl hl.1 rfl (Nat.le_of_ble_eq_true rfl) ⟨Nat.zero_le _, Nat.zero_le _⟩ dX8_twists_33 ?_
      refine lv_lstore_n (lv' := [(3, .long v7), (0, .ref th), (1, .int l1), (2, .int l2)]) S.1 S.2.1 dX8_twists_36 rfl hl (by decide) rfl (fun ls hl => ?_)
      refine lv_aload_n S.1 S.2.1 dX8_twists_37 rfl (lv_at hl 1 rfl) ?_
      obtain ⟨v8, ev8, h⟩ := ob_s h
      refine pm_cVr (As := []) (rest := []) S hK hX hP hS (c_X8_b4 l ev z2 E hth th v8 ev8) vm_X8_b4 mw_4_55 (rc_6 hK hP hth) ⟨⟨rfl, rfl⟩, by decide, by decide⟩ rfl hl.1 rfl (Nat.le_of_ble_eq_true rfl) ⟨Nat.zero_le _, Nat.zero_le _⟩ dX8_twists_38 ?_
      refine lv_lstore (lv' := [(5, .long v8), (3, .long v7), (0, .ref th), (1, .int l1), (2, .int l2)]) S.1 S.2.1 dX8_twists_41 hl (by decide) rfl (fun ls hl => ?_)
      refine lv_aload_n S.1 S.2.1 dX8_twists_43 rfl (lv_at hl 2 rfl) ?_
      obtain ⟨v9, ev9, h⟩ := ob_s h
      refine pm_cVr (As := []) (rest := []) S hK hX hP hS (c_X8_b6 l ev z2 E hth th v9 ev9) vm_X8_b6 mw_4_60 (rc_6 hK hP hth) ⟨⟨rfl, rfl⟩, by decide, by decide⟩ rfl hl.1 rfl (Nat.le_of_ble_eq_true rfl) ⟨Nat.zero_le _, Nat.zero_le _⟩ dX8_twists_44 ?_
      refine lv_lstore (lv' := [(7, .long v9), (5, .long v8), (3, .long v7), (0, .ref th), (1, .int l1), (2, .int l2)]) S.1 S.2.1 dX8_twists_47 hl (by decide) rfl (fun ls hl => ?_)
      refine lv_aload_n S.1 S.2.1 dX8_twists_49 rfl (lv_at hl 3 rfl) ?_
      refine gf_6_3 S hK hP hth mw_3_224 dX8_twists_50 ?_
      refine lv_iconst (v := 0) S.1 S.2.1 dX8_twists_53 (by decide) ?_
      refine lv_lconst (v := 0) S.1 S.2.1 dX8_twists_54 (by decide) ?_
      obtain ⟨z10, ez10, h⟩ := bd_s h
      refine as_J S E hK hP hS (E_6_3 E hth) (by rw [N_6_3 E hth]; decide) dX8_twists_55 (fun H locs hP hS => ?_)
      have hP : Wd ev (wJ z2 (rf ev 123 th) 0 (0 : Int64)) H := hP
      rw [← ez10] at hP
      refine lv_aload_n S.1 S.2.1 dX8_twists_56 rfl (lv_at hl 3 rfl) ?_
      refine gf_6_3 S hK hP hth mw_3_224 dX8_twists_57 ?_
      refine lv_iconst (v := 1) S.1 S.2.1 dX8_twists_60 (by decide) ?_
      refine lv_iload_n S.1 S.2.1 dX8_twists_61 rfl (lv_at hl 5 rfl) ?_
      refine lv_i2l S.1 S.2.1 dX8_twists_62 rfl ?_
      refine lv_lload_n S.1 S.2.1 dX8_twists_63 rfl (lv_at hl 2 rfl) ?_
      refine lv_lmul S.1 S.2.1 dX8_twists_64 ?_
      obtain ⟨v11, ev11, h⟩ := bd_s h
      refine pm_nmL ev11 ?_
      obtain ⟨z12, ez12, h⟩ := bd_s h
      refine as_J S E hK hP hS (E_6_3 E hth) (by rw [N_6_3 E hth]; decide) dX8_twists_65 (fun H locs hP hS => ?_)
      have hP : Wd ev (wJ z10 (rf ev 123 th) 1 v11) H := hP
      rw [← ez12] at hP
      refine lv_aload_n S.1 S.2.1 dX8_twists_66 rfl (lv_at hl 3 rfl) ?_
      refine gf_6_3 S hK hP hth mw_3_224 dX8_twists_67 ?_
      refine lv_iconst (v := 2) S.1 S.2.1 dX8_twists_70 (by decide) ?_
      refine lv_lconst (v := 0) S.1 S.2.1 dX8_twists_71 (by decide) ?_
      obtain ⟨z13, ez13, h⟩ := bd_s h
      refine as_J S E hK hP hS (E_6_3 E hth) (by rw [N_6_3 E hth]; decide) dX8_twists_72 (fun H locs hP hS => ?_)
      have hP : Wd ev (wJ z12 (rf ev 123 th) 2 (0 : Int64)) H := hP
      rw [← ez13] at hP
      refine lv_aload_n S.1 S.2.1 dX8_twists_73 rfl (lv_at hl 3 rfl) ?_
      refine gf_6_3 S hK hP hth mw_3_224 dX8_twists_74 ?_
      refine lv_iconst (v := 3) S.1 S.2.1 dX8_twists_77 (by decide) ?_
      refine pm_ldc2 S mw_4_68 dX8_twists_78 ?_
      refine lv_iload_n S.1 S.2.1 dX8_twists_81 rfl (lv_at hl 5 rfl) ?_
      refine lv_i2l S.1 S.2.1 dX8_twists_82 rfl ?_
      refine lv_lmul S.1 S.2.1 dX8_twists_83 ?_
      refine lv_iload_n S.1 S.2.1 dX8_twists_84 rfl (lv_at hl 5 rfl) ?_
      refine lv_i2l S.1 S.2.1 dX8_twists_85 rfl ?_
      refine lv_lmul S.1 S.2.1 dX8_twists_86 ?_
      refine lv_lload S.1 S.2.1 dX8_twists_87 (lv_at hl 1 rfl) ?_
      refine lv_lmul S.1 S.2.1 dX8_twists_89 ?_
      obtain ⟨v14, ev14, h⟩ := bd_s h
      refine pm_nmL ev14 ?_
      obtain ⟨z15, ez15, h⟩ := bd_s h
      refine as_J S E hK hP hS (E_6_3 E hth) (by rw [N_6_3 E hth]; decide) dX8_twists_90 (fun H locs hP hS => ?_)
      have hP : Wd ev (wJ z13 (rf ev 123 th) 3 v14) H := hP
      rw [← ez15] at hP
      refine lv_aload_n S.1 S.2.1 dX8_twists_91 rfl (lv_at hl 3 rfl) ?_
      refine gf_6_3 S hK hP hth mw_3_224 dX8_twists_92 ?_
      refine lv_iconst (v := 4) S.1 S.2.1 dX8_twists_95 (by decide) ?_
      refine pm_ldc2 S mw_5_38 dX8_twists_96 ?_
      refine lv_iload_n S.1 S.2.1 dX8_twists_99 rfl (lv_at hl 5 rfl) ?_
      refine lv_i2l S.1 S.2.1 dX8_twists_100 rfl ?_
      refine lv_lmul S.1 S.2.1 dX8_twists_101 ?_
      refine lv_iload_n S.1 S.2.1 dX8_twists_102 rfl (lv_at hl 5 rfl) ?_
      refine lv_i2l S.1 S.2.1 dX8_twists_103 rfl ?_
      refine lv_lmul S.1 S.2.1 dX8_twists_104 ?_
      refine lv_iload_n S.1 S.2.1 dX8_twists_105 rfl (lv_at hl 5 rfl) ?_
      refine lv_i2l S.1 S.2.1 dX8_twists_106 rfl ?_
      refine lv_lmul S.1 S.2.1 dX8_twists_107 ?_
      refine lv_lload S.1 S.2.1 dX8_twists_108 (lv_at hl 0 rfl) ?_
      refine lv_lmul S.1 S.2.1 dX8_twists_110 ?_
      obtain ⟨v16, ev16, h⟩ := bd_s h
      refine pm_nmL ev16 ?_
      obtain ⟨z17, ez17, h⟩ := bd_s h
      refine as_J S E hK hP hS (E_6_3 E hth) (by rw [N_6_3 E hth]; decide) dX8_twists_111 (fun H locs hP hS => ?_)
      have hP : Wd ev (wJ z15 (rf ev 123 th) 4 v16) H := hP
      rw [← ez17] at hP
      refine lv_aload_n S.1 S.2.1 dX8_twists_112 rfl (lv_at hl 3 rfl) ?_
      obtain ⟨z18, ez18, h⟩ := ob_s h
      refine pm_cVv (As := []) (rest := []) S hK hX hP hS (c_X8_goesLeast l ev z17 E hth th z18 ez18) vm_X8_goesLeast mw_4_126 (rc_6 hK hP hth) ⟨⟨rfl, rfl⟩, by decide, by decide⟩ rfl hl.1 rfl (Nat.le_of_ble_eq_true rfl) ⟨Nat.zero_le _, Nat.zero_le _⟩ dX8_twists_113 (fun H locs hP hS => ?_)
      refine lv_iconst (v := 1) S.1 S.2.1 dX8_twists_116 (by decide) ?_
      have h9 := Option.some.inj h
      exact pm_zretW S hr hlk (Or.inr rfl) hP hS (congrArg Prod.fst h9) (congrArg Prod.snd h9) dX8_twists_117
    · rw [if_pos c6] at h
      refine lv_iconst (v := 1) S.1 S.2.1 dX8_twists_30 (by decide) ?_
      have h9 := Option.some.inj h
      exact pm_zretW S hr hlk (Or.inr rfl) hP hS (congrArg Prod.fst h9) (congrArg Prod.snd h9) dX8_twists_31
  · rw [if_neg c5] at h
    refine lv_iconst (v := 0) S.1 S.2.1 dX8_twists_23 (by decide) ?_
    have h9 := Option.some.inj h
    exact pm_zretW S hr hlk (Or.inl rfl) hP hS (congrArg Prod.fst h9) (congrArg Prod.snd h9) dX8_twists_24
theorem vm_X8_twists : pm_Vm yX8_twists cX8_twists 9 (some .boolean) 2 := ⟨mw_5_36, mw_5_35, ms_704, mw_1_7, by decide, by decide⟩
def g_X8_twist (ev : EV) (z : PS) (th : Nat) (l1 : Int32) (l2 : Int32) : Option (Int32 × PS) := bd (w32 z 120 th (0 : Int32)) (fun z1 => ob (g_X8_isCurve ev z1 th l1) (fun v2 => if v2 = 0 then (some ((-1 : Int32), z1)) else (ob (g_X8_isTwist l2) (fun v4 => if v4 = 0 then (some ((-1 : Int32), z1)) else (ob (g_X8_twists ev z1 th l1 l2) (fun qv7 => bd qv7.1 (fun v7 => bd qv7.2 (fun z6 => if v7 = 0 then (some ((-1 : Int32), z6)) else (ob (g_X8_keeps ev z6 th) (fun qv10 => bd qv10.1 (fun v10 => bd qv10.2 (fun z9 => some (v10, z9)))))))))))))
set_option maxRecDepth 20000 in
set_option maxHeartbeats 4000000 in
theorem c_X8_twist (l : Launch) (ev : EV) (z : PS) (E : EWF ev) {th : Nat} (hth : isK ev 6 th) (th_ : Nat) (l1 : Int32) (l2 : Int32) (r : Int32) (z9 : PS) (h : g_X8_twist ev z th l1 l2 = some (r, z9)) : Met l yX8_twist (pWs yX8_twist cX8_twist 3 (some .int)) (pR 10 361) (va_Pc [.ref th, .int l1, .int l2] (pPe ev z)) (pQi ev r z9) 0 0 (eA ev) := by
  refine pm_of (by decide) (Nat.le_of_ble_eq_true rfl) ?_
  intro p e s m below meth c S hr hlk hv ls hl
  obtain ⟨hP, hK, hX⟩ := hv
  have hS : SS ev s s.heap [] := va_S.rf
  have hl : lv_has ls 3 [(0, .ref th), (1, .int l1), (2, .int l2)] := hl
  unfold g_X8_twist at h
  refine lv_aload_n S.1 S.2.1 dX8_twist_0 rfl (lv_at hl 0 rfl) ?_
  refine lv_iconst (v := 0) S.1 S.2.1 dX8_twist_1 (by decide) ?_
  obtain ⟨z1, ez1, h⟩ := bd_s h
  refine pf_6_0 S E hK hP hS hth mw_3_221 dX8_twist_2 (fun H locs hP hS => ?_)
  rw [← ez1] at hP
  refine lv_aload_n S.1 S.2.1 dX8_twist_5 rfl (lv_at hl 0 rfl) ?_
  refine lv_iload_n S.1 S.2.1 dX8_twist_6 rfl (lv_at hl 1 rfl) ?_
  obtain ⟨v2, ev2, h⟩ := ob_s h
  refine pm_cVr (As := [.int l1]) (rest := []) S hK hX hP hS (c_X8_isCurve l ev z1 E hth th l1 v2 ev2) vm_X8_isCurve mw_4_87 (rc_6 hK hP hth) ⟨⟨rfl, rfl⟩, by decide, by decide⟩ rfl hl.1 rfl (Nat.le_of_ble_eq_true rfl) ⟨Nat.zero_le _, Nat.zero_le _⟩ dX8_twist_7 ?_
  refine lv_if_eq (tgt := 36) S.1 S.2.1 dX8_twist_10 (by decide) (fun c3 => ?_) (fun c3 => ?_)
  · rw [if_pos c3] at h
    refine lv_iconst (v := -1) S.1 S.2.1 dX8_twist_36 (by decide) ?_
    have h9 := Option.some.inj h
    exact pm_iretW S hr hlk hP hS (congrArg Prod.fst h9) (congrArg Prod.snd h9) dX8_twist_37
  · rw [if_neg c3] at h
    refine lv_iload_n S.1 S.2.1 dX8_twist_13 rfl (lv_at hl 2 rfl) ?_
    obtain ⟨v4, ev4, h⟩ := ob_s h
    refine pm_cS (As := [.int l2]) (rest := []) S (c_X8_isTwist l l2 v4 ev4) sm_X8_isTwist mw_5_28 ⟨⟨rfl, rfl⟩, by decide, by decide⟩ rfl hl.1 rfl (Nat.le_of_ble_eq_true rfl) ⟨Nat.zero_le _, Nat.zero_le _⟩ dX8_twist_14 ?_
    refine lv_if_eq (tgt := 36) S.1 S.2.1 dX8_twist_17 (by decide) (fun c5 => ?_) (fun c5 => ?_)
    · rw [if_pos c5] at h
      refine lv_iconst (v := -1) S.1 S.2.1 dX8_twist_36 (by decide) ?_
      have h9 := Option.some.inj h
      exact pm_iretW S hr hlk hP hS (congrArg Prod.fst h9) (congrArg Prod.snd h9) dX8_twist_37
    · rw [if_neg c5] at h
      refine lv_aload_n S.1 S.2.1 dX8_twist_20 rfl (lv_at hl 0 rfl) ?_
      refine lv_iload_n S.1 S.2.1 dX8_twist_21 rfl (lv_at hl 1 rfl) ?_
      refine lv_iload_n S.1 S.2.1 dX8_twist_22 rfl (lv_at hl 2 rfl) ?_
      obtain ⟨qv7, ev7, h⟩ := ob_s h
      obtain ⟨v7, fv7, h⟩ := bd_s h
      obtain ⟨z6, fz6, h⟩ := bd_s h
      have ev7 : g_X8_twists ev z1 th l1 l2 = some (v7, z6) := by rw [fv7, fz6]; exact ev7
      refine pm_cVi (As := [.int l1, .int l2]) (rest := []) S hK hX hP hS (c_X8_twists l ev z1 E hth th l1 l2 v7 z6 ev7) vm_X8_twists mw_5_33 (rc_6 hK hP hth) ⟨⟨rfl, rfl⟩, by decide, by decide⟩ rfl hl.1 rfl (Nat.le_of_ble_eq_true rfl) ⟨Nat.zero_le _, Nat.zero_le _⟩ dX8_twist_23 (fun H locs hP hS => ?_)
      refine lv_if_eq (tgt := 36) S.1 S.2.1 dX8_twist_26 (by decide) (fun c8 => ?_) (fun c8 => ?_)
      · rw [if_pos c8] at h
        refine lv_iconst (v := -1) S.1 S.2.1 dX8_twist_36 (by decide) ?_
        have h9 := Option.some.inj h
        exact pm_iretW S hr hlk hP hS (congrArg Prod.fst h9) (congrArg Prod.snd h9) dX8_twist_37
      · rw [if_neg c8] at h
        refine lv_aload_n S.1 S.2.1 dX8_twist_29 rfl (lv_at hl 0 rfl) ?_
        obtain ⟨qv10, ev10, h⟩ := ob_s h
        obtain ⟨v10, fv10, h⟩ := bd_s h
        obtain ⟨z9, fz9, h⟩ := bd_s h
        have ev10 : g_X8_keeps ev z6 th = some (v10, z9) := by rw [fv10, fz9]; exact ev10
        refine pm_cVi (As := []) (rest := []) S hK hX hP hS (c_X8_keeps l ev z6 E hth th v10 z9 ev10) vm_X8_keeps mw_4_70 (rc_6 hK hP hth) ⟨⟨rfl, rfl⟩, by decide, by decide⟩ rfl hl.1 rfl (Nat.le_of_ble_eq_true rfl) ⟨Nat.zero_le _, Nat.zero_le _⟩ dX8_twist_30 (fun H locs hP hS => ?_)
        refine lv_goto (tgt := 37) S.1 S.2.1 dX8_twist_33 (by decide) ?_
        have h9 := Option.some.inj h
        exact pm_iretW S hr hlk hP hS (congrArg Prod.fst h9) (congrArg Prod.snd h9) dX8_twist_37
theorem vm_X8_twist : pm_Vm yX8_twist cX8_twist 3 (some .int) 2 := ⟨mw_5_27, mw_5_25, mw_5_26, mw_1_7, by decide, by decide⟩
def g_X8_told (ev : EV) (z : PS) (th : Nat) (l1 : Int32) : Option Int64 := if l1 = 5 then (ob (g_X8_b2 ev z th) (fun v2 => some v2)) else (if l1 = 6 then (ob (g_X8_b4 ev z th) (fun v4 => some v4)) else (if l1 = 7 then (ob (g_X8_b6 ev z th) (fun v6 => some v6)) else (if l1 = 8 then (ob (g_X8_b8 ev z th) (fun v8 => some v8)) else (if l1 = 9 then (ob (g_X8_c4 ev z th) (fun v10 => some v10)) else (if l1 = 10 then (ob (g_X8_c6 ev z th) (fun v12 => some v12)) else (if l1 = 11 then (ob (g_X8_disc ev z th) (fun v14 => some v14)) else (ck (inB l1 5) (some (rJ z (rf ev 123 th) l1.toNatClampNeg)))))))))
set_option maxRecDepth 20000 in
set_option maxHeartbeats 4000000 in
theorem c_X8_told (l : Launch) (ev : EV) (z : PS) (E : EWF ev) {th : Nat} (hth : isK ev 6 th) (th_ : Nat) (l1 : Int32) (r : Int64) (h : g_X8_told ev z th l1 = some r) : Met l yX8_told (pWs yX8_told cX8_told 2 (some .long)) (pR 2 64) (va_Pc [.ref th, .int l1] (pPe ev z)) (k2_QcV (.long r)) 0 0 (fun _ => False) := by
  refine pm_of (by decide) (Nat.le_of_ble_eq_true rfl) ?_
  intro p e s m below meth c S hr hlk hv ls hl
  obtain ⟨hP, hK, hX⟩ := hv
  have hl : lv_has ls 2 [(0, .ref th), (1, .int l1)] := hl
  unfold g_X8_told at h
  refine lv_iload_n S.1 S.2.1 dX8_told_0 rfl (lv_at hl 1 rfl) ?_
  by_cases c1 : l1 = 5
  · rw [if_pos c1] at h
    refine lv_tableIn (off := 43) (tgt := 44) S.1 S.2.1 dX8_told_1 (by rw [c1]; decide) (by rw [c1]; decide) (by rw [c1]; rfl) (by decide) ?_
    refine lv_aload_n S.1 S.2.1 dX8_told_44 rfl (lv_at hl 0 rfl) ?_
    obtain ⟨v2, ev2, h⟩ := ob_s h
    refine pm_cVr (As := []) (rest := []) S hK hX hP va_S.rf (c_X8_b2 l ev z E hth th v2 ev2) vm_X8_b2 mw_4_50 (rc_6 hK hP hth) ⟨⟨rfl, rfl⟩, by decide, by decide⟩ rfl hl.1 rfl (Nat.le_of_ble_eq_true rfl) ⟨Nat.zero_le _, Nat.zero_le _⟩ dX8_told_45 ?_
    exact pm_lretR S hr hlk (Option.some.inj h) dX8_told_48
  · rw [if_neg c1] at h
    by_cases c3 : l1 = 6
    · rw [if_pos c3] at h
      refine lv_tableIn (off := 48) (tgt := 49) S.1 S.2.1 dX8_told_1 (by rw [c3]; decide) (by rw [c3]; decide) (by rw [c3]; rfl) (by decide) ?_
      refine lv_aload_n S.1 S.2.1 dX8_told_49 rfl (lv_at hl 0 rfl) ?_
      obtain ⟨v4, ev4, h⟩ := ob_s h
      refine pm_cVr (As := []) (rest := []) S hK hX hP va_S.rf (c_X8_b4 l ev z E hth th v4 ev4) vm_X8_b4 mw_4_55 (rc_6 hK hP hth) ⟨⟨rfl, rfl⟩, by decide, by decide⟩ rfl hl.1 rfl (Nat.le_of_ble_eq_true rfl) ⟨Nat.zero_le _, Nat.zero_le _⟩ dX8_told_50 ?_
      exact pm_lretR S hr hlk (Option.some.inj h) dX8_told_53
    · rw [if_neg c3] at h
      by_cases c5 : l1 = 7
      · rw [if_pos c5] at h
        refine lv_tableIn (off := 53) (tgt := 54) S.1 S.2.1 dX8_told_1 (by rw [c5]; decide) (by rw [c5]; decide) (by rw [c5]; rfl) (by decide) ?_
        refine lv_aload_n S.1 S.2.1 dX8_told_54 rfl (lv_at hl 0 rfl) ?_
        obtain ⟨v6, ev6, h⟩ := ob_s h
        refine pm_cVr (As := []) (rest := []) S hK hX hP va_S.rf (c_X8_b6 l ev z E hth th v6 ev6) vm_X8_b6 mw_4_60 (rc_6 hK hP hth) ⟨⟨rfl, rfl⟩, by decide, by decide⟩ rfl hl.1 rfl (Nat.le_of_ble_eq_true rfl) ⟨Nat.zero_le _, Nat.zero_le _⟩ dX8_told_55 ?_
        exact pm_lretR S hr hlk (Option.some.inj h) dX8_told_58
      · rw [if_neg c5] at h
        by_cases c7 : l1 = 8
        · rw [if_pos c7] at h
          refine lv_tableIn (off := 58) (tgt := 59) S.1 S.2.1 dX8_told_1 (by rw [c7]; decide) (by rw [c7]; decide) (by rw [c7]; rfl) (by decide) ?_
          refine lv_aload_n S.1 S.2.1 dX8_told_59 rfl (lv_at hl 0 rfl) ?_
          obtain ⟨v8, ev8, h⟩ := ob_s h
          refine pm_cVr (As := []) (rest := []) S hK hX hP va_S.rf (c_X8_b8 l ev z E hth th v8 ev8) vm_X8_b8 mw_4_64 (rc_6 hK hP hth) ⟨⟨rfl, rfl⟩, by decide, by decide⟩ rfl hl.1 rfl (Nat.le_of_ble_eq_true rfl) ⟨Nat.zero_le _, Nat.zero_le _⟩ dX8_told_60 ?_
          exact pm_lretR S hr hlk (Option.some.inj h) dX8_told_63
        · rw [if_neg c7] at h
          by_cases c9 : l1 = 9
          · rw [if_pos c9] at h
            refine lv_tableIn (off := 63) (tgt := 64) S.1 S.2.1 dX8_told_1 (by rw [c9]; decide) (by rw [c9]; decide) (by rw [c9]; rfl) (by decide) ?_
            refine lv_aload_n S.1 S.2.1 dX8_told_64 rfl (lv_at hl 0 rfl) ?_
            obtain ⟨v10, ev10, h⟩ := ob_s h
            refine pm_cVr (As := []) (rest := []) S hK hX hP va_S.rf (c_X8_c4 l ev z E hth th v10 ev10) vm_X8_c4 mw_4_155 (rc_6 hK hP hth) ⟨⟨rfl, rfl⟩, by decide, by decide⟩ rfl hl.1 rfl (Nat.le_of_ble_eq_true rfl) ⟨Nat.zero_le _, Nat.zero_le _⟩ dX8_told_65 ?_
            exact pm_lretR S hr hlk (Option.some.inj h) dX8_told_68
          · rw [if_neg c9] at h
            by_cases c11 : l1 = 10
            · rw [if_pos c11] at h
              refine lv_tableIn (off := 68) (tgt := 69) S.1 S.2.1 dX8_told_1 (by rw [c11]; decide) (by rw [c11]; decide) (by rw [c11]; rfl) (by decide) ?_
              refine lv_aload_n S.1 S.2.1 dX8_told_69 rfl (lv_at hl 0 rfl) ?_
              obtain ⟨v12, ev12, h⟩ := ob_s h
              refine pm_cVr (As := []) (rest := []) S hK hX hP va_S.rf (c_X8_c6 l ev z E hth th v12 ev12) vm_X8_c6 mw_4_160 (rc_6 hK hP hth) ⟨⟨rfl, rfl⟩, by decide, by decide⟩ rfl hl.1 rfl (Nat.le_of_ble_eq_true rfl) ⟨Nat.zero_le _, Nat.zero_le _⟩ dX8_told_70 ?_
              exact pm_lretR S hr hlk (Option.some.inj h) dX8_told_73
            · rw [if_neg c11] at h
              by_cases c13 : l1 = 11
              · rw [if_pos c13] at h
                refine lv_tableIn (off := 73) (tgt := 74) S.1 S.2.1 dX8_told_1 (by rw [c13]; decide) (by rw [c13]; decide) (by rw [c13]; rfl) (by decide) ?_
                refine lv_aload_n S.1 S.2.1 dX8_told_74 rfl (lv_at hl 0 rfl) ?_
                obtain ⟨v14, ev14, h⟩ := ob_s h
                refine pm_cVr (As := []) (rest := []) S hK hX hP va_S.rf (c_X8_disc l ev z E hth th v14 ev14) vm_X8_disc mw_4_46 (rc_6 hK hP hth) ⟨⟨rfl, rfl⟩, by decide, by decide⟩ rfl hl.1 rfl (Nat.le_of_ble_eq_true rfl) ⟨Nat.zero_le _, Nat.zero_le _⟩ dX8_told_75 ?_
                exact pm_lretR S hr hlk (Option.some.inj h) dX8_told_78
              · rw [if_neg c13] at h
                refine lv_tableOut (tgt := 79) S.1 S.2.1 dX8_told_1 (by have nc1 := lv_neT c1 (show (5 : Int32).toInt = 5 by decide); have nc3 := lv_neT c3 (show (6 : Int32).toInt = 6 by decide); have nc5 := lv_neT c5 (show (7 : Int32).toInt = 7 by decide); have nc7 := lv_neT c7 (show (8 : Int32).toInt = 8 by decide); have nc9 := lv_neT c9 (show (9 : Int32).toInt = 9 by decide); have nc11 := lv_neT c11 (show (10 : Int32).toInt = 10 by decide); have nc13 := lv_neT c13 (show (11 : Int32).toInt = 11 by decide); omega) (by decide) ?_
                refine lv_aload_n S.1 S.2.1 dX8_told_79 rfl (lv_at hl 0 rfl) ?_
                refine gf_6_3 S hK hP hth mw_3_224 dX8_told_80 ?_
                refine lv_iload_n S.1 S.2.1 dX8_told_83 rfl (lv_at hl 1 rfl) ?_
                obtain ⟨hc15, h⟩ := ck_s h
                refine al_J S hK hP (E_6_3 E hth) (by rw [N_6_3 E hth]; exact hc15) dX8_told_84 ?_
                exact pm_lretR S hr hlk (Option.some.inj h) dX8_told_85
theorem vm_X8_told : pm_Vm yX8_told cX8_told 2 (some .long) 1 := ⟨mw_5_47, mw_5_46, ms_712, mw_1_7, by decide, by decide⟩
def g_X8_of (ev : EV) (z : PS) (th : Nat) (l1 : Int32) (l2 : Int32) : Option (Int64 × PS) := ob (g_X8_isCurve ev z th l1) (fun v1 => if v1 = 0 then (bd (w32 z 120 th (1 : Int32)) (fun z3 => if (r32 z3 120 th) ≤ 0 then (ob (g_X8_loads ev z3 th l1) (fun z5 => ob (g_X8_told ev z5 th l2) (fun v6 => some (v6, z5)))) else (some ((0 : Int64), z3)))) else (ob (g_X8_within (l2.toInt64) (0 : Int64) (11 : Int64)) (fun v7 => if v7 = 0 then (bd (w32 z 120 th (1 : Int32)) (fun z9 => if (r32 z9 120 th) ≤ 0 then (ob (g_X8_loads ev z9 th l1) (fun z11 => ob (g_X8_told ev z11 th l2) (fun v12 => some (v12, z11)))) else (some ((0 : Int64), z9)))) else (bd (w32 z 120 th (0 : Int32)) (fun z13 => if (r32 z13 120 th) ≤ 0 then (ob (g_X8_loads ev z13 th l1) (fun z15 => ob (g_X8_told ev z15 th l2) (fun v16 => some (v16, z15)))) else (some ((0 : Int64), z13)))))))
set_option maxRecDepth 20000 in
set_option maxHeartbeats 4000000 in
theorem c_X8_of (l : Launch) (ev : EV) (z : PS) (E : EWF ev) {th : Nat} (hth : isK ev 6 th) (th_ : Nat) (l1 : Int32) (l2 : Int32) (r : Int64) (z9 : PS) (h : g_X8_of ev z th l1 l2 = some (r, z9)) : Met l yX8_of (pWs yX8_of cX8_of 3 (some .long)) (pR 3 97) (va_Pc [.ref th, .int l1, .int l2] (pPe ev z)) (pQl ev r z9) 0 0 (eA ev) := by
  refine pm_of (by decide) (Nat.le_of_ble_eq_true rfl) ?_
  intro p e s m below meth c S hr hlk hv ls hl
  obtain ⟨hP, hK, hX⟩ := hv
  have hS : SS ev s s.heap [] := va_S.rf
  have hl : lv_has ls 3 [(0, .ref th), (1, .int l1), (2, .int l2)] := hl
  unfold g_X8_of at h
  refine lv_aload_n S.1 S.2.1 dX8_of_0 rfl (lv_at hl 0 rfl) ?_
  refine lv_aload_n S.1 S.2.1 dX8_of_1 rfl (lv_at hl 0 rfl) ?_
  refine lv_iload_n S.1 S.2.1 dX8_of_2 rfl (lv_at hl 1 rfl) ?_
  obtain ⟨v1, ev1, h⟩ := ob_s h
  refine pm_cVr (As := [.int l1]) (rest := [.ref th]) S hK hX hP hS (c_X8_isCurve l ev z E hth th l1 v1 ev1) vm_X8_isCurve mw_4_87 (rc_6 hK hP hth) ⟨⟨rfl, rfl⟩, by decide, by decide⟩ rfl hl.1 rfl (Nat.le_of_ble_eq_true rfl) ⟨Nat.zero_le _, Nat.zero_le _⟩ dX8_of_3 ?_
  refine lv_if_eq (tgt := 25) S.1 S.2.1 dX8_of_6 (by decide) (fun c2 => ?_) (fun c2 => ?_)
  · rw [if_pos c2] at h
    refine lv_iconst (v := 1) S.1 S.2.1 dX8_of_25 (by decide) ?_
    obtain ⟨z3, ez3, h⟩ := bd_s h
    refine pf_6_0 S E hK hP hS hth mw_3_221 dX8_of_26 (fun H locs hP hS => ?_)
    rw [← ez3] at hP
    refine lv_aload_n S.1 S.2.1 dX8_of_29 rfl (lv_at hl 0 rfl) ?_
    refine gf_6_0 S hK hP hth mw_3_221 dX8_of_30 ?_
    refine lv_if_le (tgt := 38) S.1 S.2.1 dX8_of_33 (by decide) (fun c4 => ?_) (fun c4 => ?_)
    · rw [if_pos c4] at h
      refine lv_aload_n S.1 S.2.1 dX8_of_38 rfl (lv_at hl 0 rfl) ?_
      refine lv_iload_n S.1 S.2.1 dX8_of_39 rfl (lv_at hl 1 rfl) ?_
      obtain ⟨z5, ez5, h⟩ := ob_s h
      refine pm_cVv (As := [.int l1]) (rest := []) S hK hX hP hS (c_X8_loads l ev z3 E hth th l1 z5 ez5) vm_X8_loads mw_4_91 (rc_6 hK hP hth) ⟨⟨rfl, rfl⟩, by decide, by decide⟩ rfl hl.1 rfl (Nat.le_of_ble_eq_true rfl) ⟨Nat.zero_le _, Nat.zero_le _⟩ dX8_of_40 (fun H locs hP hS => ?_)
      refine lv_aload_n S.1 S.2.1 dX8_of_43 rfl (lv_at hl 0 rfl) ?_
      refine lv_iload_n S.1 S.2.1 dX8_of_44 rfl (lv_at hl 2 rfl) ?_
      obtain ⟨v6, ev6, h⟩ := ob_s h
      refine pm_cVr (As := [.int l2]) (rest := []) S hK hX hP hS (c_X8_told l ev z5 E hth th l2 v6 ev6) vm_X8_told mw_5_44 (rc_6 hK hP hth) ⟨⟨rfl, rfl⟩, by decide, by decide⟩ rfl hl.1 rfl (Nat.le_of_ble_eq_true rfl) ⟨Nat.zero_le _, Nat.zero_le _⟩ dX8_of_45 ?_
      have h9 := Option.some.inj h
      exact pm_lretW S hr hlk hP hS (congrArg Prod.fst h9) (congrArg Prod.snd h9) dX8_of_48
    · rw [if_neg c4] at h
      refine lv_lconst (v := 0) S.1 S.2.1 dX8_of_36 (by decide) ?_
      have h9 := Option.some.inj h
      exact pm_lretW S hr hlk hP hS (congrArg Prod.fst h9) (congrArg Prod.snd h9) dX8_of_37
  · rw [if_neg c2] at h
    refine lv_iload_n S.1 S.2.1 dX8_of_9 rfl (lv_at hl 2 rfl) ?_
    refine lv_i2l S.1 S.2.1 dX8_of_10 rfl ?_
    refine lv_lconst (v := 0) S.1 S.2.1 dX8_of_11 (by decide) ?_
    refine pm_ldc2 S mw_5_43 dX8_of_12 ?_
    obtain ⟨v7, ev7, h⟩ := ob_s h
    refine pm_cS (As := [.long (l2.toInt64), .long (0 : Int64), .long (11 : Int64)]) (rest := [.ref th]) S (c_X8_within l (l2.toInt64) (0 : Int64) (11 : Int64) v7 ev7) sm_X8_within mw_4_41 ⟨⟨rfl, rfl⟩, by decide, by decide⟩ rfl hl.1 rfl (Nat.le_of_ble_eq_true rfl) ⟨Nat.zero_le _, Nat.zero_le _⟩ dX8_of_15 ?_
    refine lv_if_eq (tgt := 25) S.1 S.2.1 dX8_of_18 (by decide) (fun c8 => ?_) (fun c8 => ?_)
    · rw [if_pos c8] at h
      refine lv_iconst (v := 1) S.1 S.2.1 dX8_of_25 (by decide) ?_
      obtain ⟨z9, ez9, h⟩ := bd_s h
      refine pf_6_0 S E hK hP hS hth mw_3_221 dX8_of_26 (fun H locs hP hS => ?_)
      rw [← ez9] at hP
      refine lv_aload_n S.1 S.2.1 dX8_of_29 rfl (lv_at hl 0 rfl) ?_
      refine gf_6_0 S hK hP hth mw_3_221 dX8_of_30 ?_
      refine lv_if_le (tgt := 38) S.1 S.2.1 dX8_of_33 (by decide) (fun c10 => ?_) (fun c10 => ?_)
      · rw [if_pos c10] at h
        refine lv_aload_n S.1 S.2.1 dX8_of_38 rfl (lv_at hl 0 rfl) ?_
        refine lv_iload_n S.1 S.2.1 dX8_of_39 rfl (lv_at hl 1 rfl) ?_
        obtain ⟨z11, ez11, h⟩ := ob_s h
        refine pm_cVv (As := [.int l1]) (rest := []) S hK hX hP hS (c_X8_loads l ev z9 E hth th l1 z11 ez11) vm_X8_loads mw_4_91 (rc_6 hK hP hth) ⟨⟨rfl, rfl⟩, by decide, by decide⟩ rfl hl.1 rfl (Nat.le_of_ble_eq_true rfl) ⟨Nat.zero_le _, Nat.zero_le _⟩ dX8_of_40 (fun H locs hP hS => ?_)
        refine lv_aload_n S.1 S.2.1 dX8_of_43 rfl (lv_at hl 0 rfl) ?_
        refine lv_iload_n S.1 S.2.1 dX8_of_44 rfl (lv_at hl 2 rfl) ?_
        obtain ⟨v12, ev12, h⟩ := ob_s h
        refine pm_cVr (As := [.int l2]) (rest := []) S hK hX hP hS (c_X8_told l ev z11 E hth th l2 v12 ev12) vm_X8_told mw_5_44 (rc_6 hK hP hth) ⟨⟨rfl, rfl⟩, by decide, by decide⟩ rfl hl.1 rfl (Nat.le_of_ble_eq_true rfl) ⟨Nat.zero_le _, Nat.zero_le _⟩ dX8_of_45 ?_
        have h9 := Option.some.inj h
        exact pm_lretW S hr hlk hP hS (congrArg Prod.fst h9) (congrArg Prod.snd h9) dX8_of_48
      · rw [if_neg c10] at h
        refine lv_lconst (v := 0) S.1 S.2.1 dX8_of_36 (by decide) ?_
        have h9 := Option.some.inj h
        exact pm_lretW S hr hlk hP hS (congrArg Prod.fst h9) (congrArg Prod.snd h9) dX8_of_37
    · rw [if_neg c8] at h
      refine lv_iconst (v := 0) S.1 S.2.1 dX8_of_21 (by decide) ?_
      refine lv_goto (tgt := 26) S.1 S.2.1 dX8_of_22 (by decide) ?_
      obtain ⟨z13, ez13, h⟩ := bd_s h
      refine pf_6_0 S E hK hP hS hth mw_3_221 dX8_of_26 (fun H locs hP hS => ?_)
      rw [← ez13] at hP
      refine lv_aload_n S.1 S.2.1 dX8_of_29 rfl (lv_at hl 0 rfl) ?_
      refine gf_6_0 S hK hP hth mw_3_221 dX8_of_30 ?_
      refine lv_if_le (tgt := 38) S.1 S.2.1 dX8_of_33 (by decide) (fun c14 => ?_) (fun c14 => ?_)
      · rw [if_pos c14] at h
        refine lv_aload_n S.1 S.2.1 dX8_of_38 rfl (lv_at hl 0 rfl) ?_
        refine lv_iload_n S.1 S.2.1 dX8_of_39 rfl (lv_at hl 1 rfl) ?_
        obtain ⟨z15, ez15, h⟩ := ob_s h
        refine pm_cVv (As := [.int l1]) (rest := []) S hK hX hP hS (c_X8_loads l ev z13 E hth th l1 z15 ez15) vm_X8_loads mw_4_91 (rc_6 hK hP hth) ⟨⟨rfl, rfl⟩, by decide, by decide⟩ rfl hl.1 rfl (Nat.le_of_ble_eq_true rfl) ⟨Nat.zero_le _, Nat.zero_le _⟩ dX8_of_40 (fun H locs hP hS => ?_)
        refine lv_aload_n S.1 S.2.1 dX8_of_43 rfl (lv_at hl 0 rfl) ?_
        refine lv_iload_n S.1 S.2.1 dX8_of_44 rfl (lv_at hl 2 rfl) ?_
        obtain ⟨v16, ev16, h⟩ := ob_s h
        refine pm_cVr (As := [.int l2]) (rest := []) S hK hX hP hS (c_X8_told l ev z15 E hth th l2 v16 ev16) vm_X8_told mw_5_44 (rc_6 hK hP hth) ⟨⟨rfl, rfl⟩, by decide, by decide⟩ rfl hl.1 rfl (Nat.le_of_ble_eq_true rfl) ⟨Nat.zero_le _, Nat.zero_le _⟩ dX8_of_45 ?_
        have h9 := Option.some.inj h
        exact pm_lretW S hr hlk hP hS (congrArg Prod.fst h9) (congrArg Prod.snd h9) dX8_of_48
      · rw [if_neg c14] at h
        refine lv_lconst (v := 0) S.1 S.2.1 dX8_of_36 (by decide) ?_
        have h9 := Option.some.inj h
        exact pm_lretW S hr hlk hP hS (congrArg Prod.fst h9) (congrArg Prod.snd h9) dX8_of_37
theorem vm_X8_of : pm_Vm yX8_of cX8_of 3 (some .long) 2 := ⟨mw_5_42, mw_5_40, mw_5_41, mw_1_7, by decide, by decide⟩
def q_X8_leastOf_26 (ev : EV) (th : Nat) (l1 : Int32) (l2 : Int32) (t0 : Int32) (z : PS) : Option (Int64 × PS) := bd (w32 z 120 th t0) (fun z5 => if (r32 z5 120 th) ≤ 0 then (ob (g_X8_loads ev z5 th l1) (fun z7 => ob (g_X8_goesLeast ev z7 th) (fun z8 => if l2 = (12 : Int32) then (some ((r64 z8 130 th), z8)) else (ob (g_X8_told ev z8 th l2) (fun v10 => some (v10, z8)))))) else (some ((0 : Int64), z5)))
set_option maxRecDepth 20000 in
set_option maxHeartbeats 4000000 in
theorem w_X8_leastOf_26 {ev : EV} {th : Nat} {p : Program} {l : Launch} {e : Env} {s : State} {m : MethodId} {args : Array Value} {below : List Frame} {meth : Method} {c : Code} {r : Int64} {z9 : PS} (S : CallFix p m c cX8_leastOf 3 s args gT RX8) (hr : meth.sig.returnType = (some .long)) (hlk : meth.locks = false) (E : EWF ev) (hK : KK ev s) (hX : pXt ev s) (hth : isK ev 6 th) : ∀ (l1 : Int32) (l2 : Int32) (t0 : Int32) (z : PS) (ls : Array Slot) (H : Heap) (locs : List Loc), q_X8_leastOf_26 ev th l1 l2 t0 z = some (r, z9) → lv_has ls 3 [(0, .ref th), (1, .int l1), (2, .int l2)] → Wd ev z H → SS ev s H locs → W p l e (pR 9 321) s m args below meth c H locs 0 0 (MQ below (pQl ev r z9) args s 0 0 (eA ev)) (F0 m 26 ls [.int t0, .ref th]) := by
  intro l1 l2 t0 z ls H locs h hl hP hS
  unfold q_X8_leastOf_26 at h
  obtain ⟨z5, ez5, h⟩ := bd_s h
  refine pf_6_0 S E hK hP hS hth mw_3_221 dX8_leastOf_26 (fun H locs hP hS => ?_)
  rw [← ez5] at hP
  refine lv_aload_n S.1 S.2.1 dX8_leastOf_29 rfl (lv_at hl 0 rfl) ?_
  refine gf_6_0 S hK hP hth mw_3_221 dX8_leastOf_30 ?_
  refine lv_if_le (tgt := 38) S.1 S.2.1 dX8_leastOf_33 (by decide) (fun c6 => ?_) (fun c6 => ?_)
  · rw [if_pos c6] at h
    refine lv_aload_n S.1 S.2.1 dX8_leastOf_38 rfl (lv_at hl 0 rfl) ?_
    refine lv_iload_n S.1 S.2.1 dX8_leastOf_39 rfl (lv_at hl 1 rfl) ?_
    obtain ⟨z7, ez7, h⟩ := ob_s h
    refine pm_cVv (As := [.int l1]) (rest := []) S hK hX hP hS (c_X8_loads l ev z5 E hth th l1 z7 ez7) vm_X8_loads mw_4_91 (rc_6 hK hP hth) ⟨⟨rfl, rfl⟩, by decide, by decide⟩ rfl hl.1 rfl (Nat.le_of_ble_eq_true rfl) ⟨Nat.zero_le _, Nat.zero_le _⟩ dX8_leastOf_40 (fun H locs hP hS => ?_)
    refine lv_aload_n S.1 S.2.1 dX8_leastOf_43 rfl (lv_at hl 0 rfl) ?_
    obtain ⟨z8, ez8, h⟩ := ob_s h
    refine pm_cVv (As := []) (rest := []) S hK hX hP hS (c_X8_goesLeast l ev z7 E hth th z8 ez8) vm_X8_goesLeast mw_4_126 (rc_6 hK hP hth) ⟨⟨rfl, rfl⟩, by decide, by decide⟩ rfl hl.1 rfl (Nat.le_of_ble_eq_true rfl) ⟨Nat.zero_le _, Nat.zero_le _⟩ dX8_leastOf_44 (fun H locs hP hS => ?_)
    refine lv_iload_n S.1 S.2.1 dX8_leastOf_47 rfl (lv_at hl 2 rfl) ?_
    refine lv_bipush (v := 12) S.1 S.2.1 dX8_leastOf_48 (by decide) ?_
    refine lv_icmp_ne (tgt := 60) S.1 S.2.1 dX8_leastOf_50 (by decide) (fun c9 => ?_) (fun c9 => ?_)
    · rw [if_neg c9] at h
      refine lv_aload_n S.1 S.2.1 dX8_leastOf_60 rfl (lv_at hl 0 rfl) ?_
      refine lv_iload_n S.1 S.2.1 dX8_leastOf_61 rfl (lv_at hl 2 rfl) ?_
      obtain ⟨v10, ev10, h⟩ := ob_s h
      refine pm_cVr (As := [.int l2]) (rest := []) S hK hX hP hS (c_X8_told l ev z8 E hth th l2 v10 ev10) vm_X8_told mw_5_44 (rc_6 hK hP hth) ⟨⟨rfl, rfl⟩, by decide, by decide⟩ rfl hl.1 rfl (Nat.le_of_ble_eq_true rfl) ⟨Nat.zero_le _, Nat.zero_le _⟩ dX8_leastOf_62 ?_
      have h9 := Option.some.inj h
      exact pm_lretW S hr hlk hP hS (congrArg Prod.fst h9) (congrArg Prod.snd h9) dX8_leastOf_65
    · rw [if_pos c9] at h
      refine lv_aload_n S.1 S.2.1 dX8_leastOf_53 rfl (lv_at hl 0 rfl) ?_
      refine gf_6_10 S hK hP hth mw_3_231 dX8_leastOf_54 ?_
      refine lv_goto (tgt := 65) S.1 S.2.1 dX8_leastOf_57 (by decide) ?_
      have h9 := Option.some.inj h
      exact pm_lretW S hr hlk hP hS (congrArg Prod.fst h9) (congrArg Prod.snd h9) dX8_leastOf_65
  · rw [if_neg c6] at h
    refine lv_lconst (v := 0) S.1 S.2.1 dX8_leastOf_36 (by decide) ?_
    have h9 := Option.some.inj h
    exact pm_lretW S hr hlk hP hS (congrArg Prod.fst h9) (congrArg Prod.snd h9) dX8_leastOf_37
def q_X8_leastOf_25 (ev : EV) (th : Nat) (l1 : Int32) (l2 : Int32) (z : PS) : Option (Int64 × PS) := q_X8_leastOf_26 ev th l1 l2 (1 : Int32) z
set_option maxRecDepth 20000 in
set_option maxHeartbeats 4000000 in
theorem w_X8_leastOf_25 {ev : EV} {th : Nat} {p : Program} {l : Launch} {e : Env} {s : State} {m : MethodId} {args : Array Value} {below : List Frame} {meth : Method} {c : Code} {r : Int64} {z9 : PS} (S : CallFix p m c cX8_leastOf 3 s args gT RX8) (hr : meth.sig.returnType = (some .long)) (hlk : meth.locks = false) (E : EWF ev) (hK : KK ev s) (hX : pXt ev s) (hth : isK ev 6 th) : ∀ (l1 : Int32) (l2 : Int32) (z : PS) (ls : Array Slot) (H : Heap) (locs : List Loc), q_X8_leastOf_25 ev th l1 l2 z = some (r, z9) → lv_has ls 3 [(0, .ref th), (1, .int l1), (2, .int l2)] → Wd ev z H → SS ev s H locs → W p l e (pR 9 321) s m args below meth c H locs 0 0 (MQ below (pQl ev r z9) args s 0 0 (eA ev)) (F0 m 25 ls [.ref th]) := by
  intro l1 l2 z ls H locs h hl hP hS
  unfold q_X8_leastOf_25 at h
  refine lv_iconst (v := 1) S.1 S.2.1 dX8_leastOf_25 (by decide) ?_
  exact w_X8_leastOf_26 S hr hlk E hK hX hth l1 l2 (1 : Int32) z ls _ _ h (lv_sub hl [0, 1, 2] rfl) hP hS
def g_X8_leastOf (ev : EV) (z : PS) (th : Nat) (l1 : Int32) (l2 : Int32) : Option (Int64 × PS) := ob (g_X8_isCurve ev z th l1) (fun v1 => if v1 = 0 then (q_X8_leastOf_25 ev th l1 l2 z) else (ob (g_X8_within (l2.toInt64) (0 : Int64) (12 : Int64)) (fun v3 => if v3 = 0 then (q_X8_leastOf_25 ev th l1 l2 z) else (q_X8_leastOf_26 ev th l1 l2 (0 : Int32) z))))
set_option maxRecDepth 20000 in
set_option maxHeartbeats 4000000 in
theorem c_X8_leastOf (l : Launch) (ev : EV) (z : PS) (E : EWF ev) {th : Nat} (hth : isK ev 6 th) (th_ : Nat) (l1 : Int32) (l2 : Int32) (r : Int64) (z9 : PS) (h : g_X8_leastOf ev z th l1 l2 = some (r, z9)) : Met l yX8_leastOf (pWs yX8_leastOf cX8_leastOf 3 (some .long)) (pR 9 321) (va_Pc [.ref th, .int l1, .int l2] (pPe ev z)) (pQl ev r z9) 0 0 (eA ev) := by
  refine pm_of (by decide) (Nat.le_of_ble_eq_true rfl) ?_
  intro p e s m below meth c S hr hlk hv ls hl
  obtain ⟨hP, hK, hX⟩ := hv
  have hS : SS ev s s.heap [] := va_S.rf
  have hl : lv_has ls 3 [(0, .ref th), (1, .int l1), (2, .int l2)] := hl
  unfold g_X8_leastOf at h
  refine lv_aload_n S.1 S.2.1 dX8_leastOf_0 rfl (lv_at hl 0 rfl) ?_
  refine lv_aload_n S.1 S.2.1 dX8_leastOf_1 rfl (lv_at hl 0 rfl) ?_
  refine lv_iload_n S.1 S.2.1 dX8_leastOf_2 rfl (lv_at hl 1 rfl) ?_
  obtain ⟨v1, ev1, h⟩ := ob_s h
  refine pm_cVr (As := [.int l1]) (rest := [.ref th]) S hK hX hP hS (c_X8_isCurve l ev z E hth th l1 v1 ev1) vm_X8_isCurve mw_4_87 (rc_6 hK hP hth) ⟨⟨rfl, rfl⟩, by decide, by decide⟩ rfl hl.1 rfl (Nat.le_of_ble_eq_true rfl) ⟨Nat.zero_le _, Nat.zero_le _⟩ dX8_leastOf_3 ?_
  refine lv_if_eq (tgt := 25) S.1 S.2.1 dX8_leastOf_6 (by decide) (fun c2 => ?_) (fun c2 => ?_)
  · rw [if_pos c2] at h
    exact w_X8_leastOf_25 S hr hlk E hK hX hth l1 l2 z ls _ _ h (lv_sub hl [0, 1, 2] rfl) hP hS
  · rw [if_neg c2] at h
    refine lv_iload_n S.1 S.2.1 dX8_leastOf_9 rfl (lv_at hl 2 rfl) ?_
    refine lv_i2l S.1 S.2.1 dX8_leastOf_10 rfl ?_
    refine lv_lconst (v := 0) S.1 S.2.1 dX8_leastOf_11 (by decide) ?_
    refine pm_ldc2 S mw_5_22 dX8_leastOf_12 ?_
    obtain ⟨v3, ev3, h⟩ := ob_s h
    refine pm_cS (As := [.long (l2.toInt64), .long (0 : Int64), .long (12 : Int64)]) (rest := [.ref th]) S (c_X8_within l (l2.toInt64) (0 : Int64) (12 : Int64) v3 ev3) sm_X8_within mw_4_41 ⟨⟨rfl, rfl⟩, by decide, by decide⟩ rfl hl.1 rfl (Nat.le_of_ble_eq_true rfl) ⟨Nat.zero_le _, Nat.zero_le _⟩ dX8_leastOf_15 ?_
    refine lv_if_eq (tgt := 25) S.1 S.2.1 dX8_leastOf_18 (by decide) (fun c4 => ?_) (fun c4 => ?_)
    · rw [if_pos c4] at h
      exact w_X8_leastOf_25 S hr hlk E hK hX hth l1 l2 z ls _ _ h (lv_sub hl [0, 1, 2] rfl) hP hS
    · rw [if_neg c4] at h
      refine lv_iconst (v := 0) S.1 S.2.1 dX8_leastOf_21 (by decide) ?_
      refine lv_goto (tgt := 26) S.1 S.2.1 dX8_leastOf_22 (by decide) ?_
      exact w_X8_leastOf_26 S hr hlk E hK hX hth l1 l2 (0 : Int32) z ls _ _ h (lv_sub hl [0, 1, 2] rfl) hP hS
theorem vm_X8_leastOf : pm_Vm yX8_leastOf cX8_leastOf 3 (some .long) 2 := ⟨mw_5_51, mw_5_49, mw_5_50, mw_1_7, by decide, by decide⟩
def g_X8_at (ev : EV) (z : PS) (th : Nat) (l1 : Int32) (l2 : Int32) (l3 : Int32) : Option (Int32 × PS) := bd (w32 z 120 th (0 : Int32)) (fun z1 => ob (g_X8_isCurve ev z1 th l1) (fun v2 => if v2 = 0 then (some ((-1 : Int32), z1)) else (ob (g_X8_within (l2.toInt64) (2 : Int64) (999983 : Int64)) (fun v4 => if v4 = 0 then (some ((-1 : Int32), z1)) else (ob (g_X8_isPrime (l2.toInt64)) (fun v6 => if v6 = 0 then (some ((-1 : Int32), z1)) else (ob (g_X8_within (l3.toInt64) (0 : Int64) (7 : Int64)) (fun v8 => if v8 = 0 then (some ((-1 : Int32), z1)) else (ob (g_X8_loads ev z1 th l1) (fun z10 => ob (g_X8_laysAt ev z10 th (l2.toInt64)) (fun z11 => ck (inB l3 8) (some ((rI z11 (rf ev 127 th) l3.toNatClampNeg), z11)))))))))))))
set_option maxRecDepth 20000 in
set_option maxHeartbeats 4000000 in
theorem c_X8_at (l : Launch) (ev : EV) (z : PS) (E : EWF ev) {th : Nat} (hth : isK ev 6 th) (th_ : Nat) (l1 : Int32) (l2 : Int32) (l3 : Int32) (r : Int32) (z9 : PS) (h : g_X8_at ev z th l1 l2 l3 = some (r, z9)) : Met l yX8_at (pWs yX8_at cX8_at 4 (some .int)) (pR 7 255) (va_Pc [.ref th, .int l1, .int l2, .int l3] (pPe ev z)) (pQi ev r z9) 0 0 (eA ev) := by
  refine pm_of (by decide) (Nat.le_of_ble_eq_true rfl) ?_
  intro p e s m below meth c S hr hlk hv ls hl
  obtain ⟨hP, hK, hX⟩ := hv
  have hS : SS ev s s.heap [] := va_S.rf
  have hl : lv_has ls 4 [(0, .ref th), (1, .int l1), (2, .int l2), (3, .int l3)] := hl
  unfold g_X8_at at h
  refine lv_aload_n S.1 S.2.1 dX8_at_0 rfl (lv_at hl 0 rfl) ?_
  refine lv_iconst (v := 0) S.1 S.2.1 dX8_at_1 (by decide) ?_
  obtain ⟨z1, ez1, h⟩ := bd_s h
  refine pf_6_0 S E hK hP hS hth mw_3_221 dX8_at_2 (fun H locs hP hS => ?_)
  rw [← ez1] at hP
  refine lv_aload_n S.1 S.2.1 dX8_at_5 rfl (lv_at hl 0 rfl) ?_
  refine lv_iload_n S.1 S.2.1 dX8_at_6 rfl (lv_at hl 1 rfl) ?_
  obtain ⟨v2, ev2, h⟩ := ob_s h
  refine pm_cVr (As := [.int l1]) (rest := []) S hK hX hP hS (c_X8_isCurve l ev z1 E hth th l1 v2 ev2) vm_X8_isCurve mw_4_87 (rc_6 hK hP hth) ⟨⟨rfl, rfl⟩, by decide, by decide⟩ rfl hl.1 rfl (Nat.le_of_ble_eq_true rfl) ⟨Nat.zero_le _, Nat.zero_le _⟩ dX8_at_7 ?_
  refine lv_if_eq (tgt := 47) S.1 S.2.1 dX8_at_10 (by decide) (fun c3 => ?_) (fun c3 => ?_)
  · rw [if_pos c3] at h
    refine lv_iconst (v := -1) S.1 S.2.1 dX8_at_47 (by decide) ?_
    have h9 := Option.some.inj h
    exact pm_iretW S hr hlk hP hS (congrArg Prod.fst h9) (congrArg Prod.snd h9) dX8_at_48
  · rw [if_neg c3] at h
    refine lv_iload_n S.1 S.2.1 dX8_at_13 rfl (lv_at hl 2 rfl) ?_
    refine lv_i2l S.1 S.2.1 dX8_at_14 rfl ?_
    refine pm_ldc2 S mw_4_59 dX8_at_15 ?_
    refine pm_ldc2 S mw_4_179 dX8_at_18 ?_
    obtain ⟨v4, ev4, h⟩ := ob_s h
    refine pm_cS (As := [.long (l2.toInt64), .long (2 : Int64), .long (999983 : Int64)]) (rest := []) S (c_X8_within l (l2.toInt64) (2 : Int64) (999983 : Int64) v4 ev4) sm_X8_within mw_4_41 ⟨⟨rfl, rfl⟩, by decide, by decide⟩ rfl hl.1 rfl (Nat.le_of_ble_eq_true rfl) ⟨Nat.zero_le _, Nat.zero_le _⟩ dX8_at_21 ?_
    refine lv_if_eq (tgt := 47) S.1 S.2.1 dX8_at_24 (by decide) (fun c5 => ?_) (fun c5 => ?_)
    · rw [if_pos c5] at h
      refine lv_iconst (v := -1) S.1 S.2.1 dX8_at_47 (by decide) ?_
      have h9 := Option.some.inj h
      exact pm_iretW S hr hlk hP hS (congrArg Prod.fst h9) (congrArg Prod.snd h9) dX8_at_48
    · rw [if_neg c5] at h
      refine lv_iload_n S.1 S.2.1 dX8_at_27 rfl (lv_at hl 2 rfl) ?_
      refine lv_i2l S.1 S.2.1 dX8_at_28 rfl ?_
      obtain ⟨v6, ev6, h⟩ := ob_s h
      refine pm_cS (As := [.long (l2.toInt64)]) (rest := []) S (c_X8_isPrime l (l2.toInt64) v6 ev6) sm_X8_isPrime mw_5_56 ⟨⟨rfl, rfl⟩, by decide, by decide⟩ rfl hl.1 rfl (Nat.le_of_ble_eq_true rfl) ⟨Nat.zero_le _, Nat.zero_le _⟩ dX8_at_29 ?_
      refine lv_if_eq (tgt := 47) S.1 S.2.1 dX8_at_32 (by decide) (fun c7 => ?_) (fun c7 => ?_)
      · rw [if_pos c7] at h
        refine lv_iconst (v := -1) S.1 S.2.1 dX8_at_47 (by decide) ?_
        have h9 := Option.some.inj h
        exact pm_iretW S hr hlk hP hS (congrArg Prod.fst h9) (congrArg Prod.snd h9) dX8_at_48
      · rw [if_neg c7] at h
        refine lv_iload_n S.1 S.2.1 dX8_at_35 rfl (lv_at hl 3 rfl) ?_
        refine lv_i2l S.1 S.2.1 dX8_at_36 rfl ?_
        refine lv_lconst (v := 0) S.1 S.2.1 dX8_at_37 (by decide) ?_
        refine pm_ldc2 S mw_5_59 dX8_at_38 ?_
        obtain ⟨v8, ev8, h⟩ := ob_s h
        refine pm_cS (As := [.long (l3.toInt64), .long (0 : Int64), .long (7 : Int64)]) (rest := []) S (c_X8_within l (l3.toInt64) (0 : Int64) (7 : Int64) v8 ev8) sm_X8_within mw_4_41 ⟨⟨rfl, rfl⟩, by decide, by decide⟩ rfl hl.1 rfl (Nat.le_of_ble_eq_true rfl) ⟨Nat.zero_le _, Nat.zero_le _⟩ dX8_at_41 ?_
        refine lv_if_ne (tgt := 49) S.1 S.2.1 dX8_at_44 (by decide) (fun c9 => ?_) (fun c9 => ?_)
        · rw [if_neg c9] at h
          refine lv_aload_n S.1 S.2.1 dX8_at_49 rfl (lv_at hl 0 rfl) ?_
          refine lv_iload_n S.1 S.2.1 dX8_at_50 rfl (lv_at hl 1 rfl) ?_
          obtain ⟨z10, ez10, h⟩ := ob_s h
          refine pm_cVv (As := [.int l1]) (rest := []) S hK hX hP hS (c_X8_loads l ev z1 E hth th l1 z10 ez10) vm_X8_loads mw_4_91 (rc_6 hK hP hth) ⟨⟨rfl, rfl⟩, by decide, by decide⟩ rfl hl.1 rfl (Nat.le_of_ble_eq_true rfl) ⟨Nat.zero_le _, Nat.zero_le _⟩ dX8_at_51 (fun H locs hP hS => ?_)
          refine lv_aload_n S.1 S.2.1 dX8_at_54 rfl (lv_at hl 0 rfl) ?_
          refine lv_iload_n S.1 S.2.1 dX8_at_55 rfl (lv_at hl 2 rfl) ?_
          refine lv_i2l S.1 S.2.1 dX8_at_56 rfl ?_
          obtain ⟨z11, ez11, h⟩ := ob_s h
          refine pm_cVv (As := [.long (l2.toInt64)]) (rest := []) S hK hX hP hS (c_X8_laysAt l ev z10 E hth th (l2.toInt64) z11 ez11) vm_X8_laysAt mw_4_147 (rc_6 hK hP hth) ⟨⟨rfl, rfl⟩, by decide, by decide⟩ rfl hl.1 rfl (Nat.le_of_ble_eq_true rfl) ⟨Nat.zero_le _, Nat.zero_le _⟩ dX8_at_57 (fun H locs hP hS => ?_)
          refine lv_aload_n S.1 S.2.1 dX8_at_60 rfl (lv_at hl 0 rfl) ?_
          refine gf_6_7 S hK hP hth mw_3_228 dX8_at_61 ?_
          refine lv_iload_n S.1 S.2.1 dX8_at_64 rfl (lv_at hl 3 rfl) ?_
          obtain ⟨hc12, h⟩ := ck_s h
          refine al_I S hK hP (E_6_7 E hth) (by rw [N_6_7 E hth]; exact hc12) dX8_at_65 ?_
          have h9 := Option.some.inj h
          exact pm_iretW S hr hlk hP hS (congrArg Prod.fst h9) (congrArg Prod.snd h9) dX8_at_66
        · rw [if_pos c9] at h
          refine lv_iconst (v := -1) S.1 S.2.1 dX8_at_47 (by decide) ?_
          have h9 := Option.some.inj h
          exact pm_iretW S hr hlk hP hS (congrArg Prod.fst h9) (congrArg Prod.snd h9) dX8_at_48
theorem vm_X8_at : pm_Vm yX8_at cX8_at 4 (some .int) 3 := ⟨mw_5_55, mw_5_53, mw_5_54, mw_1_7, by decide, by decide⟩
def g_X8_prime (ev : EV) (z : PS) (th : Nat) (l1 : Int32) (l2 : Int32) : Option (Int32 × PS) := bd (w32 z 120 th (0 : Int32)) (fun z1 => ob (g_X8_isCurve ev z1 th l1) (fun v2 => if v2 = 0 then (some ((-1 : Int32), z1)) else (if (-1 : Int32) ≤ l2 then (ob (g_X8_loads ev z1 th l1) (fun z5 => ob (g_X8_disc ev z5 th) (fun v6 => ob (g_X8_laysPrimes ev z5 th v6) (fun z7 => if l2 = (-1 : Int32) then (some ((r32 z7 126 th), z7)) else (if (r32 z7 126 th) ≤ l2 then (some ((-1 : Int32), z7)) else (ck (inB l2 20) (some (((rJ z7 (rf ev 125 th) l2.toNatClampNeg).toInt32), z7)))))))) else (some ((-1 : Int32), z1)))))
set_option maxRecDepth 20000 in
set_option maxHeartbeats 4000000 in
theorem c_X8_prime (l : Launch) (ev : EV) (z : PS) (E : EWF ev) {th : Nat} (hth : isK ev 6 th) (th_ : Nat) (l1 : Int32) (l2 : Int32) (r : Int32) (z9 : PS) (h : g_X8_prime ev z th l1 l2 = some (r, z9)) : Met l yX8_prime (pWs yX8_prime cX8_prime 3 (some .int)) (pR 2 71) (va_Pc [.ref th, .int l1, .int l2] (pPe ev z)) (pQi ev r z9) 0 0 (eA ev) := by
  refine pm_of (by decide) (Nat.le_of_ble_eq_true rfl) ?_
  intro p e s m below meth c S hr hlk hv ls hl
  obtain ⟨hP, hK, hX⟩ := hv
  have hS : SS ev s s.heap [] := va_S.rf
  have hl : lv_has ls 3 [(0, .ref th), (1, .int l1), (2, .int l2)] := hl
  unfold g_X8_prime at h
  refine lv_aload_n S.1 S.2.1 dX8_prime_0 rfl (lv_at hl 0 rfl) ?_
  refine lv_iconst (v := 0) S.1 S.2.1 dX8_prime_1 (by decide) ?_
  obtain ⟨z1, ez1, h⟩ := bd_s h
  refine pf_6_0 S E hK hP hS hth mw_3_221 dX8_prime_2 (fun H locs hP hS => ?_)
  rw [← ez1] at hP
  refine lv_aload_n S.1 S.2.1 dX8_prime_5 rfl (lv_at hl 0 rfl) ?_
  refine lv_iload_n S.1 S.2.1 dX8_prime_6 rfl (lv_at hl 1 rfl) ?_
  obtain ⟨v2, ev2, h⟩ := ob_s h
  refine pm_cVr (As := [.int l1]) (rest := []) S hK hX hP hS (c_X8_isCurve l ev z1 E hth th l1 v2 ev2) vm_X8_isCurve mw_4_87 (rc_6 hK hP hth) ⟨⟨rfl, rfl⟩, by decide, by decide⟩ rfl hl.1 rfl (Nat.le_of_ble_eq_true rfl) ⟨Nat.zero_le _, Nat.zero_le _⟩ dX8_prime_7 ?_
  refine lv_if_eq (tgt := 18) S.1 S.2.1 dX8_prime_10 (by decide) (fun c3 => ?_) (fun c3 => ?_)
  · rw [if_pos c3] at h
    refine lv_iconst (v := -1) S.1 S.2.1 dX8_prime_18 (by decide) ?_
    have h9 := Option.some.inj h
    exact pm_iretW S hr hlk hP hS (congrArg Prod.fst h9) (congrArg Prod.snd h9) dX8_prime_19
  · rw [if_neg c3] at h
    refine lv_iload_n S.1 S.2.1 dX8_prime_13 rfl (lv_at hl 2 rfl) ?_
    refine lv_iconst (v := -1) S.1 S.2.1 dX8_prime_14 (by decide) ?_
    refine lv_icmp_ge (tgt := 20) S.1 S.2.1 dX8_prime_15 (by decide) (fun c4 => ?_) (fun c4 => ?_)
    · rw [if_pos c4] at h
      refine lv_aload_n S.1 S.2.1 dX8_prime_20 rfl (lv_at hl 0 rfl) ?_
      refine lv_iload_n S.1 S.2.1 dX8_prime_21 rfl (lv_at hl 1 rfl) ?_
      obtain ⟨z5, ez5, h⟩ := ob_s h
      refine pm_cVv (As := [.int l1]) (rest := []) S hK hX hP hS (c_X8_loads l ev z1 E hth th l1 z5 ez5) vm_X8_loads mw_4_91 (rc_6 hK hP hth) ⟨⟨rfl, rfl⟩, by decide, by decide⟩ rfl hl.1 rfl (Nat.le_of_ble_eq_true rfl) ⟨Nat.zero_le _, Nat.zero_le _⟩ dX8_prime_22 (fun H locs hP hS => ?_)
      refine lv_aload_n S.1 S.2.1 dX8_prime_25 rfl (lv_at hl 0 rfl) ?_
      refine lv_aload_n S.1 S.2.1 dX8_prime_26 rfl (lv_at hl 0 rfl) ?_
      obtain ⟨v6, ev6, h⟩ := ob_s h
      refine pm_cVr (As := []) (rest := [.ref th]) S hK hX hP hS (c_X8_disc l ev z5 E hth th v6 ev6) vm_X8_disc mw_4_46 (rc_6 hK hP hth) ⟨⟨rfl, rfl⟩, by decide, by decide⟩ rfl hl.1 rfl (Nat.le_of_ble_eq_true rfl) ⟨Nat.zero_le _, Nat.zero_le _⟩ dX8_prime_27 ?_
      obtain ⟨z7, ez7, h⟩ := ob_s h
      refine pm_cVv (As := [.long v6]) (rest := []) S hK hX hP hS (c_X8_laysPrimes l ev z5 E hth th v6 z7 ez7) vm_X8_laysPrimes mw_4_138 (rc_6 hK hP hth) ⟨⟨rfl, rfl⟩, by decide, by decide⟩ rfl hl.1 rfl (Nat.le_of_ble_eq_true rfl) ⟨Nat.zero_le _, Nat.zero_le _⟩ dX8_prime_30 (fun H locs hP hS => ?_)
      refine lv_iload_n S.1 S.2.1 dX8_prime_33 rfl (lv_at hl 2 rfl) ?_
      refine lv_iconst (v := -1) S.1 S.2.1 dX8_prime_34 (by decide) ?_
      refine lv_icmp_ne (tgt := 45) S.1 S.2.1 dX8_prime_35 (by decide) (fun c8 => ?_) (fun c8 => ?_)
      · rw [if_neg c8] at h
        refine lv_iload_n S.1 S.2.1 dX8_prime_45 rfl (lv_at hl 2 rfl) ?_
        refine lv_aload_n S.1 S.2.1 dX8_prime_46 rfl (lv_at hl 0 rfl) ?_
        refine gf_6_6 S hK hP hth mw_3_227 dX8_prime_47 ?_
        refine lv_icmp_ge (tgt := 63) S.1 S.2.1 dX8_prime_50 (by decide) (fun c9 => ?_) (fun c9 => ?_)
        · rw [if_pos c9] at h
          refine lv_iconst (v := -1) S.1 S.2.1 dX8_prime_63 (by decide) ?_
          have h9 := Option.some.inj h
          exact pm_iretW S hr hlk hP hS (congrArg Prod.fst h9) (congrArg Prod.snd h9) dX8_prime_64
        · rw [if_neg c9] at h
          refine lv_aload_n S.1 S.2.1 dX8_prime_53 rfl (lv_at hl 0 rfl) ?_
          refine gf_6_5 S hK hP hth mw_3_226 dX8_prime_54 ?_
          refine lv_iload_n S.1 S.2.1 dX8_prime_57 rfl (lv_at hl 2 rfl) ?_
          obtain ⟨hc10, h⟩ := ck_s h
          refine al_J S hK hP (E_6_5 E hth) (by rw [N_6_5 E hth]; exact hc10) dX8_prime_58 ?_
          refine lv_l2i S.1 S.2.1 dX8_prime_59 rfl ?_
          refine lv_goto (tgt := 64) S.1 S.2.1 dX8_prime_60 (by decide) ?_
          have h9 := Option.some.inj h
          exact pm_iretW S hr hlk hP hS (congrArg Prod.fst h9) (congrArg Prod.snd h9) dX8_prime_64
      · rw [if_pos c8] at h
        refine lv_aload_n S.1 S.2.1 dX8_prime_38 rfl (lv_at hl 0 rfl) ?_
        refine gf_6_6 S hK hP hth mw_3_227 dX8_prime_39 ?_
        refine lv_goto (tgt := 64) S.1 S.2.1 dX8_prime_42 (by decide) ?_
        have h9 := Option.some.inj h
        exact pm_iretW S hr hlk hP hS (congrArg Prod.fst h9) (congrArg Prod.snd h9) dX8_prime_64
    · rw [if_neg c4] at h
      refine lv_iconst (v := -1) S.1 S.2.1 dX8_prime_18 (by decide) ?_
      have h9 := Option.some.inj h
      exact pm_iretW S hr hlk hP hS (congrArg Prod.fst h9) (congrArg Prod.snd h9) dX8_prime_19
theorem vm_X8_prime : pm_Vm yX8_prime cX8_prime 3 (some .int) 2 := ⟨mw_5_63, mw_5_61, mw_5_62, mw_1_7, by decide, by decide⟩
def q_X8_together_17 (ev : EV) (th : Nat) : Nat → Int32 → Int64 → Int32 → PS → Option (Int64 × PS)
  | 0, _, _, _, _ => none
  | n + 1, l1, l2, l4, z => if (r32 z 126 th) ≤ l4 then (ob (g_X8_wholeAgain ev z th) (fun z5 => some (l2, z5))) else (ob (g_X8_wholeAgain ev z th) (fun z6 => ck (inB l4 20) (ob (g_X8_laysAt ev z6 th (rJ z6 (rf ev 125 th) l4.toNatClampNeg)) (fun z8 => if l1 = 0 then (ck (inB l4 20) (ob (g_X8_power (rJ z8 (rf ev 125 th) l4.toNatClampNeg) (rI z8 (rf ev 127 th) 2)) (fun v11 => bd ((l2 * v11)) (fun v12 => bd (l4 + (1 : Int32)) (fun v13 => q_X8_together_17 ev th n l1 v12 v13 z8))))) else (bd ((l2 * ((rI z8 (rf ev 127 th) 4).toInt64))) (fun v14 => bd (l4 + (1 : Int32)) (fun v15 => q_X8_together_17 ev th n l1 v14 v15 z8)))))))
set_option maxRecDepth 20000 in
set_option maxHeartbeats 4000000 in
theorem w_X8_together_17 {ev : EV} {th : Nat} {p : Program} {l : Launch} {e : Env} {s : State} {m : MethodId} {args : Array Value} {below : List Frame} {meth : Method} {c : Code} {r : Int64} {z9 : PS} (S : CallFix p m c cX8_together 5 s args gT RX8) (hr : meth.sig.returnType = (some .long)) (hlk : meth.locks = false) (E : EWF ev) (hK : KK ev s) (hX : pXt ev s) (hth : isK ev 6 th) : ∀ (n : Nat), ∀ (l1 : Int32) (l2 : Int64) (l4 : Int32) (z : PS) (ls : Array Slot) (H : Heap) (locs : List Loc), q_X8_together_17 ev th n l1 l2 l4 z = some (r, z9) → lv_has ls 5 [(0, .ref th), (1, .int l1), (2, .long l2), (4, .int l4)] → Wd ev z H → SS ev s H locs → W p l e (pR 7 255) s m args below meth c H locs 0 0 (MQ below (pQl ev r z9) args s 0 0 (eA ev)) (F0 m 17 ls []) := by
  intro n
  induction n with
  | zero => intro l1 l2 l4 z ls H locs h; cases h
  | succ n ih =>
    intro l1 l2 l4 z ls H locs h hl hP hS
    rw [q_X8_together_17] at h
    refine lv_iload S.1 S.2.1 dX8_together_17 (lv_at hl 3 rfl) ?_
    refine lv_aload_n S.1 S.2.1 dX8_together_19 rfl (lv_at hl 0 rfl) ?_
    refine gf_6_6 S hK hP hth mw_3_227 dX8_together_20 ?_
    refine lv_icmp_ge (tgt := 80) S.1 S.2.1 dX8_together_23 (by decide) (fun c4 => ?_) (fun c4 => ?_)
    · rw [if_pos c4] at h
      refine lv_aload_n S.1 S.2.1 dX8_together_80 rfl (lv_at hl 0 rfl) ?_
      obtain ⟨z5, ez5, h⟩ := ob_s h
      refine pm_cVv (As := []) (rest := []) S hK hX hP hS (c_X8_wholeAgain l ev z E hth th z5 ez5) vm_X8_wholeAgain mw_4_143 (rc_6 hK hP hth) ⟨⟨rfl, rfl⟩, by decide, by decide⟩ rfl hl.1 rfl (Nat.le_of_ble_eq_true rfl) ⟨Nat.zero_le _, Nat.zero_le _⟩ dX8_together_81 (fun H locs hP hS => ?_)
      refine lv_lload_n S.1 S.2.1 dX8_together_84 rfl (lv_at hl 2 rfl) ?_
      have h9 := Option.some.inj h
      exact pm_lretW S hr hlk hP hS (congrArg Prod.fst h9) (congrArg Prod.snd h9) dX8_together_85
    · rw [if_neg c4] at h
      refine lv_aload_n S.1 S.2.1 dX8_together_26 rfl (lv_at hl 0 rfl) ?_
      obtain ⟨z6, ez6, h⟩ := ob_s h
      refine pm_cVv (As := []) (rest := []) S hK hX hP hS (c_X8_wholeAgain l ev z E hth th z6 ez6) vm_X8_wholeAgain mw_4_143 (rc_6 hK hP hth) ⟨⟨rfl, rfl⟩, by decide, by decide⟩ rfl hl.1 rfl (Nat.le_of_ble_eq_true rfl) ⟨Nat.zero_le _, Nat.zero_le _⟩ dX8_together_27 (fun H locs hP hS => ?_)
      refine lv_aload_n S.1 S.2.1 dX8_together_30 rfl (lv_at hl 0 rfl) ?_
      refine lv_aload_n S.1 S.2.1 dX8_together_31 rfl (lv_at hl 0 rfl) ?_
      refine gf_6_5 S hK hP hth mw_3_226 dX8_together_32 ?_
      refine lv_iload S.1 S.2.1 dX8_together_35 (lv_at hl 3 rfl) ?_
      obtain ⟨hc7, h⟩ := ck_s h
      refine al_J S hK hP (E_6_5 E hth) (by rw [N_6_5 E hth]; exact hc7) dX8_together_37 ?_
      obtain ⟨z8, ez8, h⟩ := ob_s h
      refine pm_cVv (As := [.long (rJ z6 (rf ev 125 th) l4.toNatClampNeg)]) (rest := []) S hK hX hP hS (c_X8_laysAt l ev z6 E hth th (rJ z6 (rf ev 125 th) l4.toNatClampNeg) z8 ez8) vm_X8_laysAt mw_4_147 (rc_6 hK hP hth) ⟨⟨rfl, rfl⟩, by decide, by decide⟩ rfl hl.1 rfl (Nat.le_of_ble_eq_true rfl) ⟨Nat.zero_le _, Nat.zero_le _⟩ dX8_together_38 (fun H locs hP hS => ?_)
      refine lv_lload_n S.1 S.2.1 dX8_together_41 rfl (lv_at hl 2 rfl) ?_
      refine lv_iload_n S.1 S.2.1 dX8_together_42 rfl (lv_at hl 1 rfl) ?_
      refine lv_if_eq (tgt := 56) S.1 S.2.1 dX8_together_43 (by decide) (fun c9 => ?_) (fun c9 => ?_)
      · rw [if_pos c9] at h
        refine lv_aload_n S.1 S.2.1 dX8_together_56 rfl (lv_at hl 0 rfl) ?_
        refine gf_6_5 S hK hP hth mw_3_226 dX8_together_57 ?_
        refine lv_iload S.1 S.2.1 dX8_together_60 (lv_at hl 3 rfl) ?_
        obtain ⟨hc10, h⟩ := ck_s h
        refine al_J S hK hP (E_6_5 E hth) (by rw [N_6_5 E hth]; exact hc10) dX8_together_62 ?_
        refine lv_aload_n S.1 S.2.1 dX8_together_63 rfl (lv_at hl 0 rfl) ?_
        refine gf_6_7 S hK hP hth mw_3_228 dX8_together_64 ?_
        refine lv_iconst (v := 2) S.1 S.2.1 dX8_together_67 (by decide) ?_
        refine al_I S hK hP (E_6_7 E hth) (by rw [N_6_7 E hth]; decide) dX8_together_68 ?_
        refine pm_nmI (v := (rI z8 (rf ev 127 th) 2)) rfl ?_
        obtain ⟨v11, ev11, h⟩ := ob_s h
        refine pm_cS (As := [.long (rJ z8 (rf ev 125 th) l4.toNatClampNeg), .int (rI z8 (rf ev 127 th) 2)]) (rest := [.long l2]) S (c_X8_power l (rJ z8 (rf ev 125 th) l4.toNatClampNeg) (rI z8 (rf ev 127 th) 2) v11 ev11) sm_X8_power mw_4_111 ⟨⟨rfl, rfl⟩, by decide, by decide⟩ rfl hl.1 rfl (Nat.le_of_ble_eq_true rfl) ⟨Nat.zero_le _, Nat.zero_le _⟩ dX8_together_69 ?_
        refine lv_lmul S.1 S.2.1 dX8_together_72 ?_
        obtain ⟨v12, ev12, h⟩ := bd_s h
        refine pm_nmL ev12 ?_
        refine lv_lstore_n (lv' := [(2, .long v12), (0, .ref th), (1, .int l1), (4, .int l4)]) S.1 S.2.1 dX8_together_73 rfl hl (by decide) rfl (fun ls hl => ?_)
        obtain ⟨v13, ev13, h⟩ := bd_s h
        refine lv_iinc (v := v13) (lv' := [(4, .int v13), (2, .long v12), (0, .ref th), (1, .int l1)]) S.1 S.2.1 dX8_together_74 hl (k := 3) rfl (by rw [ev13]; rfl) (by decide) rfl (fun ls hl => ?_)
        refine lv_goto (tgt := 17) S.1 S.2.1 dX8_together_77 (by decide) ?_
        exact ih l1 v12 v13 z8 ls _ _ h (lv_sub hl [2, 3, 1, 0] rfl) hP hS
      · rw [if_neg c9] at h
        refine lv_aload_n S.1 S.2.1 dX8_together_46 rfl (lv_at hl 0 rfl) ?_
        refine gf_6_7 S hK hP hth mw_3_228 dX8_together_47 ?_
        refine lv_iconst (v := 4) S.1 S.2.1 dX8_together_50 (by decide) ?_
        refine al_I S hK hP (E_6_7 E hth) (by rw [N_6_7 E hth]; decide) dX8_together_51 ?_
        refine pm_nmI (v := (rI z8 (rf ev 127 th) 4)) rfl ?_
        refine lv_i2l S.1 S.2.1 dX8_together_52 rfl ?_
        refine lv_goto (tgt := 72) S.1 S.2.1 dX8_together_53 (by decide) ?_
        refine lv_lmul S.1 S.2.1 dX8_together_72 ?_
        obtain ⟨v14, ev14, h⟩ := bd_s h
        refine pm_nmL ev14 ?_
        refine lv_lstore_n (lv' := [(2, .long v14), (0, .ref th), (1, .int l1), (4, .int l4)]) S.1 S.2.1 dX8_together_73 rfl hl (by decide) rfl (fun ls hl => ?_)
        obtain ⟨v15, ev15, h⟩ := bd_s h
        refine lv_iinc (v := v15) (lv' := [(4, .int v15), (2, .long v14), (0, .ref th), (1, .int l1)]) S.1 S.2.1 dX8_together_74 hl (k := 3) rfl (by rw [ev15]; rfl) (by decide) rfl (fun ls hl => ?_)
        refine lv_goto (tgt := 17) S.1 S.2.1 dX8_together_77 (by decide) ?_
        exact ih l1 v14 v15 z8 ls _ _ h (lv_sub hl [2, 3, 1, 0] rfl) hP hS
def g_X8_together (ev : EV) (z : PS) (th : Nat) (l1 : Int32) : Option (Int64 × PS) := ob (g_X8_keepsWhole ev z th) (fun z1 => ob (g_X8_disc ev z1 th) (fun v2 => ob (g_X8_laysPrimes ev z1 th v2) (fun z3 => q_X8_together_17 ev th FU l1 (1 : Int64) (0 : Int32) z3)))
set_option maxRecDepth 20000 in
set_option maxHeartbeats 4000000 in
theorem c_X8_together (l : Launch) (ev : EV) (z : PS) (E : EWF ev) {th : Nat} (hth : isK ev 6 th) (th_ : Nat) (l1 : Int32) (r : Int64) (z9 : PS) (h : g_X8_together ev z th l1 = some (r, z9)) : Met l yX8_together (pWs yX8_together cX8_together 5 (some .long)) (pR 7 255) (va_Pc [.ref th, .int l1] (pPe ev z)) (pQl ev r z9) 0 0 (eA ev) := by
  refine pm_of (by decide) (Nat.le_of_ble_eq_true rfl) ?_
  intro p e s m below meth c S hr hlk hv ls hl
  obtain ⟨hP, hK, hX⟩ := hv
  have hS : SS ev s s.heap [] := va_S.rf
  have hl : lv_has ls 5 [(0, .ref th), (1, .int l1)] := hl
  unfold g_X8_together at h
  refine lv_aload_n S.1 S.2.1 dX8_together_0 rfl (lv_at hl 0 rfl) ?_
  obtain ⟨z1, ez1, h⟩ := ob_s h
  refine pm_cVv (As := []) (rest := []) S hK hX hP hS (c_X8_keepsWhole l ev z E hth th z1 ez1) vm_X8_keepsWhole mw_4_134 (rc_6 hK hP hth) ⟨⟨rfl, rfl⟩, by decide, by decide⟩ rfl hl.1 rfl (Nat.le_of_ble_eq_true rfl) ⟨Nat.zero_le _, Nat.zero_le _⟩ dX8_together_1 (fun H locs hP hS => ?_)
  refine lv_aload_n S.1 S.2.1 dX8_together_4 rfl (lv_at hl 0 rfl) ?_
  refine lv_aload_n S.1 S.2.1 dX8_together_5 rfl (lv_at hl 0 rfl) ?_
  obtain ⟨v2, ev2, h⟩ := ob_s h
  refine pm_cVr (As := []) (rest := [.ref th]) S hK hX hP hS (c_X8_disc l ev z1 E hth th v2 ev2) vm_X8_disc mw_4_46 (rc_6 hK hP hth) ⟨⟨rfl, rfl⟩, by decide, by decide⟩ rfl hl.1 rfl (Nat.le_of_ble_eq_true rfl) ⟨Nat.zero_le _, Nat.zero_le _⟩ dX8_together_6 ?_
  obtain ⟨z3, ez3, h⟩ := ob_s h
  refine pm_cVv (As := [.long v2]) (rest := []) S hK hX hP hS (c_X8_laysPrimes l ev z1 E hth th v2 z3 ez3) vm_X8_laysPrimes mw_4_138 (rc_6 hK hP hth) ⟨⟨rfl, rfl⟩, by decide, by decide⟩ rfl hl.1 rfl (Nat.le_of_ble_eq_true rfl) ⟨Nat.zero_le _, Nat.zero_le _⟩ dX8_together_9 (fun H locs hP hS => ?_)
  refine lv_lconst (v := 1) S.1 S.2.1 dX8_together_12 (by decide) ?_
  refine lv_lstore_n (lv' := [(2, .long (1 : Int64)), (0, .ref th), (1, .int l1)]) S.1 S.2.1 dX8_together_13 rfl hl (by decide) rfl (fun ls hl => ?_)
  refine lv_iconst (v := 0) S.1 S.2.1 dX8_together_14 (by decide) ?_
  refine lv_istore (lv' := [(4, .int (0 : Int32)), (2, .long (1 : Int64)), (0, .ref th), (1, .int l1)]) S.1 S.2.1 dX8_together_15 hl (by decide) rfl (fun ls hl => ?_)
  exact w_X8_together_17 S hr hlk E hK hX hth FU l1 (1 : Int64) (0 : Int32) z3 ls _ _ h (lv_sub hl [2, 3, 1, 0] rfl) hP hS
theorem vm_X8_together : pm_Vm yX8_together cX8_together 5 (some .long) 1 := ⟨mw_5_71, mw_5_70, ms_731, mw_1_7, by decide, by decide⟩
def g_X8_conductor (ev : EV) (z : PS) (th : Nat) (l1 : Int32) : Option (Int64 × PS) := bd (w32 z 120 th (0 : Int32)) (fun z1 => ob (g_X8_isCurve ev z1 th l1) (fun v2 => if v2 = 0 then (some ((0 : Int64), z1)) else (ob (g_X8_loads ev z1 th l1) (fun z4 => ob (g_X8_together ev z4 th (0 : Int32)) (fun qv6 => bd qv6.1 (fun v6 => bd qv6.2 (fun z5 => some (v6, z5))))))))
set_option maxRecDepth 20000 in
set_option maxHeartbeats 4000000 in
theorem c_X8_conductor (l : Launch) (ev : EV) (z : PS) (E : EWF ev) {th : Nat} (hth : isK ev 6 th) (th_ : Nat) (l1 : Int32) (r : Int64) (z9 : PS) (h : g_X8_conductor ev z th l1 = some (r, z9)) : Met l yX8_conductor (pWs yX8_conductor cX8_conductor 2 (some .long)) (pR 8 291) (va_Pc [.ref th, .int l1] (pPe ev z)) (pQl ev r z9) 0 0 (eA ev) := by
  refine pm_of (by decide) (Nat.le_of_ble_eq_true rfl) ?_
  intro p e s m below meth c S hr hlk hv ls hl
  obtain ⟨hP, hK, hX⟩ := hv
  have hS : SS ev s s.heap [] := va_S.rf
  have hl : lv_has ls 2 [(0, .ref th), (1, .int l1)] := hl
  unfold g_X8_conductor at h
  refine lv_aload_n S.1 S.2.1 dX8_conductor_0 rfl (lv_at hl 0 rfl) ?_
  refine lv_iconst (v := 0) S.1 S.2.1 dX8_conductor_1 (by decide) ?_
  obtain ⟨z1, ez1, h⟩ := bd_s h
  refine pf_6_0 S E hK hP hS hth mw_3_221 dX8_conductor_2 (fun H locs hP hS => ?_)
  rw [← ez1] at hP
  refine lv_aload_n S.1 S.2.1 dX8_conductor_5 rfl (lv_at hl 0 rfl) ?_
  refine lv_iload_n S.1 S.2.1 dX8_conductor_6 rfl (lv_at hl 1 rfl) ?_
  obtain ⟨v2, ev2, h⟩ := ob_s h
  refine pm_cVr (As := [.int l1]) (rest := []) S hK hX hP hS (c_X8_isCurve l ev z1 E hth th l1 v2 ev2) vm_X8_isCurve mw_4_87 (rc_6 hK hP hth) ⟨⟨rfl, rfl⟩, by decide, by decide⟩ rfl hl.1 rfl (Nat.le_of_ble_eq_true rfl) ⟨Nat.zero_le _, Nat.zero_le _⟩ dX8_conductor_7 ?_
  refine lv_if_ne (tgt := 15) S.1 S.2.1 dX8_conductor_10 (by decide) (fun c3 => ?_) (fun c3 => ?_)
  · rw [if_neg c3] at h
    refine lv_aload_n S.1 S.2.1 dX8_conductor_15 rfl (lv_at hl 0 rfl) ?_
    refine lv_iload_n S.1 S.2.1 dX8_conductor_16 rfl (lv_at hl 1 rfl) ?_
    obtain ⟨z4, ez4, h⟩ := ob_s h
    refine pm_cVv (As := [.int l1]) (rest := []) S hK hX hP hS (c_X8_loads l ev z1 E hth th l1 z4 ez4) vm_X8_loads mw_4_91 (rc_6 hK hP hth) ⟨⟨rfl, rfl⟩, by decide, by decide⟩ rfl hl.1 rfl (Nat.le_of_ble_eq_true rfl) ⟨Nat.zero_le _, Nat.zero_le _⟩ dX8_conductor_17 (fun H locs hP hS => ?_)
    refine lv_aload_n S.1 S.2.1 dX8_conductor_20 rfl (lv_at hl 0 rfl) ?_
    refine lv_iconst (v := 0) S.1 S.2.1 dX8_conductor_21 (by decide) ?_
    obtain ⟨qv6, ev6, h⟩ := ob_s h
    obtain ⟨v6, fv6, h⟩ := bd_s h
    obtain ⟨z5, fz5, h⟩ := bd_s h
    have ev6 : g_X8_together ev z4 th (0 : Int32) = some (v6, z5) := by rw [fv6, fz5]; exact ev6
    refine pm_cVl (As := [.int (0 : Int32)]) (rest := []) S hK hX hP hS (c_X8_together l ev z4 E hth th (0 : Int32) v6 z5 ev6) vm_X8_together mw_5_68 (rc_6 hK hP hth) ⟨⟨rfl, rfl⟩, by decide, by decide⟩ rfl hl.1 rfl (Nat.le_of_ble_eq_true rfl) ⟨Nat.zero_le _, Nat.zero_le _⟩ dX8_conductor_22 (fun H locs hP hS => ?_)
    have h9 := Option.some.inj h
    exact pm_lretW S hr hlk hP hS (congrArg Prod.fst h9) (congrArg Prod.snd h9) dX8_conductor_25
  · rw [if_pos c3] at h
    refine lv_lconst (v := 0) S.1 S.2.1 dX8_conductor_13 (by decide) ?_
    have h9 := Option.some.inj h
    exact pm_lretW S hr hlk hP hS (congrArg Prod.fst h9) (congrArg Prod.snd h9) dX8_conductor_14
theorem vm_X8_conductor : pm_Vm yX8_conductor cX8_conductor 2 (some .long) 1 := ⟨mw_5_67, mw_5_65, mw_5_66, mw_1_7, by decide, by decide⟩
def g_X8_own (ev : EV) (z : PS) (th : Nat) (l1 : Int32) : Option (Int64 × PS) := bd (w32 z 120 th (0 : Int32)) (fun z1 => ob (g_X8_isCurve ev z1 th l1) (fun v2 => if v2 = 0 then (some ((-1 : Int64), z1)) else (ob (g_X8_loads ev z1 th l1) (fun z4 => ob (g_X8_together ev z4 th (1 : Int32)) (fun qv6 => bd qv6.1 (fun v6 => bd qv6.2 (fun z5 => some (v6, z5))))))))
set_option maxRecDepth 20000 in
set_option maxHeartbeats 4000000 in
theorem c_X8_own (l : Launch) (ev : EV) (z : PS) (E : EWF ev) {th : Nat} (hth : isK ev 6 th) (th_ : Nat) (l1 : Int32) (r : Int64) (z9 : PS) (h : g_X8_own ev z th l1 = some (r, z9)) : Met l yX8_own (pWs yX8_own cX8_own 2 (some .long)) (pR 8 291) (va_Pc [.ref th, .int l1] (pPe ev z)) (pQl ev r z9) 0 0 (eA ev) := by
  refine pm_of (by decide) (Nat.le_of_ble_eq_true rfl) ?_
  intro p e s m below meth c S hr hlk hv ls hl
  obtain ⟨hP, hK, hX⟩ := hv
  have hS : SS ev s s.heap [] := va_S.rf
  have hl : lv_has ls 2 [(0, .ref th), (1, .int l1)] := hl
  unfold g_X8_own at h
  refine lv_aload_n S.1 S.2.1 dX8_own_0 rfl (lv_at hl 0 rfl) ?_
  refine lv_iconst (v := 0) S.1 S.2.1 dX8_own_1 (by decide) ?_
  obtain ⟨z1, ez1, h⟩ := bd_s h
  refine pf_6_0 S E hK hP hS hth mw_3_221 dX8_own_2 (fun H locs hP hS => ?_)
  rw [← ez1] at hP
  refine lv_aload_n S.1 S.2.1 dX8_own_5 rfl (lv_at hl 0 rfl) ?_
  refine lv_iload_n S.1 S.2.1 dX8_own_6 rfl (lv_at hl 1 rfl) ?_
  obtain ⟨v2, ev2, h⟩ := ob_s h
  refine pm_cVr (As := [.int l1]) (rest := []) S hK hX hP hS (c_X8_isCurve l ev z1 E hth th l1 v2 ev2) vm_X8_isCurve mw_4_87 (rc_6 hK hP hth) ⟨⟨rfl, rfl⟩, by decide, by decide⟩ rfl hl.1 rfl (Nat.le_of_ble_eq_true rfl) ⟨Nat.zero_le _, Nat.zero_le _⟩ dX8_own_7 ?_
  refine lv_if_ne (tgt := 17) S.1 S.2.1 dX8_own_10 (by decide) (fun c3 => ?_) (fun c3 => ?_)
  · rw [if_neg c3] at h
    refine lv_aload_n S.1 S.2.1 dX8_own_17 rfl (lv_at hl 0 rfl) ?_
    refine lv_iload_n S.1 S.2.1 dX8_own_18 rfl (lv_at hl 1 rfl) ?_
    obtain ⟨z4, ez4, h⟩ := ob_s h
    refine pm_cVv (As := [.int l1]) (rest := []) S hK hX hP hS (c_X8_loads l ev z1 E hth th l1 z4 ez4) vm_X8_loads mw_4_91 (rc_6 hK hP hth) ⟨⟨rfl, rfl⟩, by decide, by decide⟩ rfl hl.1 rfl (Nat.le_of_ble_eq_true rfl) ⟨Nat.zero_le _, Nat.zero_le _⟩ dX8_own_19 (fun H locs hP hS => ?_)
    refine lv_aload_n S.1 S.2.1 dX8_own_22 rfl (lv_at hl 0 rfl) ?_
    refine lv_iconst (v := 1) S.1 S.2.1 dX8_own_23 (by decide) ?_
    obtain ⟨qv6, ev6, h⟩ := ob_s h
    obtain ⟨v6, fv6, h⟩ := bd_s h
    obtain ⟨z5, fz5, h⟩ := bd_s h
    have ev6 : g_X8_together ev z4 th (1 : Int32) = some (v6, z5) := by rw [fv6, fz5]; exact ev6
    refine pm_cVl (As := [.int (1 : Int32)]) (rest := []) S hK hX hP hS (c_X8_together l ev z4 E hth th (1 : Int32) v6 z5 ev6) vm_X8_together mw_5_68 (rc_6 hK hP hth) ⟨⟨rfl, rfl⟩, by decide, by decide⟩ rfl hl.1 rfl (Nat.le_of_ble_eq_true rfl) ⟨Nat.zero_le _, Nat.zero_le _⟩ dX8_own_24 (fun H locs hP hS => ?_)
    have h9 := Option.some.inj h
    exact pm_lretW S hr hlk hP hS (congrArg Prod.fst h9) (congrArg Prod.snd h9) dX8_own_27
  · rw [if_pos c3] at h
    refine pm_ldc2 S mw_5_76 dX8_own_13 ?_
    have h9 := Option.some.inj h
    exact pm_lretW S hr hlk hP hS (congrArg Prod.fst h9) (congrArg Prod.snd h9) dX8_own_16
theorem vm_X8_own : pm_Vm yX8_own cX8_own 2 (some .long) 1 := ⟨mw_5_75, mw_5_73, mw_5_74, mw_1_7, by decide, by decide⟩
def q_X8_areOne_48 (ev : EV) (th : Nat) : Nat → Int32 → Int32 → PS → Option (Int32 × PS)
  | 0, _, _, _ => none
  | n + 1, l3, l4, z => if (5 : Int32) ≤ l4 then (ck (l3 = 0 ∨ l3 = 1) (some (l3, z))) else (if l3 = 0 then (bd (l4 + (1 : Int32)) (fun v14 => q_X8_areOne_48 ev th n (0 : Int32) v14 z)) else (ck (inB l4 5) (ck (inB l4 5) (if (rJ z (rf ev 132 th) l4.toNatClampNeg) = (rJ z (rf ev 123 th) l4.toNatClampNeg) then (bd (l4 + (1 : Int32)) (fun v19 => q_X8_areOne_48 ev th n (1 : Int32) v19 z)) else (bd (l4 + (1 : Int32)) (fun v18 => q_X8_areOne_48 ev th n (0 : Int32) v18 z))))))
set_option maxRecDepth 20000 in
set_option maxHeartbeats 4000000 in
theorem w_X8_areOne_48 {ev : EV} {th : Nat} {p : Program} {l : Launch} {e : Env} {s : State} {m : MethodId} {args : Array Value} {below : List Frame} {meth : Method} {c : Code} {r : Int32} {z9 : PS} (S : CallFix p m c cX8_areOne 5 s args gT RX8) (hr : meth.sig.returnType = (some .boolean)) (hlk : meth.locks = false) (E : EWF ev) (hK : KK ev s) (hX : pXt ev s) (hth : isK ev 6 th) : ∀ (n : Nat), ∀ (l3 : Int32) (l4 : Int32) (z : PS) (ls : Array Slot) (H : Heap) (locs : List Loc), q_X8_areOne_48 ev th n l3 l4 z = some (r, z9) → lv_has ls 5 [(0, .ref th), (3, .int l3), (4, .int l4)] → Wd ev z H → SS ev s H locs → W p l e (pR 9 321) s m args below meth c H locs 0 0 (MQ below (pQi ev r z9) args s 0 0 (eA ev)) (F0 m 48 ls []) := by
  intro n
  induction n with
  | zero => intro l3 l4 z ls H locs h; cases h
  | succ n ih =>
    intro l3 l4 z ls H locs h hl hP hS
    rw [q_X8_areOne_48] at h
    refine lv_iload S.1 S.2.1 dX8_areOne_48 (lv_at hl 2 rfl) ?_
    refine lv_iconst (v := 5) S.1 S.2.1 dX8_areOne_50 (by decide) ?_
    refine lv_icmp_ge (tgt := 88) S.1 S.2.1 dX8_areOne_51 (by decide) (fun c11 => ?_) (fun c11 => ?_)
    · rw [if_pos c11] at h
      refine lv_iload_n S.1 S.2.1 dX8_areOne_88 rfl (lv_at hl 1 rfl) ?_
      obtain ⟨hc12, h⟩ := ck_s h
      have h9 := Option.some.inj h
      exact pm_zretW S hr hlk hc12 hP hS (congrArg Prod.fst h9) (congrArg Prod.snd h9) dX8_areOne_89
    · rw [if_neg c11] at h
      refine lv_iload_n S.1 S.2.1 dX8_areOne_54 rfl (lv_at hl 1 rfl) ?_
      refine lv_if_eq (tgt := 80) S.1 S.2.1 dX8_areOne_55 (by decide) (fun c13 => ?_) (fun c13 => ?_)
      · rw [if_pos c13] at h
        refine lv_iconst (v := 0) S.1 S.2.1 dX8_areOne_80 (by decide) ?_
        refine lv_istore_n (lv' := [(3, .int (0 : Int32)), (0, .ref th), (4, .int l4)]) S.1 S.2.1 dX8_areOne_81 rfl hl (by decide) rfl (fun ls hl => ?_)
        obtain ⟨v14, ev14, h⟩ := bd_s h
        refine lv_iinc (v := v14) (lv' := [(4, .int v14), (3, .int (0 : Int32)), (0, .ref th)]) S.1 S.2.1 dX8_areOne_82 hl (k := 2) rfl (by rw [ev14]; rfl) (by decide) rfl (fun ls hl => ?_)
        refine lv_goto (tgt := 48) S.1 S.2.1 dX8_areOne_85 (by decide) ?_
        exact ih (0 : Int32) v14 z ls _ _ h (lv_sub hl [2, 1, 0] rfl) hP hS
      · rw [if_neg c13] at h
        refine lv_aload_n S.1 S.2.1 dX8_areOne_58 rfl (lv_at hl 0 rfl) ?_
        refine gf_6_12 S hK hP hth mw_3_233 dX8_areOne_59 ?_
        refine lv_iload S.1 S.2.1 dX8_areOne_62 (lv_at hl 2 rfl) ?_
        obtain ⟨hc15, h⟩ := ck_s h
        refine al_J S hK hP (E_6_12 E hth) (by rw [N_6_12 E hth]; exact hc15) dX8_areOne_64 ?_
        refine lv_aload_n S.1 S.2.1 dX8_areOne_65 rfl (lv_at hl 0 rfl) ?_
        refine gf_6_3 S hK hP hth mw_3_224 dX8_areOne_66 ?_
        refine lv_iload S.1 S.2.1 dX8_areOne_69 (lv_at hl 2 rfl) ?_
        obtain ⟨hc16, h⟩ := ck_s h
        refine al_J S hK hP (E_6_3 E hth) (by rw [N_6_3 E hth]; exact hc16) dX8_areOne_71 ?_
        refine pm_lne (tgt := 80) S dX8_areOne_72 dX8_areOne_73 (by decide) (fun c17 => ?_) (fun c17 => ?_)
        · rw [if_neg c17] at h
          refine lv_iconst (v := 0) S.1 S.2.1 dX8_areOne_80 (by decide) ?_
          refine lv_istore_n (lv' := [(3, .int (0 : Int32)), (0, .ref th), (4, .int l4)]) S.1 S.2.1 dX8_areOne_81 rfl hl (by decide) rfl (fun ls hl => ?_)
          obtain ⟨v18, ev18, h⟩ := bd_s h
          refine lv_iinc (v := v18) (lv' := [(4, .int v18), (3, .int (0 : Int32)), (0, .ref th)]) S.1 S.2.1 dX8_areOne_82 hl (k := 2) rfl (by rw [ev18]; rfl) (by decide) rfl (fun ls hl => ?_)
          refine lv_goto (tgt := 48) S.1 S.2.1 dX8_areOne_85 (by decide) ?_
          exact ih (0 : Int32) v18 z ls _ _ h (lv_sub hl [2, 1, 0] rfl) hP hS
        · rw [if_pos c17] at h
          refine lv_iconst (v := 1) S.1 S.2.1 dX8_areOne_76 (by decide) ?_
          refine lv_goto (tgt := 81) S.1 S.2.1 dX8_areOne_77 (by decide) ?_
          refine lv_istore_n (lv' := [(3, .int (1 : Int32)), (0, .ref th), (4, .int l4)]) S.1 S.2.1 dX8_areOne_81 rfl hl (by decide) rfl (fun ls hl => ?_)
          obtain ⟨v19, ev19, h⟩ := bd_s h
          refine lv_iinc (v := v19) (lv' := [(4, .int v19), (3, .int (1 : Int32)), (0, .ref th)]) S.1 S.2.1 dX8_areOne_82 hl (k := 2) rfl (by rw [ev19]; rfl) (by decide) rfl (fun ls hl => ?_)
          refine lv_goto (tgt := 48) S.1 S.2.1 dX8_areOne_85 (by decide) ?_
          exact ih (1 : Int32) v19 z ls _ _ h (lv_sub hl [2, 1, 0] rfl) hP hS
def q_X8_areOne_11 (ev : EV) (th : Nat) : Nat → Int32 → Int32 → PS → Option (Int32 × PS)
  | 0, _, _, _ => none
  | n + 1, l2, l3, z => if (5 : Int32) ≤ l3 then (ob (g_X8_loads ev z th l2) (fun z4 => ob (g_X8_goesLeast ev z4 th) (fun z5 => q_X8_areOne_48 ev th FU (1 : Int32) (0 : Int32) z5))) else (ck (inB l3 5) (bd ((rJ z (rf ev 123 th) l3.toNatClampNeg)) (fun v7 => ck (inB l3 5) (bd (wJ z (rf ev 132 th) l3.toNatClampNeg v7) (fun z9 => bd (l3 + (1 : Int32)) (fun v10 => q_X8_areOne_11 ev th n l2 v10 z9))))))
set_option maxRecDepth 20000 in
set_option maxHeartbeats 4000000 in
theorem w_X8_areOne_11 {ev : EV} {th : Nat} {p : Program} {l : Launch} {e : Env} {s : State} {m : MethodId} {args : Array Value} {below : List Frame} {meth : Method} {c : Code} {r : Int32} {z9 : PS} (S : CallFix p m c cX8_areOne 5 s args gT RX8) (hr : meth.sig.returnType = (some .boolean)) (hlk : meth.locks = false) (E : EWF ev) (hK : KK ev s) (hX : pXt ev s) (hth : isK ev 6 th) : ∀ (n : Nat), ∀ (l2 : Int32) (l3 : Int32) (z : PS) (ls : Array Slot) (H : Heap) (locs : List Loc), q_X8_areOne_11 ev th n l2 l3 z = some (r, z9) → lv_has ls 5 [(0, .ref th), (2, .int l2), (3, .int l3)] → Wd ev z H → SS ev s H locs → W p l e (pR 9 321) s m args below meth c H locs 0 0 (MQ below (pQi ev r z9) args s 0 0 (eA ev)) (F0 m 11 ls []) := by
  intro n
  induction n with
  | zero => intro l2 l3 z ls H locs h; cases h
  | succ n ih =>
    intro l2 l3 z ls H locs h hl hP hS
    rw [q_X8_areOne_11] at h
    refine lv_iload_n S.1 S.2.1 dX8_areOne_11 rfl (lv_at hl 2 rfl) ?_
    refine lv_iconst (v := 5) S.1 S.2.1 dX8_areOne_12 (by decide) ?_
    refine lv_icmp_ge (tgt := 34) S.1 S.2.1 dX8_areOne_13 (by decide) (fun c3 => ?_) (fun c3 => ?_)
    · rw [if_pos c3] at h
      refine lv_aload_n S.1 S.2.1 dX8_areOne_34 rfl (lv_at hl 0 rfl) ?_
      refine lv_iload_n S.1 S.2.1 dX8_areOne_35 rfl (lv_at hl 1 rfl) ?_
      obtain ⟨z4, ez4, h⟩ := ob_s h
      refine pm_cVv (As := [.int l2]) (rest := []) S hK hX hP hS (c_X8_loads l ev z E hth th l2 z4 ez4) vm_X8_loads mw_4_91 (rc_6 hK hP hth) ⟨⟨rfl, rfl⟩, by decide, by decide⟩ rfl hl.1 rfl (Nat.le_of_ble_eq_true rfl) ⟨Nat.zero_le _, Nat.zero_le _⟩ dX8_areOne_36 (fun H locs hP hS => ?_)
      refine lv_aload_n S.1 S.2.1 dX8_areOne_39 rfl (lv_at hl 0 rfl) ?_
      obtain ⟨z5, ez5, h⟩ := ob_s h
      refine pm_cVv (As := []) (rest := []) S hK hX hP hS (c_X8_goesLeast l ev z4 E hth th z5 ez5) vm_X8_goesLeast mw_4_126 (rc_6 hK hP hth) ⟨⟨rfl, rfl⟩, by decide, by decide⟩ rfl hl.1 rfl (Nat.le_of_ble_eq_true rfl) ⟨Nat.zero_le _, Nat.zero_le _⟩ dX8_areOne_40 (fun H locs hP hS => ?_)
      refine lv_iconst (v := 1) S.1 S.2.1 dX8_areOne_43 (by decide) ?_
      refine lv_istore_n (lv' := [(3, .int (1 : Int32)), (0, .ref th), (2, .int l2)]) S.1 S.2.1 dX8_areOne_44 rfl hl (by decide) rfl (fun ls hl => ?_)
      refine lv_iconst (v := 0) S.1 S.2.1 dX8_areOne_45 (by decide) ?_
      refine lv_istore (lv' := [(4, .int (0 : Int32)), (3, .int (1 : Int32)), (0, .ref th), (2, .int l2)]) S.1 S.2.1 dX8_areOne_46 hl (by decide) rfl (fun ls hl => ?_)
      exact w_X8_areOne_48 S hr hlk E hK hX hth FU (1 : Int32) (0 : Int32) z5 ls _ _ h (lv_sub hl [2, 1, 0] rfl) hP hS
    · rw [if_neg c3] at h
      refine lv_aload_n S.1 S.2.1 dX8_areOne_16 rfl (lv_at hl 0 rfl) ?_
      refine gf_6_12 S hK hP hth mw_3_233 dX8_areOne_17 ?_
      refine lv_iload_n S.1 S.2.1 dX8_areOne_20 rfl (lv_at hl 2 rfl) ?_
      refine lv_aload_n S.1 S.2.1 dX8_areOne_21 rfl (lv_at hl 0 rfl) ?_
      refine gf_6_3 S hK hP hth mw_3_224 dX8_areOne_22 ?_
      refine lv_iload_n S.1 S.2.1 dX8_areOne_25 rfl (lv_at hl 2 rfl) ?_
      obtain ⟨hc6, h⟩ := ck_s h
      refine al_J S hK hP (E_6_3 E hth) (by rw [N_6_3 E hth]; exact hc6) dX8_areOne_26 ?_
      obtain ⟨v7, ev7, h⟩ := bd_s h
      refine pm_nmL ev7 ?_
      obtain ⟨hc8, h⟩ := ck_s h
      obtain ⟨z9, ez9, h⟩ := bd_s h
      refine as_J S E hK hP hS (E_6_12 E hth) (by rw [N_6_12 E hth]; exact hc8) dX8_areOne_27 (fun H locs hP hS => ?_)
      rw [← ez9] at hP
      obtain ⟨v10, ev10, h⟩ := bd_s h
      refine lv_iinc (v := v10) (lv' := [(3, .int v10), (0, .ref th), (2, .int l2)]) S.1 S.2.1 dX8_areOne_28 hl (k := 2) rfl (by rw [ev10]; rfl) (by decide) rfl (fun ls hl => ?_)
      refine lv_goto (tgt := 11) S.1 S.2.1 dX8_areOne_31 (by decide) ?_
      exact ih l2 v10 z9 ls _ _ h (lv_sub hl [1, 2, 0] rfl) hP hS
def g_X8_areOne (ev : EV) (z : PS) (th : Nat) (l1 : Int32) (l2 : Int32) : Option (Int32 × PS) := ob (g_X8_loads ev z th l1) (fun z1 => ob (g_X8_goesLeast ev z1 th) (fun z2 => q_X8_areOne_11 ev th FU l2 (0 : Int32) z2))
set_option maxRecDepth 20000 in
set_option maxHeartbeats 4000000 in
theorem c_X8_areOne (l : Launch) (ev : EV) (z : PS) (E : EWF ev) {th : Nat} (hth : isK ev 6 th) (th_ : Nat) (l1 : Int32) (l2 : Int32) (r : Int32) (z9 : PS) (h : g_X8_areOne ev z th l1 l2 = some (r, z9)) : Met l yX8_areOne (pWs yX8_areOne cX8_areOne 5 (some .boolean)) (pR 9 321) (va_Pc [.ref th, .int l1, .int l2] (pPe ev z)) (pQi ev r z9) 0 0 (eA ev) := by
  refine pm_of (by decide) (Nat.le_of_ble_eq_true rfl) ?_
  intro p e s m below meth c S hr hlk hv ls hl
  obtain ⟨hP, hK, hX⟩ := hv
  have hS : SS ev s s.heap [] := va_S.rf
  have hl : lv_has ls 5 [(0, .ref th), (1, .int l1), (2, .int l2)] := hl
  unfold g_X8_areOne at h
  refine lv_aload_n S.1 S.2.1 dX8_areOne_0 rfl (lv_at hl 0 rfl) ?_
  refine lv_iload_n S.1 S.2.1 dX8_areOne_1 rfl (lv_at hl 1 rfl) ?_
  obtain ⟨z1, ez1, h⟩ := ob_s h
  refine pm_cVv (As := [.int l1]) (rest := []) S hK hX hP hS (c_X8_loads l ev z E hth th l1 z1 ez1) vm_X8_loads mw_4_91 (rc_6 hK hP hth) ⟨⟨rfl, rfl⟩, by decide, by decide⟩ rfl hl.1 rfl (Nat.le_of_ble_eq_true rfl) ⟨Nat.zero_le _, Nat.zero_le _⟩ dX8_areOne_2 (fun H locs hP hS => ?_)
  refine lv_aload_n S.1 S.2.1 dX8_areOne_5 rfl (lv_at hl 0 rfl) ?_
  obtain ⟨z2, ez2, h⟩ := ob_s h
  refine pm_cVv (As := []) (rest := []) S hK hX hP hS (c_X8_goesLeast l ev z1 E hth th z2 ez2) vm_X8_goesLeast mw_4_126 (rc_6 hK hP hth) ⟨⟨rfl, rfl⟩, by decide, by decide⟩ rfl hl.1 rfl (Nat.le_of_ble_eq_true rfl) ⟨Nat.zero_le _, Nat.zero_le _⟩ dX8_areOne_6 (fun H locs hP hS => ?_)
  refine lv_iconst (v := 0) S.1 S.2.1 dX8_areOne_9 (by decide) ?_
  refine lv_istore_n (lv' := [(3, .int (0 : Int32)), (0, .ref th), (1, .int l1), (2, .int l2)]) S.1 S.2.1 dX8_areOne_10 rfl hl (by decide) rfl (fun ls hl => ?_)
  exact w_X8_areOne_11 S hr hlk E hK hX hth FU l2 (0 : Int32) z2 ls _ _ h (lv_sub hl [1, 3, 0] rfl) hP hS
theorem vm_X8_areOne : pm_Vm yX8_areOne cX8_areOne 5 (some .boolean) 2 := ⟨mw_5_84, mw_5_83, ms_743, mw_1_7, by decide, by decide⟩
def g_X8_one (ev : EV) (z : PS) (th : Nat) (l1 : Int32) (l2 : Int32) : Option (Int32 × PS) := bd (w32 z 120 th (0 : Int32)) (fun z1 => ob (g_X8_isCurve ev z1 th l1) (fun v2 => if v2 = 0 then (some ((0 : Int32), z1)) else (ob (g_X8_isCurve ev z1 th l2) (fun v4 => if v4 = 0 then (some ((0 : Int32), z1)) else (ob (g_X8_areOne ev z1 th l1 l2) (fun qv7 => bd qv7.1 (fun v7 => bd qv7.2 (fun z6 => if v7 = 0 then (some ((0 : Int32), z6)) else (some ((1 : Int32), z6))))))))))
set_option maxRecDepth 20000 in
set_option maxHeartbeats 4000000 in
theorem c_X8_one (l : Launch) (ev : EV) (z : PS) (E : EWF ev) {th : Nat} (hth : isK ev 6 th) (th_ : Nat) (l1 : Int32) (l2 : Int32) (r : Int32) (z9 : PS) (h : g_X8_one ev z th l1 l2 = some (r, z9)) : Met l yX8_one (pWs yX8_one cX8_one 3 (some .boolean)) (pR 10 357) (va_Pc [.ref th, .int l1, .int l2] (pPe ev z)) (pQi ev r z9) 0 0 (eA ev) := by
  refine pm_of (by decide) (Nat.le_of_ble_eq_true rfl) ?_
  intro p e s m below meth c S hr hlk hv ls hl
  obtain ⟨hP, hK, hX⟩ := hv
  have hS : SS ev s s.heap [] := va_S.rf
  have hl : lv_has ls 3 [(0, .ref th), (1, .int l1), (2, .int l2)] := hl
  unfold g_X8_one at h
  refine lv_aload_n S.1 S.2.1 dX8_one_0 rfl (lv_at hl 0 rfl) ?_
  refine lv_iconst (v := 0) S.1 S.2.1 dX8_one_1 (by decide) ?_
  obtain ⟨z1, ez1, h⟩ := bd_s h
  refine pf_6_0 S E hK hP hS hth mw_3_221 dX8_one_2 (fun H locs hP hS => ?_)
  rw [← ez1] at hP
  refine lv_aload_n S.1 S.2.1 dX8_one_5 rfl (lv_at hl 0 rfl) ?_
  refine lv_iload_n S.1 S.2.1 dX8_one_6 rfl (lv_at hl 1 rfl) ?_
  obtain ⟨v2, ev2, h⟩ := ob_s h
  refine pm_cVr (As := [.int l1]) (rest := []) S hK hX hP hS (c_X8_isCurve l ev z1 E hth th l1 v2 ev2) vm_X8_isCurve mw_4_87 (rc_6 hK hP hth) ⟨⟨rfl, rfl⟩, by decide, by decide⟩ rfl hl.1 rfl (Nat.le_of_ble_eq_true rfl) ⟨Nat.zero_le _, Nat.zero_le _⟩ dX8_one_7 ?_
  refine lv_if_eq (tgt := 34) S.1 S.2.1 dX8_one_10 (by decide) (fun c3 => ?_) (fun c3 => ?_)
  · rw [if_pos c3] at h
    refine lv_iconst (v := 0) S.1 S.2.1 dX8_one_34 (by decide) ?_
    have h9 := Option.some.inj h
    exact pm_zretW S hr hlk (Or.inl rfl) hP hS (congrArg Prod.fst h9) (congrArg Prod.snd h9) dX8_one_35
  · rw [if_neg c3] at h
    refine lv_aload_n S.1 S.2.1 dX8_one_13 rfl (lv_at hl 0 rfl) ?_
    refine lv_iload_n S.1 S.2.1 dX8_one_14 rfl (lv_at hl 2 rfl) ?_
    obtain ⟨v4, ev4, h⟩ := ob_s h
    refine pm_cVr (As := [.int l2]) (rest := []) S hK hX hP hS (c_X8_isCurve l ev z1 E hth th l2 v4 ev4) vm_X8_isCurve mw_4_87 (rc_6 hK hP hth) ⟨⟨rfl, rfl⟩, by decide, by decide⟩ rfl hl.1 rfl (Nat.le_of_ble_eq_true rfl) ⟨Nat.zero_le _, Nat.zero_le _⟩ dX8_one_15 ?_
    refine lv_if_eq (tgt := 34) S.1 S.2.1 dX8_one_18 (by decide) (fun c5 => ?_) (fun c5 => ?_)
    · rw [if_pos c5] at h
      refine lv_iconst (v := 0) S.1 S.2.1 dX8_one_34 (by decide) ?_
      have h9 := Option.some.inj h
      exact pm_zretW S hr hlk (Or.inl rfl) hP hS (congrArg Prod.fst h9) (congrArg Prod.snd h9) dX8_one_35
    · rw [if_neg c5] at h
      refine lv_aload_n S.1 S.2.1 dX8_one_21 rfl (lv_at hl 0 rfl) ?_
      refine lv_iload_n S.1 S.2.1 dX8_one_22 rfl (lv_at hl 1 rfl) ?_
      refine lv_iload_n S.1 S.2.1 dX8_one_23 rfl (lv_at hl 2 rfl) ?_
      obtain ⟨qv7, ev7, h⟩ := ob_s h
      obtain ⟨v7, fv7, h⟩ := bd_s h
      obtain ⟨z6, fz6, h⟩ := bd_s h
      have ev7 : g_X8_areOne ev z1 th l1 l2 = some (v7, z6) := by rw [fv7, fz6]; exact ev7
      refine pm_cVi (As := [.int l1, .int l2]) (rest := []) S hK hX hP hS (c_X8_areOne l ev z1 E hth th l1 l2 v7 z6 ev7) vm_X8_areOne mw_5_81 (rc_6 hK hP hth) ⟨⟨rfl, rfl⟩, by decide, by decide⟩ rfl hl.1 rfl (Nat.le_of_ble_eq_true rfl) ⟨Nat.zero_le _, Nat.zero_le _⟩ dX8_one_24 (fun H locs hP hS => ?_)
      refine lv_if_eq (tgt := 34) S.1 S.2.1 dX8_one_27 (by decide) (fun c8 => ?_) (fun c8 => ?_)
      · rw [if_pos c8] at h
        refine lv_iconst (v := 0) S.1 S.2.1 dX8_one_34 (by decide) ?_
        have h9 := Option.some.inj h
        exact pm_zretW S hr hlk (Or.inl rfl) hP hS (congrArg Prod.fst h9) (congrArg Prod.snd h9) dX8_one_35
      · rw [if_neg c8] at h
        refine lv_iconst (v := 1) S.1 S.2.1 dX8_one_30 (by decide) ?_
        refine lv_goto (tgt := 35) S.1 S.2.1 dX8_one_31 (by decide) ?_
        have h9 := Option.some.inj h
        exact pm_zretW S hr hlk (Or.inr rfl) hP hS (congrArg Prod.fst h9) (congrArg Prod.snd h9) dX8_one_35
theorem vm_X8_one : pm_Vm yX8_one cX8_one 3 (some .boolean) 2 := ⟨mw_5_80, mw_5_78, mw_5_79, mw_1_7, by decide, by decide⟩
def q_X8_pointsOf_15 (ev : EV) (z : PS) (th : Nat) (k5 : (Int64 → Int32 → Int64 → Option Int32)) : Nat → Int64 → Int32 → Int64 → Int64 → Option Int32
  | 0, _, _, _, _ => none
  | n + 1, l1, l3, l4, l6 => if l1 ≤ l6 then (bd ((l4 + (1 : Int64))) (fun v3 => k5 l1 l3 v3)) else (bd ((((((((l6 * l6) + (((rJ z (rf ev 123 th) 0) * l4) * l6)) + ((rJ z (rf ev 123 th) 2) * l6)) - ((l4 * l4) * l4)) - (((rJ z (rf ev 123 th) 1) * l4) * l4)) - ((rJ z (rf ev 123 th) 3) * l4)) - (rJ z (rf ev 123 th) 4))) (fun v4 => ck (¬ l1 = 0) (if (jr64 v4 l1) = (0 : Int64) then (bd ((l3 + (1 : Int32))) (fun v9 => bd ((l6 + (1 : Int64))) (fun v10 => q_X8_pointsOf_15 ev z th k5 n l1 v9 l4 v10))) else (bd ((l3 + (0 : Int32))) (fun v7 => bd ((l6 + (1 : Int64))) (fun v8 => q_X8_pointsOf_15 ev z th k5 n l1 v7 l4 v8))))))
set_option maxRecDepth 20000 in
set_option maxHeartbeats 4000000 in
theorem w_X8_pointsOf_15 {ev : EV} {z : PS} {th : Nat} {p : Program} {l : Launch} {e : Env} {s : State} {m : MethodId} {args : Array Value} {below : List Frame} {meth : Method} {c : Code} {r : Int32} (S : CallFix p m c cX8_pointsOf 10 s args gT RX8) (hr : meth.sig.returnType = (some .int)) (hlk : meth.locks = false) (E : EWF ev) (hK : KK ev s) (hX : pXt ev s) (hP : Wd ev z s.heap) (hth : isK ev 6 th) (k5 : (Int64 → Int32 → Int64 → Option Int32)) (hk5 : ∀ (l1 : Int64) (l3 : Int32) (l4 : Int64) (ls : Array Slot), k5 l1 l3 l4 = some r → lv_has ls 10 [(0, .ref th), (1, .long l1), (3, .int l3), (4, .long l4)] → W p l e (pR 0 0) s m args below meth c s.heap [] 0 0 (MQ below (k2_QcV (.int r)) args s 0 0 (fun _ => False)) (F0 m 5 ls [])) : ∀ (n : Nat), ∀ (l1 : Int64) (l3 : Int32) (l4 : Int64) (l6 : Int64) (ls : Array Slot), q_X8_pointsOf_15 ev z th k5 n l1 l3 l4 l6 = some r → lv_has ls 10 [(0, .ref th), (1, .long l1), (3, .int l3), (4, .long l4), (6, .long l6)] → W p l e (pR 0 0) s m args below meth c s.heap [] 0 0 (MQ below (k2_QcV (.int r)) args s 0 0 (fun _ => False)) (F0 m 15 ls []) := by
  intro n
  induction n with
  | zero => intro l1 l3 l4 l6 ls h; cases h
  | succ n ih =>
    intro l1 l3 l4 l6 ls h hl
    rw [q_X8_pointsOf_15] at h
    refine lv_lload S.1 S.2.1 dX8_pointsOf_15 (lv_at hl 4 rfl) ?_
    refine lv_lload_n S.1 S.2.1 dX8_pointsOf_17 rfl (lv_at hl 1 rfl) ?_
    refine pm_lge (tgt := 117) S dX8_pointsOf_18 dX8_pointsOf_19 (by decide) (fun c2 => ?_) (fun c2 => ?_)
    · rw [if_pos c2] at h
      refine lv_lload S.1 S.2.1 dX8_pointsOf_117 (lv_at hl 3 rfl) ?_
      refine lv_lconst (v := 1) S.1 S.2.1 dX8_pointsOf_119 (by decide) ?_
      refine lv_ladd S.1 S.2.1 dX8_pointsOf_120 ?_
      obtain ⟨v3, ev3, h⟩ := bd_s h
      refine pm_nmL ev3 ?_
      refine lv_lstore (lv' := [(4, .long v3), (0, .ref th), (1, .long l1), (3, .int l3), (6, .long l6)]) S.1 S.2.1 dX8_pointsOf_121 hl (by decide) rfl (fun ls hl => ?_)
      refine lv_goto (tgt := 5) S.1 S.2.1 dX8_pointsOf_123 (by decide) ?_
      exact hk5 l1 l3 v3 ls h (lv_sub hl [1, 2, 3, 0] rfl)
    · rw [if_neg c2] at h
      refine lv_lload S.1 S.2.1 dX8_pointsOf_22 (lv_at hl 4 rfl) ?_
      refine lv_lload S.1 S.2.1 dX8_pointsOf_24 (lv_at hl 4 rfl) ?_
      refine lv_lmul S.1 S.2.1 dX8_pointsOf_26 ?_
      refine lv_aload_n S.1 S.2.1 dX8_pointsOf_27 rfl (lv_at hl 0 rfl) ?_
      refine gf_6_3 S hK hP hth mw_3_224 dX8_pointsOf_28 ?_
      refine lv_iconst (v := 0) S.1 S.2.1 dX8_pointsOf_31 (by decide) ?_
      refine al_J S hK hP (E_6_3 E hth) (by rw [N_6_3 E hth]; decide) dX8_pointsOf_32 ?_
      refine pm_nmL (v := (rJ z (rf ev 123 th) 0)) rfl ?_
      refine lv_lload S.1 S.2.1 dX8_pointsOf_33 (lv_at hl 3 rfl) ?_
      refine lv_lmul S.1 S.2.1 dX8_pointsOf_35 ?_
      refine lv_lload S.1 S.2.1 dX8_pointsOf_36 (lv_at hl 4 rfl) ?_
      refine lv_lmul S.1 S.2.1 dX8_pointsOf_38 ?_
      refine lv_ladd S.1 S.2.1 dX8_pointsOf_39 ?_
      refine lv_aload_n S.1 S.2.1 dX8_pointsOf_40 rfl (lv_at hl 0 rfl) ?_
      refine gf_6_3 S hK hP hth mw_3_224 dX8_pointsOf_41 ?_
      refine lv_iconst (v := 2) S.1 S.2.1 dX8_pointsOf_44 (by decide) ?_
      refine al_J S hK hP (E_6_3 E hth) (by rw [N_6_3 E hth]; decide) dX8_pointsOf_45 ?_
      refine pm_nmL (v := (rJ z (rf ev 123 th) 2)) rfl ?_
      refine lv_lload S.1 S.2.1 dX8_pointsOf_46 (lv_at hl 4 rfl) ?_
      refine lv_lmul S.1 S.2.1 dX8_pointsOf_48 ?_
      refine lv_ladd S.1 S.2.1 dX8_pointsOf_49 ?_
      refine lv_lload S.1 S.2.1 dX8_pointsOf_50 (lv_at hl 3 rfl) ?_
      refine lv_lload S.1 S.2.1 dX8_pointsOf_52 (lv_at hl 3 rfl) ?_
      refine lv_lmul S.1 S.2.1 dX8_pointsOf_54 ?_
      refine lv_lload S.1 S.2.1 dX8_pointsOf_55 (lv_at hl 3 rfl) ?_
      refine lv_lmul S.1 S.2.1 dX8_pointsOf_57 ?_
      refine lv_lsub S.1 S.2.1 dX8_pointsOf_58 ?_
      refine lv_aload_n S.1 S.2.1 dX8_pointsOf_59 rfl (lv_at hl 0 rfl) ?_
      refine gf_6_3 S hK hP hth mw_3_224 dX8_pointsOf_60 ?_
      refine lv_iconst (v := 1) S.1 S.2.1 dX8_pointsOf_63 (by decide) ?_
      refine al_J S hK hP (E_6_3 E hth) (by rw [N_6_3 E hth]; decide) dX8_pointsOf_64 ?_
      refine pm_nmL (v := (rJ z (rf ev 123 th) 1)) rfl ?_
      refine lv_lload S.1 S.2.1 dX8_pointsOf_65 (lv_at hl 3 rfl) ?_
      refine lv_lmul S.1 S.2.1 dX8_pointsOf_67 ?_
      refine lv_lload S.1 S.2.1 dX8_pointsOf_68 (lv_at hl 3 rfl) ?_
      refine lv_lmul S.1 S.2.1 dX8_pointsOf_70 ?_
      refine lv_lsub S.1 S.2.1 dX8_pointsOf_71 ?_
      refine lv_aload_n S.1 S.2.1 dX8_pointsOf_72 rfl (lv_at hl 0 rfl) ?_
      refine gf_6_3 S hK hP hth mw_3_224 dX8_pointsOf_73 ?_
      refine lv_iconst (v := 3) S.1 S.2.1 dX8_pointsOf_76 (by decide) ?_
      refine al_J S hK hP (E_6_3 E hth) (by rw [N_6_3 E hth]; decide) dX8_pointsOf_77 ?_
      refine pm_nmL (v := (rJ z (rf ev 123 th) 3)) rfl ?_
      refine lv_lload S.1 S.2.1 dX8_pointsOf_78 (lv_at hl 3 rfl) ?_
      refine lv_lmul S.1 S.2.1 dX8_pointsOf_80 ?_
      refine lv_lsub S.1 S.2.1 dX8_pointsOf_81 ?_
      refine lv_aload_n S.1 S.2.1 dX8_pointsOf_82 rfl (lv_at hl 0 rfl) ?_
      refine gf_6_3 S hK hP hth mw_3_224 dX8_pointsOf_83 ?_
      refine lv_iconst (v := 4) S.1 S.2.1 dX8_pointsOf_86 (by decide) ?_
      refine al_J S hK hP (E_6_3 E hth) (by rw [N_6_3 E hth]; decide) dX8_pointsOf_87 ?_
      refine pm_nmL (v := (rJ z (rf ev 123 th) 4)) rfl ?_
      refine lv_lsub S.1 S.2.1 dX8_pointsOf_88 ?_
      obtain ⟨v4, ev4, h⟩ := bd_s h
      refine pm_nmL ev4 ?_
      refine lv_lstore (lv' := [(8, .long v4), (0, .ref th), (1, .long l1), (3, .int l3), (4, .long l4), (6, .long l6)]) S.1 S.2.1 dX8_pointsOf_89 hl (by decide) rfl (fun ls hl => ?_)
      refine lv_iload_n S.1 S.2.1 dX8_pointsOf_91 rfl (lv_at hl 3 rfl) ?_
      refine lv_lload S.1 S.2.1 dX8_pointsOf_92 (lv_at hl 0 rfl) ?_
      refine lv_lload_n S.1 S.2.1 dX8_pointsOf_94 rfl (lv_at hl 2 rfl) ?_
      obtain ⟨hc5, h⟩ := ck_s h
      refine pm_lrem S hc5 dX8_pointsOf_95 ?_
      refine lv_lconst (v := 0) S.1 S.2.1 dX8_pointsOf_96 (by decide) ?_
      refine pm_lne (tgt := 105) S dX8_pointsOf_97 dX8_pointsOf_98 (by decide) (fun c6 => ?_) (fun c6 => ?_)
      · rw [if_neg c6] at h
        refine lv_iconst (v := 0) S.1 S.2.1 dX8_pointsOf_105 (by decide) ?_
        refine lv_iadd S.1 S.2.1 dX8_pointsOf_106 ?_
        obtain ⟨v7, ev7, h⟩ := bd_s h
        refine pm_nmI ev7 ?_
        refine lv_istore_n (lv' := [(3, .int v7), (8, .long v4), (0, .ref th), (1, .long l1), (4, .long l4), (6, .long l6)]) S.1 S.2.1 dX8_pointsOf_107 rfl hl (by decide) rfl (fun ls hl => ?_)
        refine lv_lload S.1 S.2.1 dX8_pointsOf_108 (lv_at hl 5 rfl) ?_
        refine lv_lconst (v := 1) S.1 S.2.1 dX8_pointsOf_110 (by decide) ?_
        refine lv_ladd S.1 S.2.1 dX8_pointsOf_111 ?_
        obtain ⟨v8, ev8, h⟩ := bd_s h
        refine pm_nmL ev8 ?_
        refine lv_lstore (lv' := [(6, .long v8), (3, .int v7), (8, .long v4), (0, .ref th), (1, .long l1), (4, .long l4)]) S.1 S.2.1 dX8_pointsOf_112 hl (by decide) rfl (fun ls hl => ?_)
        refine lv_goto (tgt := 15) S.1 S.2.1 dX8_pointsOf_114 (by decide) ?_
        exact ih l1 v7 l4 v8 ls h (lv_sub hl [3, 4, 1, 5, 0] rfl)
      · rw [if_pos c6] at h
        refine lv_iconst (v := 1) S.1 S.2.1 dX8_pointsOf_101 (by decide) ?_
        refine lv_goto (tgt := 106) S.1 S.2.1 dX8_pointsOf_102 (by decide) ?_
        refine lv_iadd S.1 S.2.1 dX8_pointsOf_106 ?_
        obtain ⟨v9, ev9, h⟩ := bd_s h
        refine pm_nmI ev9 ?_
        refine lv_istore_n (lv' := [(3, .int v9), (8, .long v4), (0, .ref th), (1, .long l1), (4, .long l4), (6, .long l6)]) S.1 S.2.1 dX8_pointsOf_107 rfl hl (by decide) rfl (fun ls hl => ?_)
        refine lv_lload S.1 S.2.1 dX8_pointsOf_108 (lv_at hl 5 rfl) ?_
        refine lv_lconst (v := 1) S.1 S.2.1 dX8_pointsOf_110 (by decide) ?_
        refine lv_ladd S.1 S.2.1 dX8_pointsOf_111 ?_
        obtain ⟨v10, ev10, h⟩ := bd_s h
        refine pm_nmL ev10 ?_
        refine lv_lstore (lv' := [(6, .long v10), (3, .int v9), (8, .long v4), (0, .ref th), (1, .long l1), (4, .long l4)]) S.1 S.2.1 dX8_pointsOf_112 hl (by decide) rfl (fun ls hl => ?_)
        refine lv_goto (tgt := 15) S.1 S.2.1 dX8_pointsOf_114 (by decide) ?_
        exact ih l1 v9 l4 v10 ls h (lv_sub hl [3, 4, 1, 5, 0] rfl)
def q_X8_pointsOf_5 (ev : EV) (z : PS) (th : Nat) : Nat → Int64 → Int32 → Int64 → Option Int32
  | 0, _, _, _ => none
  | n + 1, l1, l3, l4 => if l1 ≤ l4 then (some l3) else (q_X8_pointsOf_15 ev z th (q_X8_pointsOf_5 ev z th n) FU l1 l3 l4 (0 : Int64))
set_option maxRecDepth 20000 in
set_option maxHeartbeats 4000000 in
theorem w_X8_pointsOf_5 {ev : EV} {z : PS} {th : Nat} {p : Program} {l : Launch} {e : Env} {s : State} {m : MethodId} {args : Array Value} {below : List Frame} {meth : Method} {c : Code} {r : Int32} (S : CallFix p m c cX8_pointsOf 10 s args gT RX8) (hr : meth.sig.returnType = (some .int)) (hlk : meth.locks = false) (E : EWF ev) (hK : KK ev s) (hX : pXt ev s) (hP : Wd ev z s.heap) (hth : isK ev 6 th) : ∀ (n : Nat), ∀ (l1 : Int64) (l3 : Int32) (l4 : Int64) (ls : Array Slot), q_X8_pointsOf_5 ev z th n l1 l3 l4 = some r → lv_has ls 10 [(0, .ref th), (1, .long l1), (3, .int l3), (4, .long l4)] → W p l e (pR 0 0) s m args below meth c s.heap [] 0 0 (MQ below (k2_QcV (.int r)) args s 0 0 (fun _ => False)) (F0 m 5 ls []) := by
  intro n
  induction n with
  | zero => intro l1 l3 l4 ls h; cases h
  | succ n ih =>
    intro l1 l3 l4 ls h hl
    rw [q_X8_pointsOf_5] at h
    refine lv_lload S.1 S.2.1 dX8_pointsOf_5 (lv_at hl 3 rfl) ?_
    refine lv_lload_n S.1 S.2.1 dX8_pointsOf_7 rfl (lv_at hl 1 rfl) ?_
    refine pm_lge (tgt := 126) S dX8_pointsOf_8 dX8_pointsOf_9 (by decide) (fun c1 => ?_) (fun c1 => ?_)
    · rw [if_pos c1] at h
      refine lv_iload_n S.1 S.2.1 dX8_pointsOf_126 rfl (lv_at hl 2 rfl) ?_
      exact pm_iretR S hr hlk (Option.some.inj h) dX8_pointsOf_127
    · rw [if_neg c1] at h
      refine lv_lconst (v := 0) S.1 S.2.1 dX8_pointsOf_12 (by decide) ?_
      refine lv_lstore (lv' := [(6, .long (0 : Int64)), (0, .ref th), (1, .long l1), (3, .int l3), (4, .long l4)]) S.1 S.2.1 dX8_pointsOf_13 hl (by decide) rfl (fun ls hl => ?_)
      exact w_X8_pointsOf_15 S hr hlk E hK hX hP hth (q_X8_pointsOf_5 ev z th n) ih FU l1 l3 l4 (0 : Int64) ls h (lv_sub hl [1, 2, 3, 4, 0] rfl)
def g_X8_pointsOf (ev : EV) (z : PS) (th : Nat) (l1 : Int64) : Option Int32 := q_X8_pointsOf_5 ev z th FU l1 (1 : Int32) (0 : Int64)
set_option maxRecDepth 20000 in
set_option maxHeartbeats 4000000 in
theorem c_X8_pointsOf (l : Launch) (ev : EV) (z : PS) (E : EWF ev) {th : Nat} (hth : isK ev 6 th) (th_ : Nat) (l1 : Int64) (r : Int32) (h : g_X8_pointsOf ev z th l1 = some r) : Met l yX8_pointsOf (pWs yX8_pointsOf cX8_pointsOf 10 (some .int)) (pR 0 0) (va_Pc [.ref th, .long l1] (pPe ev z)) (k2_QcV (.int r)) 0 0 (fun _ => False) := by
  refine pm_of (by decide) (Nat.le_of_ble_eq_true rfl) ?_
  intro p e s m below meth c S hr hlk hv ls hl
  obtain ⟨hP, hK, hX⟩ := hv
  have hl : lv_has ls 10 [(0, .ref th), (1, .long l1)] := hl
  unfold g_X8_pointsOf at h
  refine lv_iconst (v := 1) S.1 S.2.1 dX8_pointsOf_0 (by decide) ?_
  refine lv_istore_n (lv' := [(3, .int (1 : Int32)), (0, .ref th), (1, .long l1)]) S.1 S.2.1 dX8_pointsOf_1 rfl hl (by decide) rfl (fun ls hl => ?_)
  refine lv_lconst (v := 0) S.1 S.2.1 dX8_pointsOf_2 (by decide) ?_
  refine lv_lstore (lv' := [(4, .long (0 : Int64)), (3, .int (1 : Int32)), (0, .ref th), (1, .long l1)]) S.1 S.2.1 dX8_pointsOf_3 hl (by decide) rfl (fun ls hl => ?_)
  exact w_X8_pointsOf_5 S hr hlk E hK hX hP hth FU l1 (1 : Int32) (0 : Int64) ls h (lv_sub hl [2, 3, 1, 0] rfl)
theorem vm_X8_pointsOf : pm_Vm yX8_pointsOf cX8_pointsOf 10 (some .int) 1 := ⟨mw_5_96, mw_5_95, ms_750, mw_1_7, by decide, by decide⟩
def g_X8_isPointed (l0 : Int32) : Option Int32 := ob (g_X8_within (l0.toInt64) (2 : Int64) (199 : Int64)) (fun v1 => if v1 = 0 then (some (0 : Int32)) else (ob (g_X8_isPrime (l0.toInt64)) (fun v3 => if v3 = 0 then (some (0 : Int32)) else (some (1 : Int32)))))
set_option maxRecDepth 20000 in
set_option maxHeartbeats 4000000 in
theorem c_X8_isPointed (l : Launch) (l0 : Int32) (r : Int32) (h : g_X8_isPointed l0 = some r) : Met l yX8_isPointed (pWs yX8_isPointed cX8_isPointed 1 (some .boolean)) (pR 1 37) (va_Pc [.int l0] (fun _ => True)) (k2_QcV (.int r)) 0 0 (fun _ => False) := by
  refine pm_of (by decide) (Nat.le_of_ble_eq_true rfl) ?_
  intro p e s m below meth c S hr hlk hv ls hl
  have hl : lv_has ls 1 [(0, .int l0)] := hl
  unfold g_X8_isPointed at h
  refine lv_iload_n S.1 S.2.1 dX8_isPointed_0 rfl (lv_at hl 0 rfl) ?_
  refine lv_i2l S.1 S.2.1 dX8_isPointed_1 rfl ?_
  refine pm_ldc2 S mw_4_59 dX8_isPointed_2 ?_
  refine pm_ldc2 S mw_5_92 dX8_isPointed_5 ?_
  obtain ⟨v1, ev1, h⟩ := ob_s h
  refine pm_cS (As := [.long (l0.toInt64), .long (2 : Int64), .long (199 : Int64)]) (rest := []) S (c_X8_within l (l0.toInt64) (2 : Int64) (199 : Int64) v1 ev1) sm_X8_within mw_4_41 ⟨⟨rfl, rfl⟩, by decide, by decide⟩ rfl hl.1 rfl (Nat.le_of_ble_eq_true rfl) ⟨Nat.zero_le _, Nat.zero_le _⟩ dX8_isPointed_8 ?_
  refine lv_if_eq (tgt := 26) S.1 S.2.1 dX8_isPointed_11 (by decide) (fun c2 => ?_) (fun c2 => ?_)
  · rw [if_pos c2] at h
    refine lv_iconst (v := 0) S.1 S.2.1 dX8_isPointed_26 (by decide) ?_
    exact pm_zretR S hr hlk (Or.inl rfl) (Option.some.inj h) dX8_isPointed_27
  · rw [if_neg c2] at h
    refine lv_iload_n S.1 S.2.1 dX8_isPointed_14 rfl (lv_at hl 0 rfl) ?_
    refine lv_i2l S.1 S.2.1 dX8_isPointed_15 rfl ?_
    obtain ⟨v3, ev3, h⟩ := ob_s h
    refine pm_cS (As := [.long (l0.toInt64)]) (rest := []) S (c_X8_isPrime l (l0.toInt64) v3 ev3) sm_X8_isPrime mw_5_56 ⟨⟨rfl, rfl⟩, by decide, by decide⟩ rfl hl.1 rfl (Nat.le_of_ble_eq_true rfl) ⟨Nat.zero_le _, Nat.zero_le _⟩ dX8_isPointed_16 ?_
    refine lv_if_eq (tgt := 26) S.1 S.2.1 dX8_isPointed_19 (by decide) (fun c4 => ?_) (fun c4 => ?_)
    · rw [if_pos c4] at h
      refine lv_iconst (v := 0) S.1 S.2.1 dX8_isPointed_26 (by decide) ?_
      exact pm_zretR S hr hlk (Or.inl rfl) (Option.some.inj h) dX8_isPointed_27
    · rw [if_neg c4] at h
      refine lv_iconst (v := 1) S.1 S.2.1 dX8_isPointed_22 (by decide) ?_
      refine lv_goto (tgt := 27) S.1 S.2.1 dX8_isPointed_23 (by decide) ?_
      exact pm_zretR S hr hlk (Or.inr rfl) (Option.some.inj h) dX8_isPointed_27
theorem sm_X8_isPointed : pm_Sm yX8_isPointed cX8_isPointed 1 (some .boolean) 1 := ⟨mw_5_91, mw_5_90, mw_1_7, by decide, by decide⟩
def g_X8_points (ev : EV) (z : PS) (th : Nat) (l1 : Int32) (l2 : Int32) : Option (Int32 × PS) := bd (w32 z 120 th (0 : Int32)) (fun z1 => ob (g_X8_isCurve ev z1 th l1) (fun v2 => if v2 = 0 then (some ((-1 : Int32), z1)) else (ob (g_X8_isPointed l2) (fun v4 => if v4 = 0 then (some ((-1 : Int32), z1)) else (ob (g_X8_loads ev z1 th l1) (fun z6 => ob (g_X8_pointsOf ev z6 th (l2.toInt64)) (fun v7 => some (v7, z6))))))))
set_option maxRecDepth 20000 in
set_option maxHeartbeats 4000000 in
theorem c_X8_points (l : Launch) (ev : EV) (z : PS) (E : EWF ev) {th : Nat} (hth : isK ev 6 th) (th_ : Nat) (l1 : Int32) (l2 : Int32) (r : Int32) (z9 : PS) (h : g_X8_points ev z th l1 l2 = some (r, z9)) : Met l yX8_points (pWs yX8_points cX8_points 3 (some .int)) (pR 2 69) (va_Pc [.ref th, .int l1, .int l2] (pPe ev z)) (pQi ev r z9) 0 0 (eA ev) := by
  refine pm_of (by decide) (Nat.le_of_ble_eq_true rfl) ?_
  intro p e s m below meth c S hr hlk hv ls hl
  obtain ⟨hP, hK, hX⟩ := hv
  have hS : SS ev s s.heap [] := va_S.rf
  have hl : lv_has ls 3 [(0, .ref th), (1, .int l1), (2, .int l2)] := hl
  unfold g_X8_points at h
  refine lv_aload_n S.1 S.2.1 dX8_points_0 rfl (lv_at hl 0 rfl) ?_
  refine lv_iconst (v := 0) S.1 S.2.1 dX8_points_1 (by decide) ?_
  obtain ⟨z1, ez1, h⟩ := bd_s h
  refine pf_6_0 S E hK hP hS hth mw_3_221 dX8_points_2 (fun H locs hP hS => ?_)
  rw [← ez1] at hP
  refine lv_aload_n S.1 S.2.1 dX8_points_5 rfl (lv_at hl 0 rfl) ?_
  refine lv_iload_n S.1 S.2.1 dX8_points_6 rfl (lv_at hl 1 rfl) ?_
  obtain ⟨v2, ev2, h⟩ := ob_s h
  refine pm_cVr (As := [.int l1]) (rest := []) S hK hX hP hS (c_X8_isCurve l ev z1 E hth th l1 v2 ev2) vm_X8_isCurve mw_4_87 (rc_6 hK hP hth) ⟨⟨rfl, rfl⟩, by decide, by decide⟩ rfl hl.1 rfl (Nat.le_of_ble_eq_true rfl) ⟨Nat.zero_le _, Nat.zero_le _⟩ dX8_points_7 ?_
  refine lv_if_eq (tgt := 20) S.1 S.2.1 dX8_points_10 (by decide) (fun c3 => ?_) (fun c3 => ?_)
  · rw [if_pos c3] at h
    refine lv_iconst (v := -1) S.1 S.2.1 dX8_points_20 (by decide) ?_
    have h9 := Option.some.inj h
    exact pm_iretW S hr hlk hP hS (congrArg Prod.fst h9) (congrArg Prod.snd h9) dX8_points_21
  · rw [if_neg c3] at h
    refine lv_iload_n S.1 S.2.1 dX8_points_13 rfl (lv_at hl 2 rfl) ?_
    obtain ⟨v4, ev4, h⟩ := ob_s h
    refine pm_cS (As := [.int l2]) (rest := []) S (c_X8_isPointed l l2 v4 ev4) sm_X8_isPointed mw_5_89 ⟨⟨rfl, rfl⟩, by decide, by decide⟩ rfl hl.1 rfl (Nat.le_of_ble_eq_true rfl) ⟨Nat.zero_le _, Nat.zero_le _⟩ dX8_points_14 ?_
    refine lv_if_ne (tgt := 22) S.1 S.2.1 dX8_points_17 (by decide) (fun c5 => ?_) (fun c5 => ?_)
    · rw [if_neg c5] at h
      refine lv_aload_n S.1 S.2.1 dX8_points_22 rfl (lv_at hl 0 rfl) ?_
      refine lv_iload_n S.1 S.2.1 dX8_points_23 rfl (lv_at hl 1 rfl) ?_
      obtain ⟨z6, ez6, h⟩ := ob_s h
      refine pm_cVv (As := [.int l1]) (rest := []) S hK hX hP hS (c_X8_loads l ev z1 E hth th l1 z6 ez6) vm_X8_loads mw_4_91 (rc_6 hK hP hth) ⟨⟨rfl, rfl⟩, by decide, by decide⟩ rfl hl.1 rfl (Nat.le_of_ble_eq_true rfl) ⟨Nat.zero_le _, Nat.zero_le _⟩ dX8_points_24 (fun H locs hP hS => ?_)
      refine lv_aload_n S.1 S.2.1 dX8_points_27 rfl (lv_at hl 0 rfl) ?_
      refine lv_iload_n S.1 S.2.1 dX8_points_28 rfl (lv_at hl 2 rfl) ?_
      refine lv_i2l S.1 S.2.1 dX8_points_29 rfl ?_
      obtain ⟨v7, ev7, h⟩ := ob_s h
      refine pm_cVr (As := [.long (l2.toInt64)]) (rest := []) S hK hX hP hS (c_X8_pointsOf l ev z6 E hth th (l2.toInt64) v7 ev7) vm_X8_pointsOf mw_5_93 (rc_6 hK hP hth) ⟨⟨rfl, rfl⟩, by decide, by decide⟩ rfl hl.1 rfl (Nat.le_of_ble_eq_true rfl) ⟨Nat.zero_le _, Nat.zero_le _⟩ dX8_points_30 ?_
      have h9 := Option.some.inj h
      exact pm_iretW S hr hlk hP hS (congrArg Prod.fst h9) (congrArg Prod.snd h9) dX8_points_33
    · rw [if_pos c5] at h
      refine lv_iconst (v := -1) S.1 S.2.1 dX8_points_20 (by decide) ?_
      have h9 := Option.some.inj h
      exact pm_iretW S hr hlk hP hS (congrArg Prod.fst h9) (congrArg Prod.snd h9) dX8_points_21
theorem vm_X8_points : pm_Vm yX8_points cX8_points 3 (some .int) 2 := ⟨mw_5_88, mw_5_86, mw_5_87, mw_1_7, by decide, by decide⟩
def g_X8_trace (ev : EV) (z : PS) (th : Nat) (l1 : Int32) (l2 : Int32) : Option (Int32 × PS) := bd (w32 z 120 th (0 : Int32)) (fun z1 => ob (g_X8_isCurve ev z1 th l1) (fun v2 => if v2 = 0 then (some ((-1000 : Int32), z1)) else (ob (g_X8_isPointed l2) (fun v4 => if v4 = 0 then (some ((-1000 : Int32), z1)) else (ob (g_X8_loads ev z1 th l1) (fun z6 => ob (g_X8_goesLeast ev z6 th) (fun z7 => ob (g_X8_keepsWhole ev z7 th) (fun z8 => ob (g_X8_laysAt ev z8 th (l2.toInt64)) (fun z9 => ob (g_X8_wholeAgain ev z9 th) (fun z10 => if (rI z10 (rf ev 127 th) 0) = 0 then (ob (g_X8_pointsOf ev z10 th (l2.toInt64)) (fun v14 => some (((l2 + (1 : Int32)) - v14), z10))) else (if (rI z10 (rf ev 127 th) 0) ≤ (1 : Int32) then (if (rI z10 (rf ev 127 th) 6) = (1 : Int32) then (some ((1 : Int32), z10)) else (some ((-1 : Int32), z10))) else (some ((0 : Int32), z10)))))))))))))
set_option maxRecDepth 20000 in
set_option maxHeartbeats 4000000 in
theorem c_X8_trace (l : Launch) (ev : EV) (z : PS) (E : EWF ev) {th : Nat} (hth : isK ev 6 th) (th_ : Nat) (l1 : Int32) (l2 : Int32) (r : Int32) (z9 : PS) (h : g_X8_trace ev z th l1 l2 = some (r, z9)) : Met l yX8_trace (pWs yX8_trace cX8_trace 3 (some .int)) (pR 9 321) (va_Pc [.ref th, .int l1, .int l2] (pPe ev z)) (pQi ev r z9) 0 0 (eA ev) := by
  refine pm_of (by decide) (Nat.le_of_ble_eq_true rfl) ?_
  intro p e s m below meth c S hr hlk hv ls hl
  obtain ⟨hP, hK, hX⟩ := hv
  have hS : SS ev s s.heap [] := va_S.rf
  have hl : lv_has ls 3 [(0, .ref th), (1, .int l1), (2, .int l2)] := hl
  unfold g_X8_trace at h
  refine lv_aload_n S.1 S.2.1 dX8_trace_0 rfl (lv_at hl 0 rfl) ?_
  refine lv_iconst (v := 0) S.1 S.2.1 dX8_trace_1 (by decide) ?_
  obtain ⟨z1, ez1, h⟩ := bd_s h
  refine pf_6_0 S E hK hP hS hth mw_3_221 dX8_trace_2 (fun H locs hP hS => ?_)
  rw [← ez1] at hP
  refine lv_aload_n S.1 S.2.1 dX8_trace_5 rfl (lv_at hl 0 rfl) ?_
  refine lv_iload_n S.1 S.2.1 dX8_trace_6 rfl (lv_at hl 1 rfl) ?_
  obtain ⟨v2, ev2, h⟩ := ob_s h
  refine pm_cVr (As := [.int l1]) (rest := []) S hK hX hP hS (c_X8_isCurve l ev z1 E hth th l1 v2 ev2) vm_X8_isCurve mw_4_87 (rc_6 hK hP hth) ⟨⟨rfl, rfl⟩, by decide, by decide⟩ rfl hl.1 rfl (Nat.le_of_ble_eq_true rfl) ⟨Nat.zero_le _, Nat.zero_le _⟩ dX8_trace_7 ?_
  refine lv_if_eq (tgt := 20) S.1 S.2.1 dX8_trace_10 (by decide) (fun c3 => ?_) (fun c3 => ?_)
  · rw [if_pos c3] at h
    refine lv_sipush (v := -1000) S.1 S.2.1 dX8_trace_20 (by decide) ?_
    have h9 := Option.some.inj h
    exact pm_iretW S hr hlk hP hS (congrArg Prod.fst h9) (congrArg Prod.snd h9) dX8_trace_23
  · rw [if_neg c3] at h
    refine lv_iload_n S.1 S.2.1 dX8_trace_13 rfl (lv_at hl 2 rfl) ?_
    obtain ⟨v4, ev4, h⟩ := ob_s h
    refine pm_cS (As := [.int l2]) (rest := []) S (c_X8_isPointed l l2 v4 ev4) sm_X8_isPointed mw_5_89 ⟨⟨rfl, rfl⟩, by decide, by decide⟩ rfl hl.1 rfl (Nat.le_of_ble_eq_true rfl) ⟨Nat.zero_le _, Nat.zero_le _⟩ dX8_trace_14 ?_
    refine lv_if_ne (tgt := 24) S.1 S.2.1 dX8_trace_17 (by decide) (fun c5 => ?_) (fun c5 => ?_)
    · rw [if_neg c5] at h
      refine lv_aload_n S.1 S.2.1 dX8_trace_24 rfl (lv_at hl 0 rfl) ?_
      refine lv_iload_n S.1 S.2.1 dX8_trace_25 rfl (lv_at hl 1 rfl) ?_
      obtain ⟨z6, ez6, h⟩ := ob_s h
      refine pm_cVv (As := [.int l1]) (rest := []) S hK hX hP hS (c_X8_loads l ev z1 E hth th l1 z6 ez6) vm_X8_loads mw_4_91 (rc_6 hK hP hth) ⟨⟨rfl, rfl⟩, by decide, by decide⟩ rfl hl.1 rfl (Nat.le_of_ble_eq_true rfl) ⟨Nat.zero_le _, Nat.zero_le _⟩ dX8_trace_26 (fun H locs hP hS => ?_)
      refine lv_aload_n S.1 S.2.1 dX8_trace_29 rfl (lv_at hl 0 rfl) ?_
      obtain ⟨z7, ez7, h⟩ := ob_s h
      refine pm_cVv (As := []) (rest := []) S hK hX hP hS (c_X8_goesLeast l ev z6 E hth th z7 ez7) vm_X8_goesLeast mw_4_126 (rc_6 hK hP hth) ⟨⟨rfl, rfl⟩, by decide, by decide⟩ rfl hl.1 rfl (Nat.le_of_ble_eq_true rfl) ⟨Nat.zero_le _, Nat.zero_le _⟩ dX8_trace_30 (fun H locs hP hS => ?_)
      refine lv_aload_n S.1 S.2.1 dX8_trace_33 rfl (lv_at hl 0 rfl) ?_
      obtain ⟨z8, ez8, h⟩ := ob_s h
      refine pm_cVv (As := []) (rest := []) S hK hX hP hS (c_X8_keepsWhole l ev z7 E hth th z8 ez8) vm_X8_keepsWhole mw_4_134 (rc_6 hK hP hth) ⟨⟨rfl, rfl⟩, by decide, by decide⟩ rfl hl.1 rfl (Nat.le_of_ble_eq_true rfl) ⟨Nat.zero_le _, Nat.zero_le _⟩ dX8_trace_34 (fun H locs hP hS => ?_)
      refine lv_aload_n S.1 S.2.1 dX8_trace_37 rfl (lv_at hl 0 rfl) ?_
      refine lv_iload_n S.1 S.2.1 dX8_trace_38 rfl (lv_at hl 2 rfl) ?_
      refine lv_i2l S.1 S.2.1 dX8_trace_39 rfl ?_
      obtain ⟨z9, ez9, h⟩ := ob_s h
      refine pm_cVv (As := [.long (l2.toInt64)]) (rest := []) S hK hX hP hS (c_X8_laysAt l ev z8 E hth th (l2.toInt64) z9 ez9) vm_X8_laysAt mw_4_147 (rc_6 hK hP hth) ⟨⟨rfl, rfl⟩, by decide, by decide⟩ rfl hl.1 rfl (Nat.le_of_ble_eq_true rfl) ⟨Nat.zero_le _, Nat.zero_le _⟩ dX8_trace_40 (fun H locs hP hS => ?_)
      refine lv_aload_n S.1 S.2.1 dX8_trace_43 rfl (lv_at hl 0 rfl) ?_
      obtain ⟨z10, ez10, h⟩ := ob_s h
      refine pm_cVv (As := []) (rest := []) S hK hX hP hS (c_X8_wholeAgain l ev z9 E hth th z10 ez10) vm_X8_wholeAgain mw_4_143 (rc_6 hK hP hth) ⟨⟨rfl, rfl⟩, by decide, by decide⟩ rfl hl.1 rfl (Nat.le_of_ble_eq_true rfl) ⟨Nat.zero_le _, Nat.zero_le _⟩ dX8_trace_44 (fun H locs hP hS => ?_)
      refine lv_aload_n S.1 S.2.1 dX8_trace_47 rfl (lv_at hl 0 rfl) ?_
      refine gf_6_7 S hK hP hth mw_3_228 dX8_trace_48 ?_
      refine lv_iconst (v := 0) S.1 S.2.1 dX8_trace_51 (by decide) ?_
      refine al_I S hK hP (E_6_7 E hth) (by rw [N_6_7 E hth]; decide) dX8_trace_52 ?_
      refine pm_nmI (v := (rI z10 (rf ev 127 th) 0)) rfl ?_
      refine lv_if_ne (tgt := 69) S.1 S.2.1 dX8_trace_53 (by decide) (fun c11 => ?_) (fun c11 => ?_)
      · rw [if_neg c11] at h
        refine lv_aload_n S.1 S.2.1 dX8_trace_69 rfl (lv_at hl 0 rfl) ?_
        refine gf_6_7 S hK hP hth mw_3_228 dX8_trace_70 ?_
        refine lv_iconst (v := 0) S.1 S.2.1 dX8_trace_73 (by decide) ?_
        refine al_I S hK hP (E_6_7 E hth) (by rw [N_6_7 E hth]; decide) dX8_trace_74 ?_
        refine pm_nmI (v := (rI z10 (rf ev 127 th) 0)) rfl ?_
        refine lv_iconst (v := 1) S.1 S.2.1 dX8_trace_75 (by decide) ?_
        refine lv_icmp_le (tgt := 83) S.1 S.2.1 dX8_trace_76 (by decide) (fun c12 => ?_) (fun c12 => ?_)
        · rw [if_pos c12] at h
          refine lv_aload_n S.1 S.2.1 dX8_trace_83 rfl (lv_at hl 0 rfl) ?_
          refine gf_6_7 S hK hP hth mw_3_228 dX8_trace_84 ?_
          refine lv_bipush (v := 6) S.1 S.2.1 dX8_trace_87 (by decide) ?_
          refine al_I S hK hP (E_6_7 E hth) (by rw [N_6_7 E hth]; decide) dX8_trace_89 ?_
          refine pm_nmI (v := (rI z10 (rf ev 127 th) 6)) rfl ?_
          refine lv_iconst (v := 1) S.1 S.2.1 dX8_trace_90 (by decide) ?_
          refine lv_icmp_ne (tgt := 98) S.1 S.2.1 dX8_trace_91 (by decide) (fun c13 => ?_) (fun c13 => ?_)
          · rw [if_neg c13] at h
            refine lv_iconst (v := -1) S.1 S.2.1 dX8_trace_98 (by decide) ?_
            have h9 := Option.some.inj h
            exact pm_iretW S hr hlk hP hS (congrArg Prod.fst h9) (congrArg Prod.snd h9) dX8_trace_99
          · rw [if_pos c13] at h
            refine lv_iconst (v := 1) S.1 S.2.1 dX8_trace_94 (by decide) ?_
            refine lv_goto (tgt := 99) S.1 S.2.1 dX8_trace_95 (by decide) ?_
            have h9 := Option.some.inj h
            exact pm_iretW S hr hlk hP hS (congrArg Prod.fst h9) (congrArg Prod.snd h9) dX8_trace_99
        · rw [if_neg c12] at h
          refine lv_iconst (v := 0) S.1 S.2.1 dX8_trace_79 (by decide) ?_
          refine lv_goto (tgt := 99) S.1 S.2.1 dX8_trace_80 (by decide) ?_
          have h9 := Option.some.inj h
          exact pm_iretW S hr hlk hP hS (congrArg Prod.fst h9) (congrArg Prod.snd h9) dX8_trace_99
      · rw [if_pos c11] at h
        refine lv_iload_n S.1 S.2.1 dX8_trace_56 rfl (lv_at hl 2 rfl) ?_
        refine lv_iconst (v := 1) S.1 S.2.1 dX8_trace_57 (by decide) ?_
        refine lv_iadd S.1 S.2.1 dX8_trace_58 ?_
        refine lv_aload_n S.1 S.2.1 dX8_trace_59 rfl (lv_at hl 0 rfl) ?_
        refine lv_iload_n S.1 S.2.1 dX8_trace_60 rfl (lv_at hl 2 rfl) ?_
        refine lv_i2l S.1 S.2.1 dX8_trace_61 rfl ?_
        obtain ⟨v14, ev14, h⟩ := ob_s h
        refine pm_cVr (As := [.long (l2.toInt64)]) (rest := [.int (l2 + (1 : Int32))]) S hK hX hP hS (c_X8_pointsOf l ev z10 E hth th (l2.toInt64) v14 ev14) vm_X8_pointsOf mw_5_93 (rc_6 hK hP hth) ⟨⟨rfl, rfl⟩, by decide, by decide⟩ rfl hl.1 rfl (Nat.le_of_ble_eq_true rfl) ⟨Nat.zero_le _, Nat.zero_le _⟩ dX8_trace_62 ?_
        refine lv_isub S.1 S.2.1 dX8_trace_65 ?_
        refine lv_goto (tgt := 99) S.1 S.2.1 dX8_trace_66 (by decide) ?_
        have h9 := Option.some.inj h
        exact pm_iretW S hr hlk hP hS (congrArg Prod.fst h9) (congrArg Prod.snd h9) dX8_trace_99
    · rw [if_pos c5] at h
      refine lv_sipush (v := -1000) S.1 S.2.1 dX8_trace_20 (by decide) ?_
      have h9 := Option.some.inj h
      exact pm_iretW S hr hlk hP hS (congrArg Prod.fst h9) (congrArg Prod.snd h9) dX8_trace_23
theorem vm_X8_trace : pm_Vm yX8_trace cX8_trace 3 (some .int) 2 := ⟨mw_5_100, mw_5_98, mw_5_99, mw_1_7, by decide, by decide⟩
def q_X8_best_60 (ev : EV) (th : Nat) (k12 : (Int32 → Int32 → Int64 → Int32 → PS → Option (Int32 × PS))) (l1 : Int32) (l3 : Int64) (l5 : Int32) (l6 : Int64) (z : PS) : Option (Int32 × PS) := ck (inB l5 14) (bd ((rI z (rf ev 133 th) l5.toNatClampNeg)) (fun v19 => ck (inB l5 14) (if v19 = (rI z (rf ev 133 th) l5.toNatClampNeg) then (bd (l5 + (1 : Int32)) (fun v23 => k12 l1 v19 l6 v23 z)) else (bd (l5 + (1 : Int32)) (fun v22 => k12 l1 v19 l3 v22 z)))))
set_option maxRecDepth 20000 in
set_option maxHeartbeats 4000000 in
theorem w_X8_best_60 {ev : EV} {th : Nat} {p : Program} {l : Launch} {e : Env} {s : State} {m : MethodId} {args : Array Value} {below : List Frame} {meth : Method} {c : Code} {r : Int32} {z9 : PS} (S : CallFix p m c cX8_best 8 s args gT RX8) (hr : meth.sig.returnType = (some .int)) (hlk : meth.locks = false) (E : EWF ev) (hK : KK ev s) (hX : pXt ev s) (hth : isK ev 6 th) (k12 : (Int32 → Int32 → Int64 → Int32 → PS → Option (Int32 × PS))) (hk12 : ∀ (l1 : Int32) (l2 : Int32) (l3 : Int64) (l5 : Int32) (z : PS) (ls : Array Slot) (H : Heap) (locs : List Loc), k12 l1 l2 l3 l5 z = some (r, z9) → lv_has ls 8 [(0, .ref th), (1, .int l1), (2, .int l2), (3, .long l3), (5, .int l5)] → Wd ev z H → SS ev s H locs → W p l e (pR 10 361) s m args below meth c H locs 0 0 (MQ below (pQi ev r z9) args s 0 0 (eA ev)) (F0 m 12 ls [])) : ∀ (l1 : Int32) (l3 : Int64) (l5 : Int32) (l6 : Int64) (z : PS) (ls : Array Slot) (H : Heap) (locs : List Loc), q_X8_best_60 ev th k12 l1 l3 l5 l6 z = some (r, z9) → lv_has ls 8 [(0, .ref th), (1, .int l1), (3, .long l3), (5, .int l5), (6, .long l6)] → Wd ev z H → SS ev s H locs → W p l e (pR 10 361) s m args below meth c H locs 0 0 (MQ below (pQi ev r z9) args s 0 0 (eA ev)) (F0 m 60 ls []) := by
  intro l1 l3 l5 l6 z ls H locs h hl hP hS
  unfold q_X8_best_60 at h
  refine lv_aload_n S.1 S.2.1 dX8_best_60 rfl (lv_at hl 0 rfl) ?_
  refine gf_6_13 S hK hP hth mw_3_234 dX8_best_61 ?_
  refine lv_iload S.1 S.2.1 dX8_best_64 (lv_at hl 3 rfl) ?_
  obtain ⟨hc18, h⟩ := ck_s h
  refine al_I S hK hP (E_6_13 E hth) (by rw [N_6_13 E hth]; exact hc18) dX8_best_66 ?_
  refine lv_goto (tgt := 71) S.1 S.2.1 dX8_best_67 (by decide) ?_
  obtain ⟨v19, ev19, h⟩ := bd_s h
  refine pm_nmI ev19 ?_
  refine lv_istore_n (lv' := [(2, .int v19), (0, .ref th), (1, .int l1), (3, .long l3), (5, .int l5), (6, .long l6)]) S.1 S.2.1 dX8_best_71 rfl hl (by decide) rfl (fun ls hl => ?_)
  refine lv_iload_n S.1 S.2.1 dX8_best_72 rfl (lv_at hl 0 rfl) ?_
  refine lv_aload_n S.1 S.2.1 dX8_best_73 rfl (lv_at hl 1 rfl) ?_
  refine gf_6_13 S hK hP hth mw_3_234 dX8_best_74 ?_
  refine lv_iload S.1 S.2.1 dX8_best_77 (lv_at hl 4 rfl) ?_
  obtain ⟨hc20, h⟩ := ck_s h
  refine al_I S hK hP (E_6_13 E hth) (by rw [N_6_13 E hth]; exact hc20) dX8_best_79 ?_
  refine lv_icmp_ne (tgt := 88) S.1 S.2.1 dX8_best_80 (by decide) (fun c21 => ?_) (fun c21 => ?_)
  · rw [if_neg c21] at h
    refine lv_lload_n S.1 S.2.1 dX8_best_88 rfl (lv_at hl 3 rfl) ?_
    refine lv_lstore_n (lv' := [(3, .long l3), (2, .int v19), (0, .ref th), (1, .int l1), (5, .int l5), (6, .long l6)]) S.1 S.2.1 dX8_best_89 rfl hl (by decide) rfl (fun ls hl => ?_)
    obtain ⟨v22, ev22, h⟩ := bd_s h
    refine lv_iinc (v := v22) (lv' := [(5, .int v22), (3, .long l3), (2, .int v19), (0, .ref th), (1, .int l1), (6, .long l6)]) S.1 S.2.1 dX8_best_90 hl (k := 4) rfl (by rw [ev22]; rfl) (by decide) rfl (fun ls hl => ?_)
    refine lv_goto (tgt := 12) S.1 S.2.1 dX8_best_93 (by decide) ?_
    exact hk12 l1 v19 l3 v22 z ls _ _ h (lv_sub hl [3, 4, 2, 1, 0] rfl) hP hS
  · rw [if_pos c21] at h
    refine lv_lload S.1 S.2.1 dX8_best_83 (lv_at hl 5 rfl) ?_
    refine lv_goto (tgt := 89) S.1 S.2.1 dX8_best_85 (by decide) ?_
    refine lv_lstore_n (lv' := [(3, .long l6), (2, .int v19), (0, .ref th), (1, .int l1), (5, .int l5), (6, .long l6)]) S.1 S.2.1 dX8_best_89 rfl hl (by decide) rfl (fun ls hl => ?_)
    obtain ⟨v23, ev23, h⟩ := bd_s h
    refine lv_iinc (v := v23) (lv' := [(5, .int v23), (3, .long l6), (2, .int v19), (0, .ref th), (1, .int l1), (6, .long l6)]) S.1 S.2.1 dX8_best_90 hl (k := 4) rfl (by rw [ev23]; rfl) (by decide) rfl (fun ls hl => ?_)
    refine lv_goto (tgt := 12) S.1 S.2.1 dX8_best_93 (by decide) ?_
    exact hk12 l1 v19 l6 v23 z ls _ _ h (lv_sub hl [3, 4, 2, 1, 0] rfl) hP hS
def q_X8_best_12 (ev : EV) (th : Nat) : Nat → Int32 → Int32 → Int64 → Int32 → PS → Option (Int32 × PS)
  | 0, _, _, _, _, _ => none
  | n + 1, l1, l2, l3, l5, z => if (14 : Int32) ≤ l5 then (some (l2, z)) else (ob (g_X8_isCurve ev z th l1) (fun v3 => if v3 = 0 then (some (l2, z)) else (ck (inB l5 14) (ob (g_X8_twists ev z th l1 (rI z (rf ev 133 th) l5.toNatClampNeg)) (fun qv7 => bd qv7.1 (fun v7 => bd qv7.2 (fun z6 => if v7 = 0 then (bd (l5 + (1 : Int32)) (fun v9 => q_X8_best_12 ev th n l1 l2 l3 v9 z6)) else (ob (g_X8_together ev z6 th (0 : Int32)) (fun qv11 => bd qv11.1 (fun v11 => bd qv11.2 (fun z10 => if l2 = 0 then (q_X8_best_60 ev th (q_X8_best_12 ev th n) l1 l3 l5 v11 z10) else (if l3 ≤ v11 then (ck (inB l5 14) (if l2 = (rI z10 (rf ev 133 th) l5.toNatClampNeg) then (bd (l5 + (1 : Int32)) (fun v17 => q_X8_best_12 ev th n l1 l2 v11 v17 z10)) else (bd (l5 + (1 : Int32)) (fun v16 => q_X8_best_12 ev th n l1 l2 l3 v16 z10)))) else (q_X8_best_60 ev th (q_X8_best_12 ev th n) l1 l3 l5 v11 z10)))))))))))))
set_option maxRecDepth 20000 in
set_option maxHeartbeats 4000000 in
theorem w_X8_best_12 {ev : EV} {th : Nat} {p : Program} {l : Launch} {e : Env} {s : State} {m : MethodId} {args : Array Value} {below : List Frame} {meth : Method} {c : Code} {r : Int32} {z9 : PS} (S : CallFix p m c cX8_best 8 s args gT RX8) (hr : meth.sig.returnType = (some .int)) (hlk : meth.locks = false) (E : EWF ev) (hK : KK ev s) (hX : pXt ev s) (hth : isK ev 6 th) : ∀ (n : Nat), ∀ (l1 : Int32) (l2 : Int32) (l3 : Int64) (l5 : Int32) (z : PS) (ls : Array Slot) (H : Heap) (locs : List Loc), q_X8_best_12 ev th n l1 l2 l3 l5 z = some (r, z9) → lv_has ls 8 [(0, .ref th), (1, .int l1), (2, .int l2), (3, .long l3), (5, .int l5)] → Wd ev z H → SS ev s H locs → W p l e (pR 10 361) s m args below meth c H locs 0 0 (MQ below (pQi ev r z9) args s 0 0 (eA ev)) (F0 m 12 ls []) := by
  intro n
  induction n with
  | zero => intro l1 l2 l3 l5 z ls H locs h; cases h
  | succ n ih =>
    intro l1 l2 l3 l5 z ls H locs h hl hP hS
    rw [q_X8_best_12] at h
    refine lv_iload S.1 S.2.1 dX8_best_12 (lv_at hl 4 rfl) ?_
    refine lv_bipush (v := 14) S.1 S.2.1 dX8_best_14 (by decide) ?_
    refine lv_icmp_ge (tgt := 96) S.1 S.2.1 dX8_best_16 (by decide) (fun c2 => ?_) (fun c2 => ?_)
    · rw [if_pos c2] at h
      refine lv_iload_n S.1 S.2.1 dX8_best_96 rfl (lv_at hl 2 rfl) ?_
      have h9 := Option.some.inj h
      exact pm_iretW S hr hlk hP hS (congrArg Prod.fst h9) (congrArg Prod.snd h9) dX8_best_97
    · rw [if_neg c2] at h
      refine lv_aload_n S.1 S.2.1 dX8_best_19 rfl (lv_at hl 0 rfl) ?_
      refine lv_iload_n S.1 S.2.1 dX8_best_20 rfl (lv_at hl 1 rfl) ?_
      obtain ⟨v3, ev3, h⟩ := ob_s h
      refine pm_cVr (As := [.int l1]) (rest := []) S hK hX hP hS (c_X8_isCurve l ev z E hth th l1 v3 ev3) vm_X8_isCurve mw_4_87 (rc_6 hK hP hth) ⟨⟨rfl, rfl⟩, by decide, by decide⟩ rfl hl.1 rfl (Nat.le_of_ble_eq_true rfl) ⟨Nat.zero_le _, Nat.zero_le _⟩ dX8_best_21 ?_
      refine lv_if_eq (tgt := 96) S.1 S.2.1 dX8_best_24 (by decide) (fun c4 => ?_) (fun c4 => ?_)
      · rw [if_pos c4] at h
        refine lv_iload_n S.1 S.2.1 dX8_best_96 rfl (lv_at hl 2 rfl) ?_
        have h9 := Option.some.inj h
        exact pm_iretW S hr hlk hP hS (congrArg Prod.fst h9) (congrArg Prod.snd h9) dX8_best_97
      · rw [if_neg c4] at h
        refine lv_aload_n S.1 S.2.1 dX8_best_27 rfl (lv_at hl 0 rfl) ?_
        refine lv_iload_n S.1 S.2.1 dX8_best_28 rfl (lv_at hl 1 rfl) ?_
        refine lv_aload_n S.1 S.2.1 dX8_best_29 rfl (lv_at hl 0 rfl) ?_
        refine gf_6_13 S hK hP hth mw_3_234 dX8_best_30 ?_
        refine lv_iload S.1 S.2.1 dX8_best_33 (lv_at hl 4 rfl) ?_
        obtain ⟨hc5, h⟩ := ck_s h
        refine al_I S hK hP (E_6_13 E hth) (by rw [N_6_13 E hth]; exact hc5) dX8_best_35 ?_
        obtain ⟨qv7, ev7, h⟩ := ob_s h
        obtain ⟨v7, fv7, h⟩ := bd_s h
        obtain ⟨z6, fz6, h⟩ := bd_s h
        have ev7 : g_X8_twists ev z th l1 (rI z (rf ev 133 th) l5.toNatClampNeg) = some (v7, z6) := by rw [fv7, fz6]; exact ev7
        refine pm_cVi (As := [.int l1, .int (rI z (rf ev 133 th) l5.toNatClampNeg)]) (rest := []) S hK hX hP hS (c_X8_twists l ev z E hth th l1 (rI z (rf ev 133 th) l5.toNatClampNeg) v7 z6 ev7) vm_X8_twists mw_5_33 (rc_6 hK hP hth) ⟨⟨rfl, rfl⟩, by decide, by decide⟩ rfl hl.1 rfl (Nat.le_of_ble_eq_true rfl) ⟨Nat.zero_le _, Nat.zero_le _⟩ dX8_best_36 (fun H locs hP hS => ?_)
        refine lv_if_eq (tgt := 90) S.1 S.2.1 dX8_best_39 (by decide) (fun c8 => ?_) (fun c8 => ?_)
        · rw [if_pos c8] at h
          obtain ⟨v9, ev9, h⟩ := bd_s h
          refine lv_iinc (v := v9) (lv' := [(5, .int v9), (0, .ref th), (1, .int l1), (2, .int l2), (3, .long l3)]) S.1 S.2.1 dX8_best_90 hl (k := 4) rfl (by rw [ev9]; rfl) (by decide) rfl (fun ls hl => ?_)
          refine lv_goto (tgt := 12) S.1 S.2.1 dX8_best_93 (by decide) ?_
          exact ih l1 l2 l3 v9 z6 ls _ _ h (lv_sub hl [1, 2, 3, 4, 0] rfl) hP hS
        · rw [if_neg c8] at h
          refine lv_aload_n S.1 S.2.1 dX8_best_42 rfl (lv_at hl 0 rfl) ?_
          refine lv_iconst (v := 0) S.1 S.2.1 dX8_best_43 (by decide) ?_
          obtain ⟨qv11, ev11, h⟩ := ob_s h
          obtain ⟨v11, fv11, h⟩ := bd_s h
          obtain ⟨z10, fz10, h⟩ := bd_s h
          have ev11 : g_X8_together ev z6 th (0 : Int32) = some (v11, z10) := by rw [fv11, fz10]; exact ev11
          refine pm_cVl (As := [.int (0 : Int32)]) (rest := []) S hK hX hP hS (c_X8_together l ev z6 E hth th (0 : Int32) v11 z10 ev11) vm_X8_together mw_5_68 (rc_6 hK hP hth) ⟨⟨rfl, rfl⟩, by decide, by decide⟩ rfl hl.1 rfl (Nat.le_of_ble_eq_true rfl) ⟨Nat.zero_le _, Nat.zero_le _⟩ dX8_best_44 (fun H locs hP hS => ?_)
          refine lv_lstore (lv' := [(6, .long v11), (0, .ref th), (1, .int l1), (2, .int l2), (3, .long l3), (5, .int l5)]) S.1 S.2.1 dX8_best_47 hl (by decide) rfl (fun ls hl => ?_)
          refine lv_iload_n S.1 S.2.1 dX8_best_49 rfl (lv_at hl 3 rfl) ?_
          refine lv_if_eq (tgt := 60) S.1 S.2.1 dX8_best_50 (by decide) (fun c12 => ?_) (fun c12 => ?_)
          · rw [if_pos c12] at h
            exact w_X8_best_60 S hr hlk E hK hX hth (q_X8_best_12 ev th n) ih l1 l3 l5 v11 z10 ls _ _ h (lv_sub hl [1, 2, 4, 5, 0] rfl) hP hS
          · rw [if_neg c12] at h
            refine lv_lload S.1 S.2.1 dX8_best_53 (lv_at hl 0 rfl) ?_
            refine lv_lload_n S.1 S.2.1 dX8_best_55 rfl (lv_at hl 4 rfl) ?_
            refine pm_lge (tgt := 70) S dX8_best_56 dX8_best_57 (by decide) (fun c13 => ?_) (fun c13 => ?_)
            · rw [if_pos c13] at h
              refine lv_iload_n S.1 S.2.1 dX8_best_70 rfl (lv_at hl 3 rfl) ?_
              refine lv_istore_n (lv' := [(2, .int l2), (6, .long v11), (0, .ref th), (1, .int l1), (3, .long l3), (5, .int l5)]) S.1 S.2.1 dX8_best_71 rfl hl (by decide) rfl (fun ls hl => ?_)
              refine lv_iload_n S.1 S.2.1 dX8_best_72 rfl (lv_at hl 0 rfl) ?_
              refine lv_aload_n S.1 S.2.1 dX8_best_73 rfl (lv_at hl 2 rfl) ?_
              refine gf_6_13 S hK hP hth mw_3_234 dX8_best_74 ?_
              refine lv_iload S.1 S.2.1 dX8_best_77 (lv_at hl 5 rfl) ?_
              obtain ⟨hc14, h⟩ := ck_s h
              refine al_I S hK hP (E_6_13 E hth) (by rw [N_6_13 E hth]; exact hc14) dX8_best_79 ?_
              refine lv_icmp_ne (tgt := 88) S.1 S.2.1 dX8_best_80 (by decide) (fun c15 => ?_) (fun c15 => ?_)
              · rw [if_neg c15] at h
                refine lv_lload_n S.1 S.2.1 dX8_best_88 rfl (lv_at hl 4 rfl) ?_
                refine lv_lstore_n (lv' := [(3, .long l3), (2, .int l2), (6, .long v11), (0, .ref th), (1, .int l1), (5, .int l5)]) S.1 S.2.1 dX8_best_89 rfl hl (by decide) rfl (fun ls hl => ?_)
                obtain ⟨v16, ev16, h⟩ := bd_s h
                refine lv_iinc (v := v16) (lv' := [(5, .int v16), (3, .long l3), (2, .int l2), (6, .long v11), (0, .ref th), (1, .int l1)]) S.1 S.2.1 dX8_best_90 hl (k := 5) rfl (by rw [ev16]; rfl) (by decide) rfl (fun ls hl => ?_)
                refine lv_goto (tgt := 12) S.1 S.2.1 dX8_best_93 (by decide) ?_
                exact ih l1 l2 l3 v16 z10 ls _ _ h (lv_sub hl [4, 5, 2, 1, 0] rfl) hP hS
              · rw [if_pos c15] at h
                refine lv_lload S.1 S.2.1 dX8_best_83 (lv_at hl 1 rfl) ?_
                refine lv_goto (tgt := 89) S.1 S.2.1 dX8_best_85 (by decide) ?_
                refine lv_lstore_n (lv' := [(3, .long v11), (2, .int l2), (6, .long v11), (0, .ref th), (1, .int l1), (5, .int l5)]) S.1 S.2.1 dX8_best_89 rfl hl (by decide) rfl (fun ls hl => ?_)
                obtain ⟨v17, ev17, h⟩ := bd_s h
                refine lv_iinc (v := v17) (lv' := [(5, .int v17), (3, .long v11), (2, .int l2), (6, .long v11), (0, .ref th), (1, .int l1)]) S.1 S.2.1 dX8_best_90 hl (k := 5) rfl (by rw [ev17]; rfl) (by decide) rfl (fun ls hl => ?_)
                refine lv_goto (tgt := 12) S.1 S.2.1 dX8_best_93 (by decide) ?_
                exact ih l1 l2 v11 v17 z10 ls _ _ h (lv_sub hl [4, 5, 2, 1, 0] rfl) hP hS
            · rw [if_neg c13] at h
              exact w_X8_best_60 S hr hlk E hK hX hth (q_X8_best_12 ev th n) ih l1 l3 l5 v11 z10 ls _ _ h (lv_sub hl [1, 2, 4, 5, 0] rfl) hP hS
def g_X8_best (ev : EV) (z : PS) (th : Nat) (l1 : Int32) : Option (Int32 × PS) := bd (w32 z 120 th (0 : Int32)) (fun z1 => q_X8_best_12 ev th FU l1 (0 : Int32) (0 : Int64) (0 : Int32) z1)
set_option maxRecDepth 20000 in
set_option maxHeartbeats 4000000 in
theorem c_X8_best (l : Launch) (ev : EV) (z : PS) (E : EWF ev) {th : Nat} (hth : isK ev 6 th) (th_ : Nat) (l1 : Int32) (r : Int32) (z9 : PS) (h : g_X8_best ev z th l1 = some (r, z9)) : Met l yX8_best (pWs yX8_best cX8_best 8 (some .int)) (pR 10 361) (va_Pc [.ref th, .int l1] (pPe ev z)) (pQi ev r z9) 0 0 (eA ev) := by
  refine pm_of (by decide) (Nat.le_of_ble_eq_true rfl) ?_
  intro p e s m below meth c S hr hlk hv ls hl
  obtain ⟨hP, hK, hX⟩ := hv
  have hS : SS ev s s.heap [] := va_S.rf
  have hl : lv_has ls 8 [(0, .ref th), (1, .int l1)] := hl
  unfold g_X8_best at h
  refine lv_aload_n S.1 S.2.1 dX8_best_0 rfl (lv_at hl 0 rfl) ?_
  refine lv_iconst (v := 0) S.1 S.2.1 dX8_best_1 (by decide) ?_
  obtain ⟨z1, ez1, h⟩ := bd_s h
  refine pf_6_0 S E hK hP hS hth mw_3_221 dX8_best_2 (fun H locs hP hS => ?_)
  rw [← ez1] at hP
  refine lv_iconst (v := 0) S.1 S.2.1 dX8_best_5 (by decide) ?_
  refine lv_istore_n (lv' := [(2, .int (0 : Int32)), (0, .ref th), (1, .int l1)]) S.1 S.2.1 dX8_best_6 rfl hl (by decide) rfl (fun ls hl => ?_)
  refine lv_lconst (v := 0) S.1 S.2.1 dX8_best_7 (by decide) ?_
  refine lv_lstore_n (lv' := [(3, .long (0 : Int64)), (2, .int (0 : Int32)), (0, .ref th), (1, .int l1)]) S.1 S.2.1 dX8_best_8 rfl hl (by decide) rfl (fun ls hl => ?_)
  refine lv_iconst (v := 0) S.1 S.2.1 dX8_best_9 (by decide) ?_
  refine lv_istore (lv' := [(5, .int (0 : Int32)), (3, .long (0 : Int64)), (2, .int (0 : Int32)), (0, .ref th), (1, .int l1)]) S.1 S.2.1 dX8_best_10 hl (by decide) rfl (fun ls hl => ?_)
  exact w_X8_best_12 S hr hlk E hK hX hth FU l1 (0 : Int32) (0 : Int64) (0 : Int32) z1 ls _ _ h (lv_sub hl [3, 4, 2, 1, 0] rfl) hP hS
theorem vm_X8_best : pm_Vm yX8_best cX8_best 8 (some .int) 1 := ⟨mw_5_104, mw_5_102, mw_5_103, mw_1_7, by decide, by decide⟩
def g_X8_twisted (ev : EV) (z : PS) (th : Nat) (l1 : Int32) (l2 : Int32) : Option (Int64 × PS) := bd (w32 z 120 th (0 : Int32)) (fun z1 => ob (g_X8_isCurve ev z1 th l1) (fun v2 => if v2 = 0 then (some ((0 : Int64), z1)) else (if l2 = (1 : Int32) then (ob (g_X8_twists ev z1 th l1 l2) (fun qv6 => bd qv6.1 (fun v6 => bd qv6.2 (fun z5 => if v6 = 0 then (some ((0 : Int64), z5)) else (ob (g_X8_together ev z5 th (0 : Int32)) (fun qv9 => bd qv9.1 (fun v9 => bd qv9.2 (fun z8 => some (v9, z8))))))))) else (ob (g_X8_isTwist l2) (fun v10 => if v10 = 0 then (some ((0 : Int64), z1)) else (ob (g_X8_twists ev z1 th l1 l2) (fun qv13 => bd qv13.1 (fun v13 => bd qv13.2 (fun z12 => if v13 = 0 then (some ((0 : Int64), z12)) else (ob (g_X8_together ev z12 th (0 : Int32)) (fun qv16 => bd qv16.1 (fun v16 => bd qv16.2 (fun z15 => some (v16, z15))))))))))))))
set_option maxRecDepth 20000 in
set_option maxHeartbeats 4000000 in
theorem c_X8_twisted (l : Launch) (ev : EV) (z : PS) (E : EWF ev) {th : Nat} (hth : isK ev 6 th) (th_ : Nat) (l1 : Int32) (l2 : Int32) (r : Int64) (z9 : PS) (h : g_X8_twisted ev z th l1 l2 = some (r, z9)) : Met l yX8_twisted (pWs yX8_twisted cX8_twisted 3 (some .long)) (pR 10 361) (va_Pc [.ref th, .int l1, .int l2] (pPe ev z)) (pQl ev r z9) 0 0 (eA ev) := by
  refine pm_of (by decide) (Nat.le_of_ble_eq_true rfl) ?_
  intro p e s m below meth c S hr hlk hv ls hl
  obtain ⟨hP, hK, hX⟩ := hv
  have hS : SS ev s s.heap [] := va_S.rf
  have hl : lv_has ls 3 [(0, .ref th), (1, .int l1), (2, .int l2)] := hl
  unfold g_X8_twisted at h
  refine lv_aload_n S.1 S.2.1 dX8_twisted_0 rfl (lv_at hl 0 rfl) ?_
  refine lv_iconst (v := 0) S.1 S.2.1 dX8_twisted_1 (by decide) ?_
  obtain ⟨z1, ez1, h⟩ := bd_s h
  refine pf_6_0 S E hK hP hS hth mw_3_221 dX8_twisted_2 (fun H locs hP hS => ?_)
  rw [← ez1] at hP
  refine lv_aload_n S.1 S.2.1 dX8_twisted_5 rfl (lv_at hl 0 rfl) ?_
  refine lv_iload_n S.1 S.2.1 dX8_twisted_6 rfl (lv_at hl 1 rfl) ?_
  obtain ⟨v2, ev2, h⟩ := ob_s h
  refine pm_cVr (As := [.int l1]) (rest := []) S hK hX hP hS (c_X8_isCurve l ev z1 E hth th l1 v2 ev2) vm_X8_isCurve mw_4_87 (rc_6 hK hP hth) ⟨⟨rfl, rfl⟩, by decide, by decide⟩ rfl hl.1 rfl (Nat.le_of_ble_eq_true rfl) ⟨Nat.zero_le _, Nat.zero_le _⟩ dX8_twisted_7 ?_
  refine lv_if_eq (tgt := 42) S.1 S.2.1 dX8_twisted_10 (by decide) (fun c3 => ?_) (fun c3 => ?_)
  · rw [if_pos c3] at h
    refine lv_lconst (v := 0) S.1 S.2.1 dX8_twisted_42 (by decide) ?_
    have h9 := Option.some.inj h
    exact pm_lretW S hr hlk hP hS (congrArg Prod.fst h9) (congrArg Prod.snd h9) dX8_twisted_43
  · rw [if_neg c3] at h
    refine lv_iload_n S.1 S.2.1 dX8_twisted_13 rfl (lv_at hl 2 rfl) ?_
    refine lv_iconst (v := 1) S.1 S.2.1 dX8_twisted_14 (by decide) ?_
    refine lv_icmp_eq (tgt := 25) S.1 S.2.1 dX8_twisted_15 (by decide) (fun c4 => ?_) (fun c4 => ?_)
    · rw [if_pos c4] at h
      refine lv_aload_n S.1 S.2.1 dX8_twisted_25 rfl (lv_at hl 0 rfl) ?_
      refine lv_iload_n S.1 S.2.1 dX8_twisted_26 rfl (lv_at hl 1 rfl) ?_
      refine lv_iload_n S.1 S.2.1 dX8_twisted_27 rfl (lv_at hl 2 rfl) ?_
      obtain ⟨qv6, ev6, h⟩ := ob_s h
      obtain ⟨v6, fv6, h⟩ := bd_s h
      obtain ⟨z5, fz5, h⟩ := bd_s h
      have ev6 : g_X8_twists ev z1 th l1 l2 = some (v6, z5) := by rw [fv6, fz5]; exact ev6
      refine pm_cVi (As := [.int l1, .int l2]) (rest := []) S hK hX hP hS (c_X8_twists l ev z1 E hth th l1 l2 v6 z5 ev6) vm_X8_twists mw_5_33 (rc_6 hK hP hth) ⟨⟨rfl, rfl⟩, by decide, by decide⟩ rfl hl.1 rfl (Nat.le_of_ble_eq_true rfl) ⟨Nat.zero_le _, Nat.zero_le _⟩ dX8_twisted_28 (fun H locs hP hS => ?_)
      refine lv_if_eq (tgt := 42) S.1 S.2.1 dX8_twisted_31 (by decide) (fun c7 => ?_) (fun c7 => ?_)
      · rw [if_pos c7] at h
        refine lv_lconst (v := 0) S.1 S.2.1 dX8_twisted_42 (by decide) ?_
        have h9 := Option.some.inj h
        exact pm_lretW S hr hlk hP hS (congrArg Prod.fst h9) (congrArg Prod.snd h9) dX8_twisted_43
      · rw [if_neg c7] at h
        refine lv_aload_n S.1 S.2.1 dX8_twisted_34 rfl (lv_at hl 0 rfl) ?_
        refine lv_iconst (v := 0) S.1 S.2.1 dX8_twisted_35 (by decide) ?_
        obtain ⟨qv9, ev9, h⟩ := ob_s h
        obtain ⟨v9, fv9, h⟩ := bd_s h
        obtain ⟨z8, fz8, h⟩ := bd_s h
        have ev9 : g_X8_together ev z5 th (0 : Int32) = some (v9, z8) := by rw [fv9, fz8]; exact ev9
        refine pm_cVl (As := [.int (0 : Int32)]) (rest := []) S hK hX hP hS (c_X8_together l ev z5 E hth th (0 : Int32) v9 z8 ev9) vm_X8_together mw_5_68 (rc_6 hK hP hth) ⟨⟨rfl, rfl⟩, by decide, by decide⟩ rfl hl.1 rfl (Nat.le_of_ble_eq_true rfl) ⟨Nat.zero_le _, Nat.zero_le _⟩ dX8_twisted_36 (fun H locs hP hS => ?_)
        refine lv_goto (tgt := 43) S.1 S.2.1 dX8_twisted_39 (by decide) ?_
        have h9 := Option.some.inj h
        exact pm_lretW S hr hlk hP hS (congrArg Prod.fst h9) (congrArg Prod.snd h9) dX8_twisted_43
    · rw [if_neg c4] at h
      refine lv_iload_n S.1 S.2.1 dX8_twisted_18 rfl (lv_at hl 2 rfl) ?_
      obtain ⟨v10, ev10, h⟩ := ob_s h
      refine pm_cS (As := [.int l2]) (rest := []) S (c_X8_isTwist l l2 v10 ev10) sm_X8_isTwist mw_5_28 ⟨⟨rfl, rfl⟩, by decide, by decide⟩ rfl hl.1 rfl (Nat.le_of_ble_eq_true rfl) ⟨Nat.zero_le _, Nat.zero_le _⟩ dX8_twisted_19 ?_
      refine lv_if_eq (tgt := 42) S.1 S.2.1 dX8_twisted_22 (by decide) (fun c11 => ?_) (fun c11 => ?_)
      · rw [if_pos c11] at h
        refine lv_lconst (v := 0) S.1 S.2.1 dX8_twisted_42 (by decide) ?_
        have h9 := Option.some.inj h
        exact pm_lretW S hr hlk hP hS (congrArg Prod.fst h9) (congrArg Prod.snd h9) dX8_twisted_43
      · rw [if_neg c11] at h
        refine lv_aload_n S.1 S.2.1 dX8_twisted_25 rfl (lv_at hl 0 rfl) ?_
        refine lv_iload_n S.1 S.2.1 dX8_twisted_26 rfl (lv_at hl 1 rfl) ?_
        refine lv_iload_n S.1 S.2.1 dX8_twisted_27 rfl (lv_at hl 2 rfl) ?_
        obtain ⟨qv13, ev13, h⟩ := ob_s h
        obtain ⟨v13, fv13, h⟩ := bd_s h
        obtain ⟨z12, fz12, h⟩ := bd_s h
        have ev13 : g_X8_twists ev z1 th l1 l2 = some (v13, z12) := by rw [fv13, fz12]; exact ev13
        refine pm_cVi (As := [.int l1, .int l2]) (rest := []) S hK hX hP hS (c_X8_twists l ev z1 E hth th l1 l2 v13 z12 ev13) vm_X8_twists mw_5_33 (rc_6 hK hP hth) ⟨⟨rfl, rfl⟩, by decide, by decide⟩ rfl hl.1 rfl (Nat.le_of_ble_eq_true rfl) ⟨Nat.zero_le _, Nat.zero_le _⟩ dX8_twisted_28 (fun H locs hP hS => ?_)
        refine lv_if_eq (tgt := 42) S.1 S.2.1 dX8_twisted_31 (by decide) (fun c14 => ?_) (fun c14 => ?_)
        · rw [if_pos c14] at h
          refine lv_lconst (v := 0) S.1 S.2.1 dX8_twisted_42 (by decide) ?_
          have h9 := Option.some.inj h
          exact pm_lretW S hr hlk hP hS (congrArg Prod.fst h9) (congrArg Prod.snd h9) dX8_twisted_43
        · rw [if_neg c14] at h
          refine lv_aload_n S.1 S.2.1 dX8_twisted_34 rfl (lv_at hl 0 rfl) ?_
          refine lv_iconst (v := 0) S.1 S.2.1 dX8_twisted_35 (by decide) ?_
          obtain ⟨qv16, ev16, h⟩ := ob_s h
          obtain ⟨v16, fv16, h⟩ := bd_s h
          obtain ⟨z15, fz15, h⟩ := bd_s h
          have ev16 : g_X8_together ev z12 th (0 : Int32) = some (v16, z15) := by rw [fv16, fz15]; exact ev16
          refine pm_cVl (As := [.int (0 : Int32)]) (rest := []) S hK hX hP hS (c_X8_together l ev z12 E hth th (0 : Int32) v16 z15 ev16) vm_X8_together mw_5_68 (rc_6 hK hP hth) ⟨⟨rfl, rfl⟩, by decide, by decide⟩ rfl hl.1 rfl (Nat.le_of_ble_eq_true rfl) ⟨Nat.zero_le _, Nat.zero_le _⟩ dX8_twisted_36 (fun H locs hP hS => ?_)
          refine lv_goto (tgt := 43) S.1 S.2.1 dX8_twisted_39 (by decide) ?_
          have h9 := Option.some.inj h
          exact pm_lretW S hr hlk hP hS (congrArg Prod.fst h9) (congrArg Prod.snd h9) dX8_twisted_43
theorem vm_X8_twisted : pm_Vm yX8_twisted cX8_twisted 3 (some .long) 2 := ⟨mw_5_108, mw_5_106, mw_5_107, mw_1_7, by decide, by decide⟩
def q_X8_rootOf_41 (k7 : (Int64 → Int64 → Int64 → Option Int64)) (l0 : Int64) (l2 : Int64) (l4 : Int64) (l6 : Int64) (t0 : Int32) : Option Int64 := if t0 = 0 then (if t0 = 0 then (k7 l0 l2 l6) else (k7 l0 l2 l4)) else (if t0 = 0 then (k7 l0 l6 l6) else (k7 l0 l6 l4))
set_option maxRecDepth 20000 in
set_option maxHeartbeats 4000000 in
theorem w_X8_rootOf_41 {p : Program} {l : Launch} {e : Env} {s : State} {m : MethodId} {args : Array Value} {below : List Frame} {meth : Method} {c : Code} {r : Int64} (S : CallFix p m c cX8_rootOf 9 s args gT RX8) (hr : meth.sig.returnType = (some .long)) (hlk : meth.locks = false) (k7 : (Int64 → Int64 → Int64 → Option Int64)) (hk7 : ∀ (l0 : Int64) (l2 : Int64) (l4 : Int64) (ls : Array Slot), k7 l0 l2 l4 = some r → lv_has ls 9 [(0, .long l0), (2, .long l2), (4, .long l4)] → W p l e (pR 0 0) s m args below meth c s.heap [] 0 0 (MQ below (k2_QcV (.long r)) args s 0 0 (fun _ => False)) (F0 m 7 ls [])) : ∀ (l0 : Int64) (l2 : Int64) (l4 : Int64) (l6 : Int64) (t0 : Int32) (ls : Array Slot), q_X8_rootOf_41 k7 l0 l2 l4 l6 t0 = some r → lv_has ls 9 [(0, .long l0), (2, .long l2), (4, .long l4), (6, .long l6)] → W p l e (pR 0 0) s m args below meth c s.heap [] 0 0 (MQ below (k2_QcV (.long r)) args s 0 0 (fun _ => False)) (F0 m 41 ls [.int t0]) := by
  intro l0 l2 l4 l6 t0 ls h hl
  unfold q_X8_rootOf_41 at h
  refine lv_istore (lv' := [(8, .int t0), (0, .long l0), (2, .long l2), (4, .long l4), (6, .long l6)]) S.1 S.2.1 dX8_rootOf_41 hl (by decide) rfl (fun ls hl => ?_)
  refine lv_iload S.1 S.2.1 dX8_rootOf_43 (lv_at hl 0 rfl) ?_
  refine lv_if_eq (tgt := 53) S.1 S.2.1 dX8_rootOf_45 (by decide) (fun c4 => ?_) (fun c4 => ?_)
  · rw [if_pos c4] at h
    refine lv_lload_n S.1 S.2.1 dX8_rootOf_53 rfl (lv_at hl 2 rfl) ?_
    refine lv_lstore_n (lv' := [(2, .long l2), (8, .int t0), (0, .long l0), (4, .long l4), (6, .long l6)]) S.1 S.2.1 dX8_rootOf_54 rfl hl (by decide) rfl (fun ls hl => ?_)
    refine lv_iload S.1 S.2.1 dX8_rootOf_55 (lv_at hl 1 rfl) ?_
    refine lv_if_eq (tgt := 65) S.1 S.2.1 dX8_rootOf_57 (by decide) (fun c5 => ?_) (fun c5 => ?_)
    · rw [if_pos c5] at h
      refine lv_lload S.1 S.2.1 dX8_rootOf_65 (lv_at hl 4 rfl) ?_
      refine lv_lstore (lv' := [(4, .long l6), (2, .long l2), (8, .int t0), (0, .long l0), (6, .long l6)]) S.1 S.2.1 dX8_rootOf_67 hl (by decide) rfl (fun ls hl => ?_)
      refine lv_goto (tgt := 7) S.1 S.2.1 dX8_rootOf_69 (by decide) ?_
      exact hk7 l0 l2 l6 ls h (lv_sub hl [3, 1, 0] rfl)
    · rw [if_neg c5] at h
      refine lv_lload S.1 S.2.1 dX8_rootOf_60 (lv_at hl 3 rfl) ?_
      refine lv_goto (tgt := 67) S.1 S.2.1 dX8_rootOf_62 (by decide) ?_
      refine lv_lstore (lv' := [(4, .long l4), (2, .long l2), (8, .int t0), (0, .long l0), (6, .long l6)]) S.1 S.2.1 dX8_rootOf_67 hl (by decide) rfl (fun ls hl => ?_)
      refine lv_goto (tgt := 7) S.1 S.2.1 dX8_rootOf_69 (by decide) ?_
      exact hk7 l0 l2 l4 ls h (lv_sub hl [3, 1, 0] rfl)
  · rw [if_neg c4] at h
    refine lv_lload S.1 S.2.1 dX8_rootOf_48 (lv_at hl 4 rfl) ?_
    refine lv_goto (tgt := 54) S.1 S.2.1 dX8_rootOf_50 (by decide) ?_
    refine lv_lstore_n (lv' := [(2, .long l6), (8, .int t0), (0, .long l0), (4, .long l4), (6, .long l6)]) S.1 S.2.1 dX8_rootOf_54 rfl hl (by decide) rfl (fun ls hl => ?_)
    refine lv_iload S.1 S.2.1 dX8_rootOf_55 (lv_at hl 1 rfl) ?_
    refine lv_if_eq (tgt := 65) S.1 S.2.1 dX8_rootOf_57 (by decide) (fun c6 => ?_) (fun c6 => ?_)
    · rw [if_pos c6] at h
      refine lv_lload S.1 S.2.1 dX8_rootOf_65 (lv_at hl 4 rfl) ?_
      refine lv_lstore (lv' := [(4, .long l6), (2, .long l6), (8, .int t0), (0, .long l0), (6, .long l6)]) S.1 S.2.1 dX8_rootOf_67 hl (by decide) rfl (fun ls hl => ?_)
      refine lv_goto (tgt := 7) S.1 S.2.1 dX8_rootOf_69 (by decide) ?_
      exact hk7 l0 l6 l6 ls h (lv_sub hl [3, 1, 0] rfl)
    · rw [if_neg c6] at h
      refine lv_lload S.1 S.2.1 dX8_rootOf_60 (lv_at hl 3 rfl) ?_
      refine lv_goto (tgt := 67) S.1 S.2.1 dX8_rootOf_62 (by decide) ?_
      refine lv_lstore (lv' := [(4, .long l4), (2, .long l6), (8, .int t0), (0, .long l0), (6, .long l6)]) S.1 S.2.1 dX8_rootOf_67 hl (by decide) rfl (fun ls hl => ?_)
      refine lv_goto (tgt := 7) S.1 S.2.1 dX8_rootOf_69 (by decide) ?_
      exact hk7 l0 l6 l4 ls h (lv_sub hl [3, 1, 0] rfl)
def q_X8_rootOf_7 : Nat → Int64 → Int64 → Int64 → Option Int64
  | 0, _, _, _ => none
  | n + 1, l0, l2, l4 => if (l4 - l2) ≤ (1 : Int64) then (some l2) else (bd (((l2 + l4) / (2 : Int64))) (fun v2 => if l0 < (v2 * v2) then (q_X8_rootOf_41 (q_X8_rootOf_7 n) l0 l2 l4 v2 (0 : Int32)) else (q_X8_rootOf_41 (q_X8_rootOf_7 n) l0 l2 l4 v2 (1 : Int32))))
set_option maxRecDepth 20000 in
set_option maxHeartbeats 4000000 in
theorem w_X8_rootOf_7 {p : Program} {l : Launch} {e : Env} {s : State} {m : MethodId} {args : Array Value} {below : List Frame} {meth : Method} {c : Code} {r : Int64} (S : CallFix p m c cX8_rootOf 9 s args gT RX8) (hr : meth.sig.returnType = (some .long)) (hlk : meth.locks = false) : ∀ (n : Nat), ∀ (l0 : Int64) (l2 : Int64) (l4 : Int64) (ls : Array Slot), q_X8_rootOf_7 n l0 l2 l4 = some r → lv_has ls 9 [(0, .long l0), (2, .long l2), (4, .long l4)] → W p l e (pR 0 0) s m args below meth c s.heap [] 0 0 (MQ below (k2_QcV (.long r)) args s 0 0 (fun _ => False)) (F0 m 7 ls []) := by
  intro n
  induction n with
  | zero => intro l0 l2 l4 ls h; cases h
  | succ n ih =>
    intro l0 l2 l4 ls h hl
    rw [q_X8_rootOf_7] at h
    refine lv_lload S.1 S.2.1 dX8_rootOf_7 (lv_at hl 2 rfl) ?_
    refine lv_lload_n S.1 S.2.1 dX8_rootOf_9 rfl (lv_at hl 1 rfl) ?_
    refine lv_lsub S.1 S.2.1 dX8_rootOf_10 ?_
    refine lv_lconst (v := 1) S.1 S.2.1 dX8_rootOf_11 (by decide) ?_
    refine pm_lle (tgt := 72) S dX8_rootOf_12 dX8_rootOf_13 (by decide) (fun c1 => ?_) (fun c1 => ?_)
    · rw [if_pos c1] at h
      refine lv_lload_n S.1 S.2.1 dX8_rootOf_72 rfl (lv_at hl 1 rfl) ?_
      exact pm_lretR S hr hlk (Option.some.inj h) dX8_rootOf_73
    · rw [if_neg c1] at h
      refine lv_lload_n S.1 S.2.1 dX8_rootOf_16 rfl (lv_at hl 1 rfl) ?_
      refine lv_lload S.1 S.2.1 dX8_rootOf_17 (lv_at hl 2 rfl) ?_
      refine lv_ladd S.1 S.2.1 dX8_rootOf_19 ?_
      refine pm_ldc2 S mw_4_59 dX8_rootOf_20 ?_
      refine lv_ldiv S.1 S.2.1 dX8_rootOf_23 (by decide) ?_
      obtain ⟨v2, ev2, h⟩ := bd_s h
      refine pm_nmL ev2 ?_
      refine lv_lstore (lv' := [(6, .long v2), (0, .long l0), (2, .long l2), (4, .long l4)]) S.1 S.2.1 dX8_rootOf_24 hl (by decide) rfl (fun ls hl => ?_)
      refine lv_lload S.1 S.2.1 dX8_rootOf_26 (lv_at hl 0 rfl) ?_
      refine lv_lload S.1 S.2.1 dX8_rootOf_28 (lv_at hl 0 rfl) ?_
      refine lv_lmul S.1 S.2.1 dX8_rootOf_30 ?_
      refine lv_lload_n S.1 S.2.1 dX8_rootOf_31 rfl (lv_at hl 1 rfl) ?_
      refine pm_lgt (tgt := 40) S dX8_rootOf_32 dX8_rootOf_33 (by decide) (fun c3 => ?_) (fun c3 => ?_)
      · rw [if_pos c3] at h
        refine lv_iconst (v := 0) S.1 S.2.1 dX8_rootOf_40 (by decide) ?_
        exact w_X8_rootOf_41 S hr hlk (q_X8_rootOf_7 n) ih l0 l2 l4 v2 (0 : Int32) ls h (lv_sub hl [1, 2, 3, 0] rfl)
      · rw [if_neg c3] at h
        refine lv_iconst (v := 1) S.1 S.2.1 dX8_rootOf_36 (by decide) ?_
        refine lv_goto (tgt := 41) S.1 S.2.1 dX8_rootOf_37 (by decide) ?_
        exact w_X8_rootOf_41 S hr hlk (q_X8_rootOf_7 n) ih l0 l2 l4 v2 (1 : Int32) ls h (lv_sub hl [1, 2, 3, 0] rfl)
def g_X8_rootOf (l0 : Int64) : Option Int64 := q_X8_rootOf_7 FU l0 (0 : Int64) (3000000000 : Int64)
set_option maxRecDepth 20000 in
set_option maxHeartbeats 4000000 in
theorem c_X8_rootOf (l : Launch) (l0 : Int64) (r : Int64) (h : g_X8_rootOf l0 = some r) : Met l yX8_rootOf (pWs yX8_rootOf cX8_rootOf 9 (some .long)) (pR 0 0) (va_Pc [.long l0] (fun _ => True)) (k2_QcV (.long r)) 0 0 (fun _ => False) := by
  refine pm_of (by decide) (Nat.le_of_ble_eq_true rfl) ?_
  intro p e s m below meth c S hr hlk hv ls hl
  have hl : lv_has ls 9 [(0, .long l0)] := hl
  unfold g_X8_rootOf at h
  refine lv_lconst (v := 0) S.1 S.2.1 dX8_rootOf_0 (by decide) ?_
  refine lv_lstore_n (lv' := [(2, .long (0 : Int64)), (0, .long l0)]) S.1 S.2.1 dX8_rootOf_1 rfl hl (by decide) rfl (fun ls hl => ?_)
  refine pm_ldc2 S mw_5_122 dX8_rootOf_2 ?_
  refine lv_lstore (lv' := [(4, .long (3000000000 : Int64)), (2, .long (0 : Int64)), (0, .long l0)]) S.1 S.2.1 dX8_rootOf_5 hl (by decide) rfl (fun ls hl => ?_)
  exact w_X8_rootOf_7 S hr hlk FU l0 (0 : Int64) (3000000000 : Int64) ls h (lv_sub hl [2, 1, 0] rfl)
theorem sm_X8_rootOf : pm_Sm yX8_rootOf cX8_rootOf 9 (some .long) 1 := ⟨mw_5_121, mw_5_120, mw_1_7, by decide, by decide⟩
def g_X8_adds (ev : EV) (z : PS) (th : Nat) (l1 : Int64) (l3 : Int64) : Option PS := ck (inB ((2 : Int32) * (r32 z 135 th)) 484) (bd (wJ z (rf ev 134 th) ((2 : Int32) * (r32 z 135 th)).toNatClampNeg l1) (fun z2 => ck (inB (((2 : Int32) * (r32 z2 135 th)) + (1 : Int32)) 484) (bd (wJ z2 (rf ev 134 th) (((2 : Int32) * (r32 z2 135 th)) + (1 : Int32)).toNatClampNeg l3) (fun z4 => bd (((r32 z4 135 th) + (1 : Int32))) (fun v5 => bd (w32 z4 135 th v5) (fun z6 => some z6))))))
set_option maxRecDepth 20000 in
set_option maxHeartbeats 4000000 in
theorem c_X8_adds (l : Launch) (ev : EV) (z : PS) (E : EWF ev) {th : Nat} (hth : isK ev 6 th) (th_ : Nat) (l1 : Int64) (l3 : Int64) (z9 : PS) (h : g_X8_adds ev z th l1 l3 = some z9) : Met l yX8_adds (pWs yX8_adds cX8_adds 5 none) (pR 0 0) (va_Pc [.ref th, .long l1, .long l3] (pPe ev z)) (pQv ev z9) 0 0 (eA ev) := by
  refine pm_of (by decide) (Nat.le_of_ble_eq_true rfl) ?_
  intro p e s m below meth c S hr hlk hv ls hl
  obtain ⟨hP, hK, hX⟩ := hv
  have hS : SS ev s s.heap [] := va_S.rf
  have hl : lv_has ls 5 [(0, .ref th), (1, .long l1), (3, .long l3)] := hl
  unfold g_X8_adds at h
  refine lv_aload_n S.1 S.2.1 dX8_adds_0 rfl (lv_at hl 0 rfl) ?_
  refine gf_6_14 S hK hP hth mw_3_235 dX8_adds_1 ?_
  refine lv_iconst (v := 2) S.1 S.2.1 dX8_adds_4 (by decide) ?_
  refine lv_aload_n S.1 S.2.1 dX8_adds_5 rfl (lv_at hl 0 rfl) ?_
  refine gf_6_15 S hK hP hth mw_3_236 dX8_adds_6 ?_
  refine lv_imul S.1 S.2.1 dX8_adds_9 ?_
  refine lv_lload_n S.1 S.2.1 dX8_adds_10 rfl (lv_at hl 1 rfl) ?_
  obtain ⟨hc1, h⟩ := ck_s h
  obtain ⟨z2, ez2, h⟩ := bd_s h
  refine as_J S E hK hP hS (E_6_14 E hth) (by rw [N_6_14 E hth]; exact hc1) dX8_adds_11 (fun H locs hP hS => ?_)
  rw [← ez2] at hP
  refine lv_aload_n S.1 S.2.1 dX8_adds_12 rfl (lv_at hl 0 rfl) ?_
  refine gf_6_14 S hK hP hth mw_3_235 dX8_adds_13 ?_
  refine lv_iconst (v := 2) S.1 S.2.1 dX8_adds_16 (by decide) ?_
  refine lv_aload_n S.1 S.2.1 dX8_adds_17 rfl (lv_at hl 0 rfl) ?_
  refine gf_6_15 S hK hP hth mw_3_236 dX8_adds_18 ?_
  refine lv_imul S.1 S.2.1 dX8_adds_21 ?_
  refine lv_iconst (v := 1) S.1 S.2.1 dX8_adds_22 (by decide) ?_
  refine lv_iadd S.1 S.2.1 dX8_adds_23 ?_
  refine lv_lload_n S.1 S.2.1 dX8_adds_24 rfl (lv_at hl 2 rfl) ?_
  obtain ⟨hc3, h⟩ := ck_s h
  obtain ⟨z4, ez4, h⟩ := bd_s h
  refine as_J S E hK hP hS (E_6_14 E hth) (by rw [N_6_14 E hth]; exact hc3) dX8_adds_25 (fun H locs hP hS => ?_)
  rw [← ez4] at hP
  refine lv_aload_n S.1 S.2.1 dX8_adds_26 rfl (lv_at hl 0 rfl) ?_
  refine lv_dup S.1 S.2.1 dX8_adds_27 rfl ?_
  refine gf_6_15 S hK hP hth mw_3_236 dX8_adds_28 ?_
  refine lv_iconst (v := 1) S.1 S.2.1 dX8_adds_31 (by decide) ?_
  refine lv_iadd S.1 S.2.1 dX8_adds_32 ?_
  obtain ⟨v5, ev5, h⟩ := bd_s h
  refine pm_nmI ev5 ?_
  obtain ⟨z6, ez6, h⟩ := bd_s h
  refine pf_6_15 S E hK hP hS hth mw_3_236 dX8_adds_33 (fun H locs hP hS => ?_)
  rw [← ez6] at hP
  exact pm_vretW S hr hlk hP hS (Option.some.inj h) dX8_adds_36
theorem vm_X8_adds : pm_Vm yX8_adds cX8_adds 5 none 2 := ⟨mw_5_126, mw_5_125, ms_776, mw_1_7, by decide, by decide⟩
def q_X8_laysPoints_91 (ev : EV) (th : Nat) (k9 : (Int64 → PS → Option PS)) (l1 : Int64) (l3 : Int64) (l5 : Int64) (t0 : Int64) (z : PS) : Option PS := if l5 < (0 : Int64) then (bd ((l1 + (1 : Int64))) (fun v8 => k9 v8 z)) else (if (t0 * t0) = l5 then (ob (g_X8_adds ev z th l1 (((-l3) - t0) / (2 : Int64))) (fun z11 => if t0 ≤ (0 : Int64) then (bd ((l1 + (1 : Int64))) (fun v13 => k9 v13 z11)) else (ob (g_X8_adds ev z11 th l1 ((t0 - l3) / (2 : Int64))) (fun z14 => bd ((l1 + (1 : Int64))) (fun v15 => k9 v15 z14))))) else (bd ((l1 + (1 : Int64))) (fun v10 => k9 v10 z)))
set_option maxRecDepth 20000 in
set_option maxHeartbeats 4000000 in
theorem w_X8_laysPoints_91 {ev : EV} {th : Nat} {p : Program} {l : Launch} {e : Env} {s : State} {m : MethodId} {args : Array Value} {below : List Frame} {meth : Method} {c : Code} {z9 : PS} (S : CallFix p m c cX8_laysPoints 9 s args gT RX8) (hr : meth.sig.returnType = none) (hlk : meth.locks = false) (E : EWF ev) (hK : KK ev s) (hX : pXt ev s) (hth : isK ev 6 th) (k9 : (Int64 → PS → Option PS)) (hk9 : ∀ (l1 : Int64) (z : PS) (ls : Array Slot) (H : Heap) (locs : List Loc), k9 l1 z = some z9 → lv_has ls 9 [(0, .ref th), (1, .long l1)] → Wd ev z H → SS ev s H locs → W p l e (pR 1 40) s m args below meth c H locs 0 0 (MQ below (pQv ev z9) args s 0 0 (eA ev)) (F0 m 9 ls [])) : ∀ (l1 : Int64) (l3 : Int64) (l5 : Int64) (t0 : Int64) (z : PS) (ls : Array Slot) (H : Heap) (locs : List Loc), q_X8_laysPoints_91 ev th k9 l1 l3 l5 t0 z = some z9 → lv_has ls 9 [(0, .ref th), (1, .long l1), (3, .long l3), (5, .long l5)] → Wd ev z H → SS ev s H locs → W p l e (pR 1 40) s m args below meth c H locs 0 0 (MQ below (pQv ev z9) args s 0 0 (eA ev)) (F0 m 91 ls [.long t0]) := by
  intro l1 l3 l5 t0 z ls H locs h hl hP hS
  unfold q_X8_laysPoints_91 at h
  refine lv_lstore (lv' := [(7, .long t0), (0, .ref th), (1, .long l1), (3, .long l3), (5, .long l5)]) S.1 S.2.1 dX8_laysPoints_91 hl (by decide) rfl (fun ls hl => ?_)
  refine lv_lload S.1 S.2.1 dX8_laysPoints_93 (lv_at hl 4 rfl) ?_
  refine lv_lconst (v := 0) S.1 S.2.1 dX8_laysPoints_95 (by decide) ?_
  refine pm_llt (tgt := 145) S dX8_laysPoints_96 dX8_laysPoints_97 (by decide) (fun c7 => ?_) (fun c7 => ?_)
  · rw [if_pos c7] at h
    refine lv_lload_n S.1 S.2.1 dX8_laysPoints_145 rfl (lv_at hl 2 rfl) ?_
    refine lv_lconst (v := 1) S.1 S.2.1 dX8_laysPoints_146 (by decide) ?_
    refine lv_ladd S.1 S.2.1 dX8_laysPoints_147 ?_
    obtain ⟨v8, ev8, h⟩ := bd_s h
    refine pm_nmL ev8 ?_
    refine lv_lstore_n (lv' := [(1, .long v8), (7, .long t0), (0, .ref th), (3, .long l3), (5, .long l5)]) S.1 S.2.1 dX8_laysPoints_148 rfl hl (by decide) rfl (fun ls hl => ?_)
    refine lv_goto (tgt := 9) S.1 S.2.1 dX8_laysPoints_149 (by decide) ?_
    exact hk9 v8 z ls _ _ h (lv_sub hl [2, 0] rfl) hP hS
  · rw [if_neg c7] at h
    refine lv_lload S.1 S.2.1 dX8_laysPoints_100 (lv_at hl 0 rfl) ?_
    refine lv_lload S.1 S.2.1 dX8_laysPoints_102 (lv_at hl 0 rfl) ?_
    refine lv_lmul S.1 S.2.1 dX8_laysPoints_104 ?_
    refine lv_lload S.1 S.2.1 dX8_laysPoints_105 (lv_at hl 4 rfl) ?_
    refine pm_lne (tgt := 145) S dX8_laysPoints_107 dX8_laysPoints_108 (by decide) (fun c9 => ?_) (fun c9 => ?_)
    · rw [if_neg c9] at h
      refine lv_lload_n S.1 S.2.1 dX8_laysPoints_145 rfl (lv_at hl 2 rfl) ?_
      refine lv_lconst (v := 1) S.1 S.2.1 dX8_laysPoints_146 (by decide) ?_
      refine lv_ladd S.1 S.2.1 dX8_laysPoints_147 ?_
      obtain ⟨v10, ev10, h⟩ := bd_s h
      refine pm_nmL ev10 ?_
      refine lv_lstore_n (lv' := [(1, .long v10), (7, .long t0), (0, .ref th), (3, .long l3), (5, .long l5)]) S.1 S.2.1 dX8_laysPoints_148 rfl hl (by decide) rfl (fun ls hl => ?_)
      refine lv_goto (tgt := 9) S.1 S.2.1 dX8_laysPoints_149 (by decide) ?_
      exact hk9 v10 z ls _ _ h (lv_sub hl [2, 0] rfl) hP hS
    · rw [if_pos c9] at h
      refine lv_aload_n S.1 S.2.1 dX8_laysPoints_111 rfl (lv_at hl 1 rfl) ?_
      refine lv_lload_n S.1 S.2.1 dX8_laysPoints_112 rfl (lv_at hl 2 rfl) ?_
      refine lv_lload_n S.1 S.2.1 dX8_laysPoints_113 rfl (lv_at hl 3 rfl) ?_
      refine lv_lneg S.1 S.2.1 dX8_laysPoints_114 ?_
      refine lv_lload S.1 S.2.1 dX8_laysPoints_115 (lv_at hl 0 rfl) ?_
      refine lv_lsub S.1 S.2.1 dX8_laysPoints_117 ?_
      refine pm_ldc2 S mw_4_59 dX8_laysPoints_118 ?_
      refine lv_ldiv S.1 S.2.1 dX8_laysPoints_121 (by decide) ?_
      obtain ⟨z11, ez11, h⟩ := ob_s h
      refine pm_cVv (As := [.long l1, .long (((-l3) - t0) / (2 : Int64))]) (rest := []) S hK hX hP hS (c_X8_adds l ev z E hth th l1 (((-l3) - t0) / (2 : Int64)) z11 ez11) vm_X8_adds mw_5_123 (rc_6 hK hP hth) ⟨⟨rfl, rfl⟩, by decide, by decide⟩ rfl hl.1 rfl (Nat.le_of_ble_eq_true rfl) ⟨Nat.zero_le _, Nat.zero_le _⟩ dX8_laysPoints_122 (fun H locs hP hS => ?_)
      refine lv_lload S.1 S.2.1 dX8_laysPoints_125 (lv_at hl 0 rfl) ?_
      refine lv_lconst (v := 0) S.1 S.2.1 dX8_laysPoints_127 (by decide) ?_
      refine pm_lle (tgt := 145) S dX8_laysPoints_128 dX8_laysPoints_129 (by decide) (fun c12 => ?_) (fun c12 => ?_)
      · rw [if_pos c12] at h
        refine lv_lload_n S.1 S.2.1 dX8_laysPoints_145 rfl (lv_at hl 2 rfl) ?_
        refine lv_lconst (v := 1) S.1 S.2.1 dX8_laysPoints_146 (by decide) ?_
        refine lv_ladd S.1 S.2.1 dX8_laysPoints_147 ?_
        obtain ⟨v13, ev13, h⟩ := bd_s h
        refine pm_nmL ev13 ?_
        refine lv_lstore_n (lv' := [(1, .long v13), (7, .long t0), (0, .ref th), (3, .long l3), (5, .long l5)]) S.1 S.2.1 dX8_laysPoints_148 rfl hl (by decide) rfl (fun ls hl => ?_)
        refine lv_goto (tgt := 9) S.1 S.2.1 dX8_laysPoints_149 (by decide) ?_
        exact hk9 v13 z11 ls _ _ h (lv_sub hl [2, 0] rfl) hP hS
      · rw [if_neg c12] at h
        refine lv_aload_n S.1 S.2.1 dX8_laysPoints_132 rfl (lv_at hl 1 rfl) ?_
        refine lv_lload_n S.1 S.2.1 dX8_laysPoints_133 rfl (lv_at hl 2 rfl) ?_
        refine lv_lload S.1 S.2.1 dX8_laysPoints_134 (lv_at hl 0 rfl) ?_
        refine lv_lload_n S.1 S.2.1 dX8_laysPoints_136 rfl (lv_at hl 3 rfl) ?_
        refine lv_lsub S.1 S.2.1 dX8_laysPoints_137 ?_
        refine pm_ldc2 S mw_4_59 dX8_laysPoints_138 ?_
        refine lv_ldiv S.1 S.2.1 dX8_laysPoints_141 (by decide) ?_
        obtain ⟨z14, ez14, h⟩ := ob_s h
        refine pm_cVv (As := [.long l1, .long ((t0 - l3) / (2 : Int64))]) (rest := []) S hK hX hP hS (c_X8_adds l ev z11 E hth th l1 ((t0 - l3) / (2 : Int64)) z14 ez14) vm_X8_adds mw_5_123 (rc_6 hK hP hth) ⟨⟨rfl, rfl⟩, by decide, by decide⟩ rfl hl.1 rfl (Nat.le_of_ble_eq_true rfl) ⟨Nat.zero_le _, Nat.zero_le _⟩ dX8_laysPoints_142 (fun H locs hP hS => ?_)
        refine lv_lload_n S.1 S.2.1 dX8_laysPoints_145 rfl (lv_at hl 2 rfl) ?_
        refine lv_lconst (v := 1) S.1 S.2.1 dX8_laysPoints_146 (by decide) ?_
        refine lv_ladd S.1 S.2.1 dX8_laysPoints_147 ?_
        obtain ⟨v15, ev15, h⟩ := bd_s h
        refine pm_nmL ev15 ?_
        refine lv_lstore_n (lv' := [(1, .long v15), (7, .long t0), (0, .ref th), (3, .long l3), (5, .long l5)]) S.1 S.2.1 dX8_laysPoints_148 rfl hl (by decide) rfl (fun ls hl => ?_)
        refine lv_goto (tgt := 9) S.1 S.2.1 dX8_laysPoints_149 (by decide) ?_
        exact hk9 v15 z14 ls _ _ h (lv_sub hl [2, 0] rfl) hP hS
def q_X8_laysPoints_9 (ev : EV) (th : Nat) : Nat → Int64 → PS → Option PS
  | 0, _, _ => none
  | n + 1, l1, z => if (60 : Int64) < l1 then (some z) else (bd ((((rJ z (rf ev 123 th) 0) * l1) + (rJ z (rf ev 123 th) 2))) (fun v3 => bd (((v3 * v3) + ((4 : Int64) * (((((l1 * l1) * l1) + (((rJ z (rf ev 123 th) 1) * l1) * l1)) + ((rJ z (rf ev 123 th) 3) * l1)) + (rJ z (rf ev 123 th) 4))))) (fun v4 => if (0 : Int64) ≤ v4 then (ob (g_X8_rootOf v4) (fun v6 => q_X8_laysPoints_91 ev th (q_X8_laysPoints_9 ev th n) l1 v3 v4 v6 z)) else (q_X8_laysPoints_91 ev th (q_X8_laysPoints_9 ev th n) l1 v3 v4 (0 : Int64) z))))
set_option maxRecDepth 20000 in
set_option maxHeartbeats 4000000 in
theorem w_X8_laysPoints_9 {ev : EV} {th : Nat} {p : Program} {l : Launch} {e : Env} {s : State} {m : MethodId} {args : Array Value} {below : List Frame} {meth : Method} {c : Code} {z9 : PS} (S : CallFix p m c cX8_laysPoints 9 s args gT RX8) (hr : meth.sig.returnType = none) (hlk : meth.locks = false) (E : EWF ev) (hK : KK ev s) (hX : pXt ev s) (hth : isK ev 6 th) : ∀ (n : Nat), ∀ (l1 : Int64) (z : PS) (ls : Array Slot) (H : Heap) (locs : List Loc), q_X8_laysPoints_9 ev th n l1 z = some z9 → lv_has ls 9 [(0, .ref th), (1, .long l1)] → Wd ev z H → SS ev s H locs → W p l e (pR 1 40) s m args below meth c H locs 0 0 (MQ below (pQv ev z9) args s 0 0 (eA ev)) (F0 m 9 ls []) := by
  intro n
  induction n with
  | zero => intro l1 z ls H locs h; cases h
  | succ n ih =>
    intro l1 z ls H locs h hl hP hS
    rw [q_X8_laysPoints_9] at h
    refine lv_lload_n S.1 S.2.1 dX8_laysPoints_9 rfl (lv_at hl 1 rfl) ?_
    refine pm_ldc2 S mw_5_118 dX8_laysPoints_10 ?_
    refine pm_lgt (tgt := 152) S dX8_laysPoints_13 dX8_laysPoints_14 (by decide) (fun c2 => ?_) (fun c2 => ?_)
    · rw [if_pos c2] at h
      exact pm_vretW S hr hlk hP hS (Option.some.inj h) dX8_laysPoints_152
    · rw [if_neg c2] at h
      refine lv_aload_n S.1 S.2.1 dX8_laysPoints_17 rfl (lv_at hl 0 rfl) ?_
      refine gf_6_3 S hK hP hth mw_3_224 dX8_laysPoints_18 ?_
      refine lv_iconst (v := 0) S.1 S.2.1 dX8_laysPoints_21 (by decide) ?_
      refine al_J S hK hP (E_6_3 E hth) (by rw [N_6_3 E hth]; decide) dX8_laysPoints_22 ?_
      refine pm_nmL (v := (rJ z (rf ev 123 th) 0)) rfl ?_
      refine lv_lload_n S.1 S.2.1 dX8_laysPoints_23 rfl (lv_at hl 1 rfl) ?_
      refine lv_lmul S.1 S.2.1 dX8_laysPoints_24 ?_
      refine lv_aload_n S.1 S.2.1 dX8_laysPoints_25 rfl (lv_at hl 0 rfl) ?_
      refine gf_6_3 S hK hP hth mw_3_224 dX8_laysPoints_26 ?_
      refine lv_iconst (v := 2) S.1 S.2.1 dX8_laysPoints_29 (by decide) ?_
      refine al_J S hK hP (E_6_3 E hth) (by rw [N_6_3 E hth]; decide) dX8_laysPoints_30 ?_
      refine pm_nmL (v := (rJ z (rf ev 123 th) 2)) rfl ?_
      refine lv_ladd S.1 S.2.1 dX8_laysPoints_31 ?_
      obtain ⟨v3, ev3, h⟩ := bd_s h
      refine pm_nmL ev3 ?_
      refine lv_lstore_n (lv' := [(3, .long v3), (0, .ref th), (1, .long l1)]) S.1 S.2.1 dX8_laysPoints_32 rfl hl (by decide) rfl (fun ls hl => ?_)
      refine lv_lload_n S.1 S.2.1 dX8_laysPoints_33 rfl (lv_at hl 0 rfl) ?_
      refine lv_lload_n S.1 S.2.1 dX8_laysPoints_34 rfl (lv_at hl 0 rfl) ?_
      refine lv_lmul S.1 S.2.1 dX8_laysPoints_35 ?_
      refine pm_ldc2 S mw_4_54 dX8_laysPoints_36 ?_
      refine lv_lload_n S.1 S.2.1 dX8_laysPoints_39 rfl (lv_at hl 2 rfl) ?_
      refine lv_lload_n S.1 S.2.1 dX8_laysPoints_40 rfl (lv_at hl 2 rfl) ?_
      refine lv_lmul S.1 S.2.1 dX8_laysPoints_41 ?_
      refine lv_lload_n S.1 S.2.1 dX8_laysPoints_42 rfl (lv_at hl 2 rfl) ?_
      refine lv_lmul S.1 S.2.1 dX8_laysPoints_43 ?_
      refine lv_aload_n S.1 S.2.1 dX8_laysPoints_44 rfl (lv_at hl 1 rfl) ?_
      refine gf_6_3 S hK hP hth mw_3_224 dX8_laysPoints_45 ?_
      refine lv_iconst (v := 1) S.1 S.2.1 dX8_laysPoints_48 (by decide) ?_
      refine al_J S hK hP (E_6_3 E hth) (by rw [N_6_3 E hth]; decide) dX8_laysPoints_49 ?_
      refine pm_nmL (v := (rJ z (rf ev 123 th) 1)) rfl ?_
      refine lv_lload_n S.1 S.2.1 dX8_laysPoints_50 rfl (lv_at hl 2 rfl) ?_
      refine lv_lmul S.1 S.2.1 dX8_laysPoints_51 ?_
      refine lv_lload_n S.1 S.2.1 dX8_laysPoints_52 rfl (lv_at hl 2 rfl) ?_
      refine lv_lmul S.1 S.2.1 dX8_laysPoints_53 ?_
      refine lv_ladd S.1 S.2.1 dX8_laysPoints_54 ?_
      refine lv_aload_n S.1 S.2.1 dX8_laysPoints_55 rfl (lv_at hl 1 rfl) ?_
      refine gf_6_3 S hK hP hth mw_3_224 dX8_laysPoints_56 ?_
      refine lv_iconst (v := 3) S.1 S.2.1 dX8_laysPoints_59 (by decide) ?_
      refine al_J S hK hP (E_6_3 E hth) (by rw [N_6_3 E hth]; decide) dX8_laysPoints_60 ?_
      refine pm_nmL (v := (rJ z (rf ev 123 th) 3)) rfl ?_
      refine lv_lload_n S.1 S.2.1 dX8_laysPoints_61 rfl (lv_at hl 2 rfl) ?_
      refine lv_lmul S.1 S.2.1 dX8_laysPoints_62 ?_
      refine lv_ladd S.1 S.2.1 dX8_laysPoints_63 ?_
      refine lv_aload_n S.1 S.2.1 dX8_laysPoints_64 rfl (lv_at hl 1 rfl) ?_
      refine gf_6_3 S hK hP hth mw_3_224 dX8_laysPoints_65 ?_
      refine lv_iconst (v := 4) S.1 S.2.1 dX8_laysPoints_68 (by decide) ?_
      refine al_J S hK hP (E_6_3 E hth) (by rw [N_6_3 E hth]; decide) dX8_laysPoints_69 ?_
      refine pm_nmL (v := (rJ z (rf ev 123 th) 4)) rfl ?_
      refine lv_ladd S.1 S.2.1 dX8_laysPoints_70 ?_
      refine lv_lmul S.1 S.2.1 dX8_laysPoints_71 ?_
      refine lv_ladd S.1 S.2.1 dX8_laysPoints_72 ?_
      obtain ⟨v4, ev4, h⟩ := bd_s h
      refine pm_nmL ev4 ?_
      refine lv_lstore (lv' := [(5, .long v4), (3, .long v3), (0, .ref th), (1, .long l1)]) S.1 S.2.1 dX8_laysPoints_73 hl (by decide) rfl (fun ls hl => ?_)
      refine lv_lload S.1 S.2.1 dX8_laysPoints_75 (lv_at hl 0 rfl) ?_
      refine lv_lconst (v := 0) S.1 S.2.1 dX8_laysPoints_77 (by decide) ?_
      refine pm_lge (tgt := 86) S dX8_laysPoints_78 dX8_laysPoints_79 (by decide) (fun c5 => ?_) (fun c5 => ?_)
      · rw [if_pos c5] at h
        refine lv_lload S.1 S.2.1 dX8_laysPoints_86 (lv_at hl 0 rfl) ?_
        obtain ⟨v6, ev6, h⟩ := ob_s h
        refine pm_cS (As := [.long v4]) (rest := []) S (c_X8_rootOf l v4 v6 ev6) sm_X8_rootOf mw_5_119 ⟨⟨rfl, rfl⟩, by decide, by decide⟩ rfl hl.1 rfl (Nat.le_of_ble_eq_true rfl) ⟨Nat.zero_le _, Nat.zero_le _⟩ dX8_laysPoints_88 ?_
        exact w_X8_laysPoints_91 S hr hlk E hK hX hth (q_X8_laysPoints_9 ev th n) ih l1 v3 v4 v6 z ls _ _ h (lv_sub hl [2, 3, 1, 0] rfl) hP hS
      · rw [if_neg c5] at h
        refine lv_lconst (v := 0) S.1 S.2.1 dX8_laysPoints_82 (by decide) ?_
        refine lv_goto (tgt := 91) S.1 S.2.1 dX8_laysPoints_83 (by decide) ?_
        exact w_X8_laysPoints_91 S hr hlk E hK hX hth (q_X8_laysPoints_9 ev th n) ih l1 v3 v4 (0 : Int64) z ls _ _ h (lv_sub hl [2, 3, 1, 0] rfl) hP hS
def g_X8_laysPoints (ev : EV) (z : PS) (th : Nat) : Option PS := bd (w32 z 135 th (0 : Int32)) (fun z1 => q_X8_laysPoints_9 ev th FU (-60 : Int64) z1)
set_option maxRecDepth 20000 in
set_option maxHeartbeats 4000000 in
theorem c_X8_laysPoints (l : Launch) (ev : EV) (z : PS) (E : EWF ev) {th : Nat} (hth : isK ev 6 th) (th_ : Nat) (z9 : PS) (h : g_X8_laysPoints ev z th = some z9) : Met l yX8_laysPoints (pWs yX8_laysPoints cX8_laysPoints 9 none) (pR 1 40) (va_Pc [.ref th] (pPe ev z)) (pQv ev z9) 0 0 (eA ev) := by
  refine pm_of (by decide) (Nat.le_of_ble_eq_true rfl) ?_
  intro p e s m below meth c S hr hlk hv ls hl
  obtain ⟨hP, hK, hX⟩ := hv
  have hS : SS ev s s.heap [] := va_S.rf
  have hl : lv_has ls 9 [(0, .ref th)] := hl
  unfold g_X8_laysPoints at h
  refine lv_aload_n S.1 S.2.1 dX8_laysPoints_0 rfl (lv_at hl 0 rfl) ?_
  refine lv_iconst (v := 0) S.1 S.2.1 dX8_laysPoints_1 (by decide) ?_
  obtain ⟨z1, ez1, h⟩ := bd_s h
  refine pf_6_15 S E hK hP hS hth mw_3_236 dX8_laysPoints_2 (fun H locs hP hS => ?_)
  rw [← ez1] at hP
  refine pm_ldc2 S mw_5_117 dX8_laysPoints_5 ?_
  refine lv_lstore_n (lv' := [(1, .long (-60 : Int64)), (0, .ref th)]) S.1 S.2.1 dX8_laysPoints_8 rfl hl (by decide) rfl (fun ls hl => ?_)
  exact w_X8_laysPoints_9 S hr hlk E hK hX hth FU (-60 : Int64) z1 ls _ _ h (lv_sub hl [1, 0] rfl) hP hS
theorem vm_X8_laysPoints : pm_Vm yX8_laysPoints cX8_laysPoints 9 none 0 := ⟨mw_5_116, mw_5_115, ms_783, mw_1_7, by decide, by decide⟩
def g_X8_small (ev : EV) (z : PS) (th : Nat) (l1 : Int32) : Option (Int32 × PS) := bd (w32 z 120 th (0 : Int32)) (fun z1 => ob (g_X8_isCurve ev z1 th l1) (fun v2 => if v2 = 0 then (some ((-1 : Int32), z1)) else (ob (g_X8_loads ev z1 th l1) (fun z4 => ob (g_X8_laysPoints ev z4 th) (fun z5 => some ((r32 z5 135 th), z5))))))
set_option maxRecDepth 20000 in
set_option maxHeartbeats 4000000 in
theorem c_X8_small (l : Launch) (ev : EV) (z : PS) (E : EWF ev) {th : Nat} (hth : isK ev 6 th) (th_ : Nat) (l1 : Int32) (r : Int32) (z9 : PS) (h : g_X8_small ev z th l1 = some (r, z9)) : Met l yX8_small (pWs yX8_small cX8_small 2 (some .int)) (pR 2 80) (va_Pc [.ref th, .int l1] (pPe ev z)) (pQi ev r z9) 0 0 (eA ev) := by
  refine pm_of (by decide) (Nat.le_of_ble_eq_true rfl) ?_
  intro p e s m below meth c S hr hlk hv ls hl
  obtain ⟨hP, hK, hX⟩ := hv
  have hS : SS ev s s.heap [] := va_S.rf
  have hl : lv_has ls 2 [(0, .ref th), (1, .int l1)] := hl
  unfold g_X8_small at h
  refine lv_aload_n S.1 S.2.1 dX8_small_0 rfl (lv_at hl 0 rfl) ?_
  refine lv_iconst (v := 0) S.1 S.2.1 dX8_small_1 (by decide) ?_
  obtain ⟨z1, ez1, h⟩ := bd_s h
  refine pf_6_0 S E hK hP hS hth mw_3_221 dX8_small_2 (fun H locs hP hS => ?_)
  rw [← ez1] at hP
  refine lv_aload_n S.1 S.2.1 dX8_small_5 rfl (lv_at hl 0 rfl) ?_
  refine lv_iload_n S.1 S.2.1 dX8_small_6 rfl (lv_at hl 1 rfl) ?_
  obtain ⟨v2, ev2, h⟩ := ob_s h
  refine pm_cVr (As := [.int l1]) (rest := []) S hK hX hP hS (c_X8_isCurve l ev z1 E hth th l1 v2 ev2) vm_X8_isCurve mw_4_87 (rc_6 hK hP hth) ⟨⟨rfl, rfl⟩, by decide, by decide⟩ rfl hl.1 rfl (Nat.le_of_ble_eq_true rfl) ⟨Nat.zero_le _, Nat.zero_le _⟩ dX8_small_7 ?_
  refine lv_if_ne (tgt := 15) S.1 S.2.1 dX8_small_10 (by decide) (fun c3 => ?_) (fun c3 => ?_)
  · rw [if_neg c3] at h
    refine lv_aload_n S.1 S.2.1 dX8_small_15 rfl (lv_at hl 0 rfl) ?_
    refine lv_iload_n S.1 S.2.1 dX8_small_16 rfl (lv_at hl 1 rfl) ?_
    obtain ⟨z4, ez4, h⟩ := ob_s h
    refine pm_cVv (As := [.int l1]) (rest := []) S hK hX hP hS (c_X8_loads l ev z1 E hth th l1 z4 ez4) vm_X8_loads mw_4_91 (rc_6 hK hP hth) ⟨⟨rfl, rfl⟩, by decide, by decide⟩ rfl hl.1 rfl (Nat.le_of_ble_eq_true rfl) ⟨Nat.zero_le _, Nat.zero_le _⟩ dX8_small_17 (fun H locs hP hS => ?_)
    refine lv_aload_n S.1 S.2.1 dX8_small_20 rfl (lv_at hl 0 rfl) ?_
    obtain ⟨z5, ez5, h⟩ := ob_s h
    refine pm_cVv (As := []) (rest := []) S hK hX hP hS (c_X8_laysPoints l ev z4 E hth th z5 ez5) vm_X8_laysPoints mw_5_113 (rc_6 hK hP hth) ⟨⟨rfl, rfl⟩, by decide, by decide⟩ rfl hl.1 rfl (Nat.le_of_ble_eq_true rfl) ⟨Nat.zero_le _, Nat.zero_le _⟩ dX8_small_21 (fun H locs hP hS => ?_)
    refine lv_aload_n S.1 S.2.1 dX8_small_24 rfl (lv_at hl 0 rfl) ?_
    refine gf_6_15 S hK hP hth mw_3_236 dX8_small_25 ?_
    have h9 := Option.some.inj h
    exact pm_iretW S hr hlk hP hS (congrArg Prod.fst h9) (congrArg Prod.snd h9) dX8_small_28
  · rw [if_pos c3] at h
    refine lv_iconst (v := -1) S.1 S.2.1 dX8_small_13 (by decide) ?_
    have h9 := Option.some.inj h
    exact pm_iretW S hr hlk hP hS (congrArg Prod.fst h9) (congrArg Prod.snd h9) dX8_small_14
theorem vm_X8_small : pm_Vm yX8_small cX8_small 2 (some .int) 1 := ⟨mw_5_112, mw_5_110, mw_5_111, mw_1_7, by decide, by decide⟩
def q_X8_point_50 (ev : EV) (th : Nat) (l2 : Int32) (l3 : Int32) (t0 : Int32) (z : PS) : Option (Int32 × PS) := bd (w32 z 120 th t0) (fun z10 => if (r32 z10 120 th) ≤ 0 then (ck (inB (((2 : Int32) * l2) + l3) 484) (some (((rJ z10 (rf ev 134 th) (((2 : Int32) * l2) + l3).toNatClampNeg).toInt32), z10))) else (some ((0 : Int32), z10)))
set_option maxRecDepth 20000 in
set_option maxHeartbeats 4000000 in
theorem w_X8_point_50 {ev : EV} {th : Nat} {p : Program} {l : Launch} {e : Env} {s : State} {m : MethodId} {args : Array Value} {below : List Frame} {meth : Method} {c : Code} {r : Int32} {z9 : PS} (S : CallFix p m c cX8_point 4 s args gT RX8) (hr : meth.sig.returnType = (some .int)) (hlk : meth.locks = false) (E : EWF ev) (hK : KK ev s) (hX : pXt ev s) (hth : isK ev 6 th) : ∀ (l2 : Int32) (l3 : Int32) (t0 : Int32) (z : PS) (ls : Array Slot) (H : Heap) (locs : List Loc), q_X8_point_50 ev th l2 l3 t0 z = some (r, z9) → lv_has ls 4 [(0, .ref th), (2, .int l2), (3, .int l3)] → Wd ev z H → SS ev s H locs → W p l e (pR 2 80) s m args below meth c H locs 0 0 (MQ below (pQi ev r z9) args s 0 0 (eA ev)) (F0 m 50 ls [.int t0, .ref th]) := by
  intro l2 l3 t0 z ls H locs h hl hP hS
  unfold q_X8_point_50 at h
  obtain ⟨z10, ez10, h⟩ := bd_s h
  refine pf_6_0 S E hK hP hS hth mw_3_221 dX8_point_50 (fun H locs hP hS => ?_)
  rw [← ez10] at hP
  refine lv_aload_n S.1 S.2.1 dX8_point_53 rfl (lv_at hl 0 rfl) ?_
  refine gf_6_0 S hK hP hth mw_3_221 dX8_point_54 ?_
  refine lv_if_le (tgt := 64) S.1 S.2.1 dX8_point_57 (by decide) (fun c11 => ?_) (fun c11 => ?_)
  · rw [if_pos c11] at h
    refine lv_aload_n S.1 S.2.1 dX8_point_64 rfl (lv_at hl 0 rfl) ?_
    refine gf_6_14 S hK hP hth mw_3_235 dX8_point_65 ?_
    refine lv_iconst (v := 2) S.1 S.2.1 dX8_point_68 (by decide) ?_
    refine lv_iload_n S.1 S.2.1 dX8_point_69 rfl (lv_at hl 1 rfl) ?_
    refine lv_imul S.1 S.2.1 dX8_point_70 ?_
    refine lv_iload_n S.1 S.2.1 dX8_point_71 rfl (lv_at hl 2 rfl) ?_
    refine lv_iadd S.1 S.2.1 dX8_point_72 ?_
    obtain ⟨hc12, h⟩ := ck_s h
    refine al_J S hK hP (E_6_14 E hth) (by rw [N_6_14 E hth]; exact hc12) dX8_point_73 ?_
    refine lv_l2i S.1 S.2.1 dX8_point_74 rfl ?_
    have h9 := Option.some.inj h
    exact pm_iretW S hr hlk hP hS (congrArg Prod.fst h9) (congrArg Prod.snd h9) dX8_point_75
  · rw [if_neg c11] at h
    refine lv_iconst (v := 0) S.1 S.2.1 dX8_point_60 (by decide) ?_
    refine lv_goto (tgt := 75) S.1 S.2.1 dX8_point_61 (by decide) ?_
    have h9 := Option.some.inj h
    exact pm_iretW S hr hlk hP hS (congrArg Prod.fst h9) (congrArg Prod.snd h9) dX8_point_75
def q_X8_point_49 (ev : EV) (th : Nat) (l2 : Int32) (l3 : Int32) (z : PS) : Option (Int32 × PS) := q_X8_point_50 ev th l2 l3 (1 : Int32) z
set_option maxRecDepth 20000 in
set_option maxHeartbeats 4000000 in
theorem w_X8_point_49 {ev : EV} {th : Nat} {p : Program} {l : Launch} {e : Env} {s : State} {m : MethodId} {args : Array Value} {below : List Frame} {meth : Method} {c : Code} {r : Int32} {z9 : PS} (S : CallFix p m c cX8_point 4 s args gT RX8) (hr : meth.sig.returnType = (some .int)) (hlk : meth.locks = false) (E : EWF ev) (hK : KK ev s) (hX : pXt ev s) (hth : isK ev 6 th) : ∀ (l2 : Int32) (l3 : Int32) (z : PS) (ls : Array Slot) (H : Heap) (locs : List Loc), q_X8_point_49 ev th l2 l3 z = some (r, z9) → lv_has ls 4 [(0, .ref th), (2, .int l2), (3, .int l3)] → Wd ev z H → SS ev s H locs → W p l e (pR 2 80) s m args below meth c H locs 0 0 (MQ below (pQi ev r z9) args s 0 0 (eA ev)) (F0 m 49 ls [.ref th]) := by
  intro l2 l3 z ls H locs h hl hP hS
  unfold q_X8_point_49 at h
  refine lv_iconst (v := 1) S.1 S.2.1 dX8_point_49 (by decide) ?_
  exact w_X8_point_50 S hr hlk E hK hX hth l2 l3 (1 : Int32) z ls _ _ h (lv_sub hl [0, 1, 2] rfl) hP hS
def q_X8_point_22 (ev : EV) (th : Nat) (l2 : Int32) (l3 : Int32) (z : PS) : Option (Int32 × PS) := if l2 < 0 then (q_X8_point_49 ev th l2 l3 z) else (if (r32 z 135 th) ≤ l2 then (q_X8_point_49 ev th l2 l3 z) else (ob (g_X8_within (l3.toInt64) (0 : Int64) (1 : Int64)) (fun v8 => if v8 = 0 then (q_X8_point_49 ev th l2 l3 z) else (q_X8_point_50 ev th l2 l3 (0 : Int32) z))))
set_option maxRecDepth 20000 in
set_option maxHeartbeats 4000000 in
theorem w_X8_point_22 {ev : EV} {th : Nat} {p : Program} {l : Launch} {e : Env} {s : State} {m : MethodId} {args : Array Value} {below : List Frame} {meth : Method} {c : Code} {r : Int32} {z9 : PS} (S : CallFix p m c cX8_point 4 s args gT RX8) (hr : meth.sig.returnType = (some .int)) (hlk : meth.locks = false) (E : EWF ev) (hK : KK ev s) (hX : pXt ev s) (hth : isK ev 6 th) : ∀ (l2 : Int32) (l3 : Int32) (z : PS) (ls : Array Slot) (H : Heap) (locs : List Loc), q_X8_point_22 ev th l2 l3 z = some (r, z9) → lv_has ls 4 [(0, .ref th), (2, .int l2), (3, .int l3)] → Wd ev z H → SS ev s H locs → W p l e (pR 2 80) s m args below meth c H locs 0 0 (MQ below (pQi ev r z9) args s 0 0 (eA ev)) (F0 m 22 ls []) := by
  intro l2 l3 z ls H locs h hl hP hS
  unfold q_X8_point_22 at h
  refine lv_aload_n S.1 S.2.1 dX8_point_22 rfl (lv_at hl 0 rfl) ?_
  refine lv_iload_n S.1 S.2.1 dX8_point_23 rfl (lv_at hl 1 rfl) ?_
  refine lv_if_lt (tgt := 49) S.1 S.2.1 dX8_point_24 (by decide) (fun c6 => ?_) (fun c6 => ?_)
  · rw [if_pos c6] at h
    exact w_X8_point_49 S hr hlk E hK hX hth l2 l3 z ls _ _ h (lv_sub hl [0, 1, 2] rfl) hP hS
  · rw [if_neg c6] at h
    refine lv_iload_n S.1 S.2.1 dX8_point_27 rfl (lv_at hl 1 rfl) ?_
    refine lv_aload_n S.1 S.2.1 dX8_point_28 rfl (lv_at hl 0 rfl) ?_
    refine gf_6_15 S hK hP hth mw_3_236 dX8_point_29 ?_
    refine lv_icmp_ge (tgt := 49) S.1 S.2.1 dX8_point_32 (by decide) (fun c7 => ?_) (fun c7 => ?_)
    · rw [if_pos c7] at h
      exact w_X8_point_49 S hr hlk E hK hX hth l2 l3 z ls _ _ h (lv_sub hl [0, 1, 2] rfl) hP hS
    · rw [if_neg c7] at h
      refine lv_iload_n S.1 S.2.1 dX8_point_35 rfl (lv_at hl 2 rfl) ?_
      refine lv_i2l S.1 S.2.1 dX8_point_36 rfl ?_
      refine lv_lconst (v := 0) S.1 S.2.1 dX8_point_37 (by decide) ?_
      refine lv_lconst (v := 1) S.1 S.2.1 dX8_point_38 (by decide) ?_
      obtain ⟨v8, ev8, h⟩ := ob_s h
      refine pm_cS (As := [.long (l3.toInt64), .long (0 : Int64), .long (1 : Int64)]) (rest := [.ref th]) S (c_X8_within l (l3.toInt64) (0 : Int64) (1 : Int64) v8 ev8) sm_X8_within mw_4_41 ⟨⟨rfl, rfl⟩, by decide, by decide⟩ rfl hl.1 rfl (Nat.le_of_ble_eq_true rfl) ⟨Nat.zero_le _, Nat.zero_le _⟩ dX8_point_39 ?_
      refine lv_if_eq (tgt := 49) S.1 S.2.1 dX8_point_42 (by decide) (fun c9 => ?_) (fun c9 => ?_)
      · rw [if_pos c9] at h
        exact w_X8_point_49 S hr hlk E hK hX hth l2 l3 z ls _ _ h (lv_sub hl [0, 1, 2] rfl) hP hS
      · rw [if_neg c9] at h
        refine lv_iconst (v := 0) S.1 S.2.1 dX8_point_45 (by decide) ?_
        refine lv_goto (tgt := 50) S.1 S.2.1 dX8_point_46 (by decide) ?_
        exact w_X8_point_50 S hr hlk E hK hX hth l2 l3 (0 : Int32) z ls _ _ h (lv_sub hl [0, 1, 2] rfl) hP hS
def g_X8_point (ev : EV) (z : PS) (th : Nat) (l1 : Int32) (l2 : Int32) (l3 : Int32) : Option (Int32 × PS) := bd (w32 z 135 th (0 : Int32)) (fun z1 => ob (g_X8_isCurve ev z1 th l1) (fun v2 => if v2 = 0 then (q_X8_point_22 ev th l2 l3 z1) else (ob (g_X8_loads ev z1 th l1) (fun z4 => ob (g_X8_laysPoints ev z4 th) (fun z5 => q_X8_point_22 ev th l2 l3 z5)))))
set_option maxRecDepth 20000 in
set_option maxHeartbeats 4000000 in
theorem c_X8_point (l : Launch) (ev : EV) (z : PS) (E : EWF ev) {th : Nat} (hth : isK ev 6 th) (th_ : Nat) (l1 : Int32) (l2 : Int32) (l3 : Int32) (r : Int32) (z9 : PS) (h : g_X8_point ev z th l1 l2 l3 = some (r, z9)) : Met l yX8_point (pWs yX8_point cX8_point 4 (some .int)) (pR 2 80) (va_Pc [.ref th, .int l1, .int l2, .int l3] (pPe ev z)) (pQi ev r z9) 0 0 (eA ev) := by
  refine pm_of (by decide) (Nat.le_of_ble_eq_true rfl) ?_
  intro p e s m below meth c S hr hlk hv ls hl
  obtain ⟨hP, hK, hX⟩ := hv
  have hS : SS ev s s.heap [] := va_S.rf
  have hl : lv_has ls 4 [(0, .ref th), (1, .int l1), (2, .int l2), (3, .int l3)] := hl
  unfold g_X8_point at h
  refine lv_aload_n S.1 S.2.1 dX8_point_0 rfl (lv_at hl 0 rfl) ?_
  refine lv_iconst (v := 0) S.1 S.2.1 dX8_point_1 (by decide) ?_
  obtain ⟨z1, ez1, h⟩ := bd_s h
  refine pf_6_15 S E hK hP hS hth mw_3_236 dX8_point_2 (fun H locs hP hS => ?_)
  rw [← ez1] at hP
  refine lv_aload_n S.1 S.2.1 dX8_point_5 rfl (lv_at hl 0 rfl) ?_
  refine lv_iload_n S.1 S.2.1 dX8_point_6 rfl (lv_at hl 1 rfl) ?_
  obtain ⟨v2, ev2, h⟩ := ob_s h
  refine pm_cVr (As := [.int l1]) (rest := []) S hK hX hP hS (c_X8_isCurve l ev z1 E hth th l1 v2 ev2) vm_X8_isCurve mw_4_87 (rc_6 hK hP hth) ⟨⟨rfl, rfl⟩, by decide, by decide⟩ rfl hl.1 rfl (Nat.le_of_ble_eq_true rfl) ⟨Nat.zero_le _, Nat.zero_le _⟩ dX8_point_7 ?_
  refine lv_if_eq (tgt := 22) S.1 S.2.1 dX8_point_10 (by decide) (fun c3 => ?_) (fun c3 => ?_)
  · rw [if_pos c3] at h
    exact w_X8_point_22 S hr hlk E hK hX hth l2 l3 z1 ls _ _ h (lv_sub hl [0, 2, 3] rfl) hP hS
  · rw [if_neg c3] at h
    refine lv_aload_n S.1 S.2.1 dX8_point_13 rfl (lv_at hl 0 rfl) ?_
    refine lv_iload_n S.1 S.2.1 dX8_point_14 rfl (lv_at hl 1 rfl) ?_
    obtain ⟨z4, ez4, h⟩ := ob_s h
    refine pm_cVv (As := [.int l1]) (rest := []) S hK hX hP hS (c_X8_loads l ev z1 E hth th l1 z4 ez4) vm_X8_loads mw_4_91 (rc_6 hK hP hth) ⟨⟨rfl, rfl⟩, by decide, by decide⟩ rfl hl.1 rfl (Nat.le_of_ble_eq_true rfl) ⟨Nat.zero_le _, Nat.zero_le _⟩ dX8_point_15 (fun H locs hP hS => ?_)
    refine lv_aload_n S.1 S.2.1 dX8_point_18 rfl (lv_at hl 0 rfl) ?_
    obtain ⟨z5, ez5, h⟩ := ob_s h
    refine pm_cVv (As := []) (rest := []) S hK hX hP hS (c_X8_laysPoints l ev z4 E hth th z5 ez5) vm_X8_laysPoints mw_5_113 (rc_6 hK hP hth) ⟨⟨rfl, rfl⟩, by decide, by decide⟩ rfl hl.1 rfl (Nat.le_of_ble_eq_true rfl) ⟨Nat.zero_le _, Nat.zero_le _⟩ dX8_point_19 (fun H locs hP hS => ?_)
    exact w_X8_point_22 S hr hlk E hK hX hth l2 l3 z5 ls _ _ h (lv_sub hl [0, 2, 3] rfl) hP hS
theorem vm_X8_point : pm_Vm yX8_point cX8_point 4 (some .int) 3 := ⟨mw_5_130, mw_5_128, mw_5_129, mw_1_7, by decide, by decide⟩
def q_X8_minus_43 (ev : EV) (th : Nat) : Nat → Int32 → Int32 → Int32 → PS → Option (Int32 × PS)
  | 0, _, _, _, _ => none
  | n + 1, l2, l3, l4, z => if (r32 z 135 th) ≤ l4 then (some (l3, z)) else (ck (inB ((2 : Int32) * l4) 484) (ck (inB ((2 : Int32) * l2) 484) (if (rJ z (rf ev 134 th) ((2 : Int32) * l4).toNatClampNeg) = (rJ z (rf ev 134 th) ((2 : Int32) * l2).toNatClampNeg) then (ck (inB (((2 : Int32) * l4) + (1 : Int32)) 484) (ck (inB (((2 : Int32) * l2) + (1 : Int32)) 484) (ck (inB ((2 : Int32) * l2) 484) (if (rJ z (rf ev 134 th) (((2 : Int32) * l4) + (1 : Int32)).toNatClampNeg) = (((-(rJ z (rf ev 134 th) (((2 : Int32) * l2) + (1 : Int32)).toNatClampNeg)) - ((rJ z (rf ev 123 th) 0) * (rJ z (rf ev 134 th) ((2 : Int32) * l2).toNatClampNeg))) - (rJ z (rf ev 123 th) 2)) then (if (1 : Int32) = 0 then (bd (l4 + (1 : Int32)) (fun v23 => q_X8_minus_43 ev th n l2 l3 v23 z)) else (bd (l4 + (1 : Int32)) (fun v24 => q_X8_minus_43 ev th n l2 l4 v24 z))) else (if (0 : Int32) = 0 then (bd (l4 + (1 : Int32)) (fun v20 => q_X8_minus_43 ev th n l2 l3 v20 z)) else (bd (l4 + (1 : Int32)) (fun v21 => q_X8_minus_43 ev th n l2 l4 v21 z))))))) else (if (0 : Int32) = 0 then (bd (l4 + (1 : Int32)) (fun v13 => q_X8_minus_43 ev th n l2 l3 v13 z)) else (bd (l4 + (1 : Int32)) (fun v14 => q_X8_minus_43 ev th n l2 l4 v14 z))))))
set_option maxRecDepth 20000 in
set_option maxHeartbeats 4000000 in
theorem w_X8_minus_43 {ev : EV} {th : Nat} {p : Program} {l : Launch} {e : Env} {s : State} {m : MethodId} {args : Array Value} {below : List Frame} {meth : Method} {c : Code} {r : Int32} {z9 : PS} (S : CallFix p m c cX8_minus 6 s args gT RX8) (hr : meth.sig.returnType = (some .int)) (hlk : meth.locks = false) (E : EWF ev) (hK : KK ev s) (hX : pXt ev s) (hth : isK ev 6 th) : ∀ (n : Nat), ∀ (l2 : Int32) (l3 : Int32) (l4 : Int32) (z : PS) (ls : Array Slot) (H : Heap) (locs : List Loc), q_X8_minus_43 ev th n l2 l3 l4 z = some (r, z9) → lv_has ls 6 [(0, .ref th), (2, .int l2), (3, .int l3), (4, .int l4)] → Wd ev z H → SS ev s H locs → W p l e (pR 2 80) s m args below meth c H locs 0 0 (MQ below (pQi ev r z9) args s 0 0 (eA ev)) (F0 m 43 ls []) := by
  intro n
  induction n with
  | zero => intro l2 l3 l4 z ls H locs h; cases h
  | succ n ih =>
    intro l2 l3 l4 z ls H locs h hl hP hS
    rw [q_X8_minus_43] at h
    refine lv_iload S.1 S.2.1 dX8_minus_43 (lv_at hl 3 rfl) ?_
    refine lv_aload_n S.1 S.2.1 dX8_minus_45 rfl (lv_at hl 0 rfl) ?_
    refine gf_6_15 S hK hP hth mw_3_236 dX8_minus_46 ?_
    refine lv_icmp_ge (tgt := 147) S.1 S.2.1 dX8_minus_49 (by decide) (fun c8 => ?_) (fun c8 => ?_)
    · rw [if_pos c8] at h
      refine lv_iload_n S.1 S.2.1 dX8_minus_147 rfl (lv_at hl 2 rfl) ?_
      have h9 := Option.some.inj h
      exact pm_iretW S hr hlk hP hS (congrArg Prod.fst h9) (congrArg Prod.snd h9) dX8_minus_148
    · rw [if_neg c8] at h
      refine lv_aload_n S.1 S.2.1 dX8_minus_52 rfl (lv_at hl 0 rfl) ?_
      refine gf_6_14 S hK hP hth mw_3_235 dX8_minus_53 ?_
      refine lv_iconst (v := 2) S.1 S.2.1 dX8_minus_56 (by decide) ?_
      refine lv_iload S.1 S.2.1 dX8_minus_57 (lv_at hl 3 rfl) ?_
      refine lv_imul S.1 S.2.1 dX8_minus_59 ?_
      obtain ⟨hc9, h⟩ := ck_s h
      refine al_J S hK hP (E_6_14 E hth) (by rw [N_6_14 E hth]; exact hc9) dX8_minus_60 ?_
      refine lv_aload_n S.1 S.2.1 dX8_minus_61 rfl (lv_at hl 0 rfl) ?_
      refine gf_6_14 S hK hP hth mw_3_235 dX8_minus_62 ?_
      refine lv_iconst (v := 2) S.1 S.2.1 dX8_minus_65 (by decide) ?_
      refine lv_iload_n S.1 S.2.1 dX8_minus_66 rfl (lv_at hl 1 rfl) ?_
      refine lv_imul S.1 S.2.1 dX8_minus_67 ?_
      obtain ⟨hc10, h⟩ := ck_s h
      refine al_J S hK hP (E_6_14 E hth) (by rw [N_6_14 E hth]; exact hc10) dX8_minus_68 ?_
      refine pm_lne (tgt := 126) S dX8_minus_69 dX8_minus_70 (by decide) (fun c11 => ?_) (fun c11 => ?_)
      · rw [if_neg c11] at h
        refine lv_iconst (v := 0) S.1 S.2.1 dX8_minus_126 (by decide) ?_
        refine lv_istore (lv' := [(5, .int (0 : Int32)), (0, .ref th), (2, .int l2), (3, .int l3), (4, .int l4)]) S.1 S.2.1 dX8_minus_127 hl (by decide) rfl (fun ls hl => ?_)
        refine lv_iload S.1 S.2.1 dX8_minus_129 (lv_at hl 0 rfl) ?_
        refine lv_if_eq (tgt := 139) S.1 S.2.1 dX8_minus_131 (by decide) (fun c12 => ?_) (fun c12 => ?_)
        · rw [if_pos c12] at h
          refine lv_iload_n S.1 S.2.1 dX8_minus_139 rfl (lv_at hl 3 rfl) ?_
          refine lv_istore_n (lv' := [(3, .int l3), (5, .int (0 : Int32)), (0, .ref th), (2, .int l2), (4, .int l4)]) S.1 S.2.1 dX8_minus_140 rfl hl (by decide) rfl (fun ls hl => ?_)
          obtain ⟨v13, ev13, h⟩ := bd_s h
          refine lv_iinc (v := v13) (lv' := [(4, .int v13), (3, .int l3), (5, .int (0 : Int32)), (0, .ref th), (2, .int l2)]) S.1 S.2.1 dX8_minus_141 hl (k := 4) rfl (by rw [ev13]; rfl) (by decide) rfl (fun ls hl => ?_)
          refine lv_goto (tgt := 43) S.1 S.2.1 dX8_minus_144 (by decide) ?_
          exact ih l2 l3 v13 z ls _ _ h (lv_sub hl [3, 4, 1, 0] rfl) hP hS
        · rw [if_neg c12] at h
          refine lv_iload S.1 S.2.1 dX8_minus_134 (lv_at hl 4 rfl) ?_
          refine lv_goto (tgt := 140) S.1 S.2.1 dX8_minus_136 (by decide) ?_
          refine lv_istore_n (lv' := [(3, .int l4), (5, .int (0 : Int32)), (0, .ref th), (2, .int l2), (4, .int l4)]) S.1 S.2.1 dX8_minus_140 rfl hl (by decide) rfl (fun ls hl => ?_)
          obtain ⟨v14, ev14, h⟩ := bd_s h
          refine lv_iinc (v := v14) (lv' := [(4, .int v14), (3, .int l4), (5, .int (0 : Int32)), (0, .ref th), (2, .int l2)]) S.1 S.2.1 dX8_minus_141 hl (k := 4) rfl (by rw [ev14]; rfl) (by decide) rfl (fun ls hl => ?_)
          refine lv_goto (tgt := 43) S.1 S.2.1 dX8_minus_144 (by decide) ?_
          exact ih l2 l4 v14 z ls _ _ h (lv_sub hl [3, 4, 1, 0] rfl) hP hS
      · rw [if_pos c11] at h
        refine lv_aload_n S.1 S.2.1 dX8_minus_73 rfl (lv_at hl 0 rfl) ?_
        refine gf_6_14 S hK hP hth mw_3_235 dX8_minus_74 ?_
        refine lv_iconst (v := 2) S.1 S.2.1 dX8_minus_77 (by decide) ?_
        refine lv_iload S.1 S.2.1 dX8_minus_78 (lv_at hl 3 rfl) ?_
        refine lv_imul S.1 S.2.1 dX8_minus_80 ?_
        refine lv_iconst (v := 1) S.1 S.2.1 dX8_minus_81 (by decide) ?_
        refine lv_iadd S.1 S.2.1 dX8_minus_82 ?_
        obtain ⟨hc15, h⟩ := ck_s h
        refine al_J S hK hP (E_6_14 E hth) (by rw [N_6_14 E hth]; exact hc15) dX8_minus_83 ?_
        refine lv_aload_n S.1 S.2.1 dX8_minus_84 rfl (lv_at hl 0 rfl) ?_
        refine gf_6_14 S hK hP hth mw_3_235 dX8_minus_85 ?_
        refine lv_iconst (v := 2) S.1 S.2.1 dX8_minus_88 (by decide) ?_
        refine lv_iload_n S.1 S.2.1 dX8_minus_89 rfl (lv_at hl 1 rfl) ?_
        refine lv_imul S.1 S.2.1 dX8_minus_90 ?_
        refine lv_iconst (v := 1) S.1 S.2.1 dX8_minus_91 (by decide) ?_
        refine lv_iadd S.1 S.2.1 dX8_minus_92 ?_
        obtain ⟨hc16, h⟩ := ck_s h
        refine al_J S hK hP (E_6_14 E hth) (by rw [N_6_14 E hth]; exact hc16) dX8_minus_93 ?_
        refine lv_lneg S.1 S.2.1 dX8_minus_94 ?_
        refine lv_aload_n S.1 S.2.1 dX8_minus_95 rfl (lv_at hl 0 rfl) ?_
        refine gf_6_3 S hK hP hth mw_3_224 dX8_minus_96 ?_
        refine lv_iconst (v := 0) S.1 S.2.1 dX8_minus_99 (by decide) ?_
        refine al_J S hK hP (E_6_3 E hth) (by rw [N_6_3 E hth]; decide) dX8_minus_100 ?_
        refine pm_nmL (v := (rJ z (rf ev 123 th) 0)) rfl ?_
        refine lv_aload_n S.1 S.2.1 dX8_minus_101 rfl (lv_at hl 0 rfl) ?_
        refine gf_6_14 S hK hP hth mw_3_235 dX8_minus_102 ?_
        refine lv_iconst (v := 2) S.1 S.2.1 dX8_minus_105 (by decide) ?_
        refine lv_iload_n S.1 S.2.1 dX8_minus_106 rfl (lv_at hl 1 rfl) ?_
        refine lv_imul S.1 S.2.1 dX8_minus_107 ?_
        obtain ⟨hc17, h⟩ := ck_s h
        refine al_J S hK hP (E_6_14 E hth) (by rw [N_6_14 E hth]; exact hc17) dX8_minus_108 ?_
        refine lv_lmul S.1 S.2.1 dX8_minus_109 ?_
        refine lv_lsub S.1 S.2.1 dX8_minus_110 ?_
        refine lv_aload_n S.1 S.2.1 dX8_minus_111 rfl (lv_at hl 0 rfl) ?_
        refine gf_6_3 S hK hP hth mw_3_224 dX8_minus_112 ?_
        refine lv_iconst (v := 2) S.1 S.2.1 dX8_minus_115 (by decide) ?_
        refine al_J S hK hP (E_6_3 E hth) (by rw [N_6_3 E hth]; decide) dX8_minus_116 ?_
        refine pm_nmL (v := (rJ z (rf ev 123 th) 2)) rfl ?_
        refine lv_lsub S.1 S.2.1 dX8_minus_117 ?_
        refine pm_lne (tgt := 126) S dX8_minus_118 dX8_minus_119 (by decide) (fun c18 => ?_) (fun c18 => ?_)
        · rw [if_neg c18] at h
          refine lv_iconst (v := 0) S.1 S.2.1 dX8_minus_126 (by decide) ?_
          refine lv_istore (lv' := [(5, .int (0 : Int32)), (0, .ref th), (2, .int l2), (3, .int l3), (4, .int l4)]) S.1 S.2.1 dX8_minus_127 hl (by decide) rfl (fun ls hl => ?_)
          refine lv_iload S.1 S.2.1 dX8_minus_129 (lv_at hl 0 rfl) ?_
          refine lv_if_eq (tgt := 139) S.1 S.2.1 dX8_minus_131 (by decide) (fun c19 => ?_) (fun c19 => ?_)
          · rw [if_pos c19] at h
            refine lv_iload_n S.1 S.2.1 dX8_minus_139 rfl (lv_at hl 3 rfl) ?_
            refine lv_istore_n (lv' := [(3, .int l3), (5, .int (0 : Int32)), (0, .ref th), (2, .int l2), (4, .int l4)]) S.1 S.2.1 dX8_minus_140 rfl hl (by decide) rfl (fun ls hl => ?_)
            obtain ⟨v20, ev20, h⟩ := bd_s h
            refine lv_iinc (v := v20) (lv' := [(4, .int v20), (3, .int l3), (5, .int (0 : Int32)), (0, .ref th), (2, .int l2)]) S.1 S.2.1 dX8_minus_141 hl (k := 4) rfl (by rw [ev20]; rfl) (by decide) rfl (fun ls hl => ?_)
            refine lv_goto (tgt := 43) S.1 S.2.1 dX8_minus_144 (by decide) ?_
            exact ih l2 l3 v20 z ls _ _ h (lv_sub hl [3, 4, 1, 0] rfl) hP hS
          · rw [if_neg c19] at h
            refine lv_iload S.1 S.2.1 dX8_minus_134 (lv_at hl 4 rfl) ?_
            refine lv_goto (tgt := 140) S.1 S.2.1 dX8_minus_136 (by decide) ?_
            refine lv_istore_n (lv' := [(3, .int l4), (5, .int (0 : Int32)), (0, .ref th), (2, .int l2), (4, .int l4)]) S.1 S.2.1 dX8_minus_140 rfl hl (by decide) rfl (fun ls hl => ?_)
            obtain ⟨v21, ev21, h⟩ := bd_s h
            refine lv_iinc (v := v21) (lv' := [(4, .int v21), (3, .int l4), (5, .int (0 : Int32)), (0, .ref th), (2, .int l2)]) S.1 S.2.1 dX8_minus_141 hl (k := 4) rfl (by rw [ev21]; rfl) (by decide) rfl (fun ls hl => ?_)
            refine lv_goto (tgt := 43) S.1 S.2.1 dX8_minus_144 (by decide) ?_
            exact ih l2 l4 v21 z ls _ _ h (lv_sub hl [3, 4, 1, 0] rfl) hP hS
        · rw [if_pos c18] at h
          refine lv_iconst (v := 1) S.1 S.2.1 dX8_minus_122 (by decide) ?_
          refine lv_goto (tgt := 127) S.1 S.2.1 dX8_minus_123 (by decide) ?_
          refine lv_istore (lv' := [(5, .int (1 : Int32)), (0, .ref th), (2, .int l2), (3, .int l3), (4, .int l4)]) S.1 S.2.1 dX8_minus_127 hl (by decide) rfl (fun ls hl => ?_)
          refine lv_iload S.1 S.2.1 dX8_minus_129 (lv_at hl 0 rfl) ?_
          refine lv_if_eq (tgt := 139) S.1 S.2.1 dX8_minus_131 (by decide) (fun c22 => ?_) (fun c22 => ?_)
          · rw [if_pos c22] at h
            refine lv_iload_n S.1 S.2.1 dX8_minus_139 rfl (lv_at hl 3 rfl) ?_
            refine lv_istore_n (lv' := [(3, .int l3), (5, .int (1 : Int32)), (0, .ref th), (2, .int l2), (4, .int l4)]) S.1 S.2.1 dX8_minus_140 rfl hl (by decide) rfl (fun ls hl => ?_)
            obtain ⟨v23, ev23, h⟩ := bd_s h
            refine lv_iinc (v := v23) (lv' := [(4, .int v23), (3, .int l3), (5, .int (1 : Int32)), (0, .ref th), (2, .int l2)]) S.1 S.2.1 dX8_minus_141 hl (k := 4) rfl (by rw [ev23]; rfl) (by decide) rfl (fun ls hl => ?_)
            refine lv_goto (tgt := 43) S.1 S.2.1 dX8_minus_144 (by decide) ?_
            exact ih l2 l3 v23 z ls _ _ h (lv_sub hl [3, 4, 1, 0] rfl) hP hS
          · rw [if_neg c22] at h
            refine lv_iload S.1 S.2.1 dX8_minus_134 (lv_at hl 4 rfl) ?_
            refine lv_goto (tgt := 140) S.1 S.2.1 dX8_minus_136 (by decide) ?_
            refine lv_istore_n (lv' := [(3, .int l4), (5, .int (1 : Int32)), (0, .ref th), (2, .int l2), (4, .int l4)]) S.1 S.2.1 dX8_minus_140 rfl hl (by decide) rfl (fun ls hl => ?_)
            obtain ⟨v24, ev24, h⟩ := bd_s h
            refine lv_iinc (v := v24) (lv' := [(4, .int v24), (3, .int l4), (5, .int (1 : Int32)), (0, .ref th), (2, .int l2)]) S.1 S.2.1 dX8_minus_141 hl (k := 4) rfl (by rw [ev24]; rfl) (by decide) rfl (fun ls hl => ?_)
            refine lv_goto (tgt := 43) S.1 S.2.1 dX8_minus_144 (by decide) ?_
            exact ih l2 l4 v24 z ls _ _ h (lv_sub hl [3, 4, 1, 0] rfl) hP hS
def g_X8_minus (ev : EV) (z : PS) (th : Nat) (l1 : Int32) (l2 : Int32) : Option (Int32 × PS) := bd (w32 z 120 th (0 : Int32)) (fun z1 => ob (g_X8_isCurve ev z1 th l1) (fun v2 => if v2 = 0 then (some ((-1 : Int32), z1)) else (ob (g_X8_loads ev z1 th l1) (fun z4 => ob (g_X8_laysPoints ev z4 th) (fun z5 => if l2 < 0 then (some ((-1 : Int32), z5)) else (if l2 < (r32 z5 135 th) then (q_X8_minus_43 ev th FU l2 (-1 : Int32) (0 : Int32) z5) else (some ((-1 : Int32), z5))))))))
set_option maxRecDepth 20000 in
set_option maxHeartbeats 4000000 in
theorem c_X8_minus (l : Launch) (ev : EV) (z : PS) (E : EWF ev) {th : Nat} (hth : isK ev 6 th) (th_ : Nat) (l1 : Int32) (l2 : Int32) (r : Int32) (z9 : PS) (h : g_X8_minus ev z th l1 l2 = some (r, z9)) : Met l yX8_minus (pWs yX8_minus cX8_minus 6 (some .int)) (pR 2 80) (va_Pc [.ref th, .int l1, .int l2] (pPe ev z)) (pQi ev r z9) 0 0 (eA ev) := by
  refine pm_of (by decide) (Nat.le_of_ble_eq_true rfl) ?_
  intro p e s m below meth c S hr hlk hv ls hl
  obtain ⟨hP, hK, hX⟩ := hv
  have hS : SS ev s s.heap [] := va_S.rf
  have hl : lv_has ls 6 [(0, .ref th), (1, .int l1), (2, .int l2)] := hl
  unfold g_X8_minus at h
  refine lv_aload_n S.1 S.2.1 dX8_minus_0 rfl (lv_at hl 0 rfl) ?_
  refine lv_iconst (v := 0) S.1 S.2.1 dX8_minus_1 (by decide) ?_
  obtain ⟨z1, ez1, h⟩ := bd_s h
  refine pf_6_0 S E hK hP hS hth mw_3_221 dX8_minus_2 (fun H locs hP hS => ?_)
  rw [← ez1] at hP
  refine lv_aload_n S.1 S.2.1 dX8_minus_5 rfl (lv_at hl 0 rfl) ?_
  refine lv_iload_n S.1 S.2.1 dX8_minus_6 rfl (lv_at hl 1 rfl) ?_
  obtain ⟨v2, ev2, h⟩ := ob_s h
  refine pm_cVr (As := [.int l1]) (rest := []) S hK hX hP hS (c_X8_isCurve l ev z1 E hth th l1 v2 ev2) vm_X8_isCurve mw_4_87 (rc_6 hK hP hth) ⟨⟨rfl, rfl⟩, by decide, by decide⟩ rfl hl.1 rfl (Nat.le_of_ble_eq_true rfl) ⟨Nat.zero_le _, Nat.zero_le _⟩ dX8_minus_7 ?_
  refine lv_if_ne (tgt := 15) S.1 S.2.1 dX8_minus_10 (by decide) (fun c3 => ?_) (fun c3 => ?_)
  · rw [if_neg c3] at h
    refine lv_aload_n S.1 S.2.1 dX8_minus_15 rfl (lv_at hl 0 rfl) ?_
    refine lv_iload_n S.1 S.2.1 dX8_minus_16 rfl (lv_at hl 1 rfl) ?_
    obtain ⟨z4, ez4, h⟩ := ob_s h
    refine pm_cVv (As := [.int l1]) (rest := []) S hK hX hP hS (c_X8_loads l ev z1 E hth th l1 z4 ez4) vm_X8_loads mw_4_91 (rc_6 hK hP hth) ⟨⟨rfl, rfl⟩, by decide, by decide⟩ rfl hl.1 rfl (Nat.le_of_ble_eq_true rfl) ⟨Nat.zero_le _, Nat.zero_le _⟩ dX8_minus_17 (fun H locs hP hS => ?_)
    refine lv_aload_n S.1 S.2.1 dX8_minus_20 rfl (lv_at hl 0 rfl) ?_
    obtain ⟨z5, ez5, h⟩ := ob_s h
    refine pm_cVv (As := []) (rest := []) S hK hX hP hS (c_X8_laysPoints l ev z4 E hth th z5 ez5) vm_X8_laysPoints mw_5_113 (rc_6 hK hP hth) ⟨⟨rfl, rfl⟩, by decide, by decide⟩ rfl hl.1 rfl (Nat.le_of_ble_eq_true rfl) ⟨Nat.zero_le _, Nat.zero_le _⟩ dX8_minus_21 (fun H locs hP hS => ?_)
    refine lv_iload_n S.1 S.2.1 dX8_minus_24 rfl (lv_at hl 2 rfl) ?_
    refine lv_if_lt (tgt := 36) S.1 S.2.1 dX8_minus_25 (by decide) (fun c6 => ?_) (fun c6 => ?_)
    · rw [if_pos c6] at h
      refine lv_iconst (v := -1) S.1 S.2.1 dX8_minus_36 (by decide) ?_
      have h9 := Option.some.inj h
      exact pm_iretW S hr hlk hP hS (congrArg Prod.fst h9) (congrArg Prod.snd h9) dX8_minus_37
    · rw [if_neg c6] at h
      refine lv_iload_n S.1 S.2.1 dX8_minus_28 rfl (lv_at hl 2 rfl) ?_
      refine lv_aload_n S.1 S.2.1 dX8_minus_29 rfl (lv_at hl 0 rfl) ?_
      refine gf_6_15 S hK hP hth mw_3_236 dX8_minus_30 ?_
      refine lv_icmp_lt (tgt := 38) S.1 S.2.1 dX8_minus_33 (by decide) (fun c7 => ?_) (fun c7 => ?_)
      · rw [if_pos c7] at h
        refine lv_iconst (v := -1) S.1 S.2.1 dX8_minus_38 (by decide) ?_
        refine lv_istore_n (lv' := [(3, .int (-1 : Int32)), (0, .ref th), (1, .int l1), (2, .int l2)]) S.1 S.2.1 dX8_minus_39 rfl hl (by decide) rfl (fun ls hl => ?_)
        refine lv_iconst (v := 0) S.1 S.2.1 dX8_minus_40 (by decide) ?_
        refine lv_istore (lv' := [(4, .int (0 : Int32)), (3, .int (-1 : Int32)), (0, .ref th), (1, .int l1), (2, .int l2)]) S.1 S.2.1 dX8_minus_41 hl (by decide) rfl (fun ls hl => ?_)
        exact w_X8_minus_43 S hr hlk E hK hX hth FU l2 (-1 : Int32) (0 : Int32) z5 ls _ _ h (lv_sub hl [2, 4, 1, 0] rfl) hP hS
      · rw [if_neg c7] at h
        refine lv_iconst (v := -1) S.1 S.2.1 dX8_minus_36 (by decide) ?_
        have h9 := Option.some.inj h
        exact pm_iretW S hr hlk hP hS (congrArg Prod.fst h9) (congrArg Prod.snd h9) dX8_minus_37
  · rw [if_pos c3] at h
    refine lv_iconst (v := -1) S.1 S.2.1 dX8_minus_13 (by decide) ?_
    have h9 := Option.some.inj h
    exact pm_iretW S hr hlk hP hS (congrArg Prod.fst h9) (congrArg Prod.snd h9) dX8_minus_14
theorem vm_X8_minus : pm_Vm yX8_minus cX8_minus 6 (some .int) 2 := ⟨mw_5_134, mw_5_132, mw_5_133, mw_1_7, by decide, by decide⟩
def q_X8_isUnlike_4 (ev : EV) (th : Nat) : Nat → Int32 → Int32 → Int32 → PS → Option (Int32 × PS)
  | 0, _, _, _, _ => none
  | n + 1, l1, l2, l3, z => if l1 ≤ l3 then (ck (l2 = 0 ∨ l2 = 1) (some (l2, z))) else (if l2 = 0 then (bd (l3 + (1 : Int32)) (fun v4 => q_X8_isUnlike_4 ev th n l1 (0 : Int32) v4 z)) else (ob (g_X8_areOne ev z th l3 l1) (fun qv6 => bd qv6.1 (fun v6 => bd qv6.2 (fun z5 => if v6 = 0 then (bd (l3 + (1 : Int32)) (fun v9 => q_X8_isUnlike_4 ev th n l1 (1 : Int32) v9 z5)) else (bd (l3 + (1 : Int32)) (fun v8 => q_X8_isUnlike_4 ev th n l1 (0 : Int32) v8 z5)))))))
set_option maxRecDepth 20000 in
set_option maxHeartbeats 4000000 in
theorem w_X8_isUnlike_4 {ev : EV} {th : Nat} {p : Program} {l : Launch} {e : Env} {s : State} {m : MethodId} {args : Array Value} {below : List Frame} {meth : Method} {c : Code} {r : Int32} {z9 : PS} (S : CallFix p m c cX8_isUnlike 4 s args gT RX8) (hr : meth.sig.returnType = (some .boolean)) (hlk : meth.locks = false) (E : EWF ev) (hK : KK ev s) (hX : pXt ev s) (hth : isK ev 6 th) : ∀ (n : Nat), ∀ (l1 : Int32) (l2 : Int32) (l3 : Int32) (z : PS) (ls : Array Slot) (H : Heap) (locs : List Loc), q_X8_isUnlike_4 ev th n l1 l2 l3 z = some (r, z9) → lv_has ls 4 [(0, .ref th), (1, .int l1), (2, .int l2), (3, .int l3)] → Wd ev z H → SS ev s H locs → W p l e (pR 10 357) s m args below meth c H locs 0 0 (MQ below (pQi ev r z9) args s 0 0 (eA ev)) (F0 m 4 ls []) := by
  intro n
  induction n with
  | zero => intro l1 l2 l3 z ls H locs h; cases h
  | succ n ih =>
    intro l1 l2 l3 z ls H locs h hl hP hS
    rw [q_X8_isUnlike_4] at h
    refine lv_iload_n S.1 S.2.1 dX8_isUnlike_4 rfl (lv_at hl 3 rfl) ?_
    refine lv_iload_n S.1 S.2.1 dX8_isUnlike_5 rfl (lv_at hl 1 rfl) ?_
    refine lv_icmp_ge (tgt := 34) S.1 S.2.1 dX8_isUnlike_6 (by decide) (fun c1 => ?_) (fun c1 => ?_)
    · rw [if_pos c1] at h
      refine lv_iload_n S.1 S.2.1 dX8_isUnlike_34 rfl (lv_at hl 2 rfl) ?_
      obtain ⟨hc2, h⟩ := ck_s h
      have h9 := Option.some.inj h
      exact pm_zretW S hr hlk hc2 hP hS (congrArg Prod.fst h9) (congrArg Prod.snd h9) dX8_isUnlike_35
    · rw [if_neg c1] at h
      refine lv_iload_n S.1 S.2.1 dX8_isUnlike_9 rfl (lv_at hl 2 rfl) ?_
      refine lv_if_eq (tgt := 26) S.1 S.2.1 dX8_isUnlike_10 (by decide) (fun c3 => ?_) (fun c3 => ?_)
      · rw [if_pos c3] at h
        refine lv_iconst (v := 0) S.1 S.2.1 dX8_isUnlike_26 (by decide) ?_
        refine lv_istore_n (lv' := [(2, .int (0 : Int32)), (0, .ref th), (1, .int l1), (3, .int l3)]) S.1 S.2.1 dX8_isUnlike_27 rfl hl (by decide) rfl (fun ls hl => ?_)
        obtain ⟨v4, ev4, h⟩ := bd_s h
        refine lv_iinc (v := v4) (lv' := [(3, .int v4), (2, .int (0 : Int32)), (0, .ref th), (1, .int l1)]) S.1 S.2.1 dX8_isUnlike_28 hl (k := 3) rfl (by rw [ev4]; rfl) (by decide) rfl (fun ls hl => ?_)
        refine lv_goto (tgt := 4) S.1 S.2.1 dX8_isUnlike_31 (by decide) ?_
        exact ih l1 (0 : Int32) v4 z ls _ _ h (lv_sub hl [2, 3, 1, 0] rfl) hP hS
      · rw [if_neg c3] at h
        refine lv_aload_n S.1 S.2.1 dX8_isUnlike_13 rfl (lv_at hl 0 rfl) ?_
        refine lv_iload_n S.1 S.2.1 dX8_isUnlike_14 rfl (lv_at hl 3 rfl) ?_
        refine lv_iload_n S.1 S.2.1 dX8_isUnlike_15 rfl (lv_at hl 1 rfl) ?_
        obtain ⟨qv6, ev6, h⟩ := ob_s h
        obtain ⟨v6, fv6, h⟩ := bd_s h
        obtain ⟨z5, fz5, h⟩ := bd_s h
        have ev6 : g_X8_areOne ev z th l3 l1 = some (v6, z5) := by rw [fv6, fz5]; exact ev6
        refine pm_cVi (As := [.int l3, .int l1]) (rest := []) S hK hX hP hS (c_X8_areOne l ev z E hth th l3 l1 v6 z5 ev6) vm_X8_areOne mw_5_81 (rc_6 hK hP hth) ⟨⟨rfl, rfl⟩, by decide, by decide⟩ rfl hl.1 rfl (Nat.le_of_ble_eq_true rfl) ⟨Nat.zero_le _, Nat.zero_le _⟩ dX8_isUnlike_16 (fun H locs hP hS => ?_)
        refine lv_if_ne (tgt := 26) S.1 S.2.1 dX8_isUnlike_19 (by decide) (fun c7 => ?_) (fun c7 => ?_)
        · rw [if_neg c7] at h
          refine lv_iconst (v := 0) S.1 S.2.1 dX8_isUnlike_26 (by decide) ?_
          refine lv_istore_n (lv' := [(2, .int (0 : Int32)), (0, .ref th), (1, .int l1), (3, .int l3)]) S.1 S.2.1 dX8_isUnlike_27 rfl hl (by decide) rfl (fun ls hl => ?_)
          obtain ⟨v8, ev8, h⟩ := bd_s h
          refine lv_iinc (v := v8) (lv' := [(3, .int v8), (2, .int (0 : Int32)), (0, .ref th), (1, .int l1)]) S.1 S.2.1 dX8_isUnlike_28 hl (k := 3) rfl (by rw [ev8]; rfl) (by decide) rfl (fun ls hl => ?_)
          refine lv_goto (tgt := 4) S.1 S.2.1 dX8_isUnlike_31 (by decide) ?_
          exact ih l1 (0 : Int32) v8 z5 ls _ _ h (lv_sub hl [2, 3, 1, 0] rfl) hP hS
        · rw [if_pos c7] at h
          refine lv_iconst (v := 1) S.1 S.2.1 dX8_isUnlike_22 (by decide) ?_
          refine lv_goto (tgt := 27) S.1 S.2.1 dX8_isUnlike_23 (by decide) ?_
          refine lv_istore_n (lv' := [(2, .int (1 : Int32)), (0, .ref th), (1, .int l1), (3, .int l3)]) S.1 S.2.1 dX8_isUnlike_27 rfl hl (by decide) rfl (fun ls hl => ?_)
          obtain ⟨v9, ev9, h⟩ := bd_s h
          refine lv_iinc (v := v9) (lv' := [(3, .int v9), (2, .int (1 : Int32)), (0, .ref th), (1, .int l1)]) S.1 S.2.1 dX8_isUnlike_28 hl (k := 3) rfl (by rw [ev9]; rfl) (by decide) rfl (fun ls hl => ?_)
          refine lv_goto (tgt := 4) S.1 S.2.1 dX8_isUnlike_31 (by decide) ?_
          exact ih l1 (1 : Int32) v9 z5 ls _ _ h (lv_sub hl [2, 3, 1, 0] rfl) hP hS
def g_X8_isUnlike (ev : EV) (z : PS) (th : Nat) (l1 : Int32) : Option (Int32 × PS) := q_X8_isUnlike_4 ev th FU l1 (1 : Int32) (0 : Int32) z
set_option maxRecDepth 20000 in
set_option maxHeartbeats 4000000 in
theorem c_X8_isUnlike (l : Launch) (ev : EV) (z : PS) (E : EWF ev) {th : Nat} (hth : isK ev 6 th) (th_ : Nat) (l1 : Int32) (r : Int32) (z9 : PS) (h : g_X8_isUnlike ev z th l1 = some (r, z9)) : Met l yX8_isUnlike (pWs yX8_isUnlike cX8_isUnlike 4 (some .boolean)) (pR 10 357) (va_Pc [.ref th, .int l1] (pPe ev z)) (pQi ev r z9) 0 0 (eA ev) := by
  refine pm_of (by decide) (Nat.le_of_ble_eq_true rfl) ?_
  intro p e s m below meth c S hr hlk hv ls hl
  obtain ⟨hP, hK, hX⟩ := hv
  have hS : SS ev s s.heap [] := va_S.rf
  have hl : lv_has ls 4 [(0, .ref th), (1, .int l1)] := hl
  unfold g_X8_isUnlike at h
  refine lv_iconst (v := 1) S.1 S.2.1 dX8_isUnlike_0 (by decide) ?_
  refine lv_istore_n (lv' := [(2, .int (1 : Int32)), (0, .ref th), (1, .int l1)]) S.1 S.2.1 dX8_isUnlike_1 rfl hl (by decide) rfl (fun ls hl => ?_)
  refine lv_iconst (v := 0) S.1 S.2.1 dX8_isUnlike_2 (by decide) ?_
  refine lv_istore_n (lv' := [(3, .int (0 : Int32)), (2, .int (1 : Int32)), (0, .ref th), (1, .int l1)]) S.1 S.2.1 dX8_isUnlike_3 rfl hl (by decide) rfl (fun ls hl => ?_)
  exact w_X8_isUnlike_4 S hr hlk E hK hX hth FU l1 (1 : Int32) (0 : Int32) z ls _ _ h (lv_sub hl [2, 3, 1, 0] rfl) hP hS
theorem vm_X8_isUnlike : pm_Vm yX8_isUnlike cX8_isUnlike 4 (some .boolean) 1 := ⟨mw_5_142, mw_5_141, ms_796, mw_1_7, by decide, by decide⟩
def q_X8_isLeast_13 (ev : EV) (th : Nat) : Nat → Int32 → Int32 → PS → Option (Int32 × PS)
  | 0, _, _, _ => none
  | n + 1, l2, l3, z => if (5 : Int32) ≤ l3 then (ck (l2 = 0 ∨ l2 = 1) (some (l2, z))) else (if l2 = 0 then (bd (l3 + (1 : Int32)) (fun v6 => q_X8_isLeast_13 ev th n (0 : Int32) v6 z)) else (ck (inB l3 5) (ck (inB l3 5) (if (rJ z (rf ev 124 th) l3.toNatClampNeg) = (rJ z (rf ev 123 th) l3.toNatClampNeg) then (bd (l3 + (1 : Int32)) (fun v11 => q_X8_isLeast_13 ev th n (1 : Int32) v11 z)) else (bd (l3 + (1 : Int32)) (fun v10 => q_X8_isLeast_13 ev th n (0 : Int32) v10 z))))))
set_option maxRecDepth 20000 in
set_option maxHeartbeats 4000000 in
theorem w_X8_isLeast_13 {ev : EV} {th : Nat} {p : Program} {l : Launch} {e : Env} {s : State} {m : MethodId} {args : Array Value} {below : List Frame} {meth : Method} {c : Code} {r : Int32} {z9 : PS} (S : CallFix p m c cX8_isLeast 4 s args gT RX8) (hr : meth.sig.returnType = (some .boolean)) (hlk : meth.locks = false) (E : EWF ev) (hK : KK ev s) (hX : pXt ev s) (hth : isK ev 6 th) : ∀ (n : Nat), ∀ (l2 : Int32) (l3 : Int32) (z : PS) (ls : Array Slot) (H : Heap) (locs : List Loc), q_X8_isLeast_13 ev th n l2 l3 z = some (r, z9) → lv_has ls 4 [(0, .ref th), (2, .int l2), (3, .int l3)] → Wd ev z H → SS ev s H locs → W p l e (pR 8 288) s m args below meth c H locs 0 0 (MQ below (pQi ev r z9) args s 0 0 (eA ev)) (F0 m 13 ls []) := by
  intro n
  induction n with
  | zero => intro l2 l3 z ls H locs h; cases h
  | succ n ih =>
    intro l2 l3 z ls H locs h hl hP hS
    rw [q_X8_isLeast_13] at h
    refine lv_iload_n S.1 S.2.1 dX8_isLeast_13 rfl (lv_at hl 2 rfl) ?_
    refine lv_iconst (v := 5) S.1 S.2.1 dX8_isLeast_14 (by decide) ?_
    refine lv_icmp_ge (tgt := 50) S.1 S.2.1 dX8_isLeast_15 (by decide) (fun c3 => ?_) (fun c3 => ?_)
    · rw [if_pos c3] at h
      refine lv_iload_n S.1 S.2.1 dX8_isLeast_50 rfl (lv_at hl 1 rfl) ?_
      obtain ⟨hc4, h⟩ := ck_s h
      have h9 := Option.some.inj h
      exact pm_zretW S hr hlk hc4 hP hS (congrArg Prod.fst h9) (congrArg Prod.snd h9) dX8_isLeast_51
    · rw [if_neg c3] at h
      refine lv_iload_n S.1 S.2.1 dX8_isLeast_18 rfl (lv_at hl 1 rfl) ?_
      refine lv_if_eq (tgt := 42) S.1 S.2.1 dX8_isLeast_19 (by decide) (fun c5 => ?_) (fun c5 => ?_)
      · rw [if_pos c5] at h
        refine lv_iconst (v := 0) S.1 S.2.1 dX8_isLeast_42 (by decide) ?_
        refine lv_istore_n (lv' := [(2, .int (0 : Int32)), (0, .ref th), (3, .int l3)]) S.1 S.2.1 dX8_isLeast_43 rfl hl (by decide) rfl (fun ls hl => ?_)
        obtain ⟨v6, ev6, h⟩ := bd_s h
        refine lv_iinc (v := v6) (lv' := [(3, .int v6), (2, .int (0 : Int32)), (0, .ref th)]) S.1 S.2.1 dX8_isLeast_44 hl (k := 2) rfl (by rw [ev6]; rfl) (by decide) rfl (fun ls hl => ?_)
        refine lv_goto (tgt := 13) S.1 S.2.1 dX8_isLeast_47 (by decide) ?_
        exact ih (0 : Int32) v6 z ls _ _ h (lv_sub hl [2, 1, 0] rfl) hP hS
      · rw [if_neg c5] at h
        refine lv_aload_n S.1 S.2.1 dX8_isLeast_22 rfl (lv_at hl 0 rfl) ?_
        refine gf_6_4 S hK hP hth mw_3_225 dX8_isLeast_23 ?_
        refine lv_iload_n S.1 S.2.1 dX8_isLeast_26 rfl (lv_at hl 2 rfl) ?_
        obtain ⟨hc7, h⟩ := ck_s h
        refine al_J S hK hP (E_6_4 E hth) (by rw [N_6_4 E hth]; exact hc7) dX8_isLeast_27 ?_
        refine lv_aload_n S.1 S.2.1 dX8_isLeast_28 rfl (lv_at hl 0 rfl) ?_
        refine gf_6_3 S hK hP hth mw_3_224 dX8_isLeast_29 ?_
        refine lv_iload_n S.1 S.2.1 dX8_isLeast_32 rfl (lv_at hl 2 rfl) ?_
        obtain ⟨hc8, h⟩ := ck_s h
        refine al_J S hK hP (E_6_3 E hth) (by rw [N_6_3 E hth]; exact hc8) dX8_isLeast_33 ?_
        refine pm_lne (tgt := 42) S dX8_isLeast_34 dX8_isLeast_35 (by decide) (fun c9 => ?_) (fun c9 => ?_)
        · rw [if_neg c9] at h
          refine lv_iconst (v := 0) S.1 S.2.1 dX8_isLeast_42 (by decide) ?_
          refine lv_istore_n (lv' := [(2, .int (0 : Int32)), (0, .ref th), (3, .int l3)]) S.1 S.2.1 dX8_isLeast_43 rfl hl (by decide) rfl (fun ls hl => ?_)
          obtain ⟨v10, ev10, h⟩ := bd_s h
          refine lv_iinc (v := v10) (lv' := [(3, .int v10), (2, .int (0 : Int32)), (0, .ref th)]) S.1 S.2.1 dX8_isLeast_44 hl (k := 2) rfl (by rw [ev10]; rfl) (by decide) rfl (fun ls hl => ?_)
          refine lv_goto (tgt := 13) S.1 S.2.1 dX8_isLeast_47 (by decide) ?_
          exact ih (0 : Int32) v10 z ls _ _ h (lv_sub hl [2, 1, 0] rfl) hP hS
        · rw [if_pos c9] at h
          refine lv_iconst (v := 1) S.1 S.2.1 dX8_isLeast_38 (by decide) ?_
          refine lv_goto (tgt := 43) S.1 S.2.1 dX8_isLeast_39 (by decide) ?_
          refine lv_istore_n (lv' := [(2, .int (1 : Int32)), (0, .ref th), (3, .int l3)]) S.1 S.2.1 dX8_isLeast_43 rfl hl (by decide) rfl (fun ls hl => ?_)
          obtain ⟨v11, ev11, h⟩ := bd_s h
          refine lv_iinc (v := v11) (lv' := [(3, .int v11), (2, .int (1 : Int32)), (0, .ref th)]) S.1 S.2.1 dX8_isLeast_44 hl (k := 2) rfl (by rw [ev11]; rfl) (by decide) rfl (fun ls hl => ?_)
          refine lv_goto (tgt := 13) S.1 S.2.1 dX8_isLeast_47 (by decide) ?_
          exact ih (1 : Int32) v11 z ls _ _ h (lv_sub hl [2, 1, 0] rfl) hP hS
def g_X8_isLeast (ev : EV) (z : PS) (th : Nat) (l1 : Int32) : Option (Int32 × PS) := ob (g_X8_loads ev z th l1) (fun z1 => ob (g_X8_laysLeast ev z1 th) (fun z2 => q_X8_isLeast_13 ev th FU (1 : Int32) (0 : Int32) z2))
set_option maxRecDepth 20000 in
set_option maxHeartbeats 4000000 in
theorem c_X8_isLeast (l : Launch) (ev : EV) (z : PS) (E : EWF ev) {th : Nat} (hth : isK ev 6 th) (th_ : Nat) (l1 : Int32) (r : Int32) (z9 : PS) (h : g_X8_isLeast ev z th l1 = some (r, z9)) : Met l yX8_isLeast (pWs yX8_isLeast cX8_isLeast 4 (some .boolean)) (pR 8 288) (va_Pc [.ref th, .int l1] (pPe ev z)) (pQi ev r z9) 0 0 (eA ev) := by
  refine pm_of (by decide) (Nat.le_of_ble_eq_true rfl) ?_
  intro p e s m below meth c S hr hlk hv ls hl
  obtain ⟨hP, hK, hX⟩ := hv
  have hS : SS ev s s.heap [] := va_S.rf
  have hl : lv_has ls 4 [(0, .ref th), (1, .int l1)] := hl
  unfold g_X8_isLeast at h
  refine lv_aload_n S.1 S.2.1 dX8_isLeast_0 rfl (lv_at hl 0 rfl) ?_
  refine lv_iload_n S.1 S.2.1 dX8_isLeast_1 rfl (lv_at hl 1 rfl) ?_
  obtain ⟨z1, ez1, h⟩ := ob_s h
  refine pm_cVv (As := [.int l1]) (rest := []) S hK hX hP hS (c_X8_loads l ev z E hth th l1 z1 ez1) vm_X8_loads mw_4_91 (rc_6 hK hP hth) ⟨⟨rfl, rfl⟩, by decide, by decide⟩ rfl hl.1 rfl (Nat.le_of_ble_eq_true rfl) ⟨Nat.zero_le _, Nat.zero_le _⟩ dX8_isLeast_2 (fun H locs hP hS => ?_)
  refine lv_aload_n S.1 S.2.1 dX8_isLeast_5 rfl (lv_at hl 0 rfl) ?_
  obtain ⟨z2, ez2, h⟩ := ob_s h
  refine pm_cVv (As := []) (rest := []) S hK hX hP hS (c_X8_laysLeast l ev z1 E hth th z2 ez2) vm_X8_laysLeast mw_4_130 (rc_6 hK hP hth) ⟨⟨rfl, rfl⟩, by decide, by decide⟩ rfl hl.1 rfl (Nat.le_of_ble_eq_true rfl) ⟨Nat.zero_le _, Nat.zero_le _⟩ dX8_isLeast_6 (fun H locs hP hS => ?_)
  refine lv_iconst (v := 1) S.1 S.2.1 dX8_isLeast_9 (by decide) ?_
  refine lv_istore_n (lv' := [(2, .int (1 : Int32)), (0, .ref th), (1, .int l1)]) S.1 S.2.1 dX8_isLeast_10 rfl hl (by decide) rfl (fun ls hl => ?_)
  refine lv_iconst (v := 0) S.1 S.2.1 dX8_isLeast_11 (by decide) ?_
  refine lv_istore_n (lv' := [(3, .int (0 : Int32)), (2, .int (1 : Int32)), (0, .ref th), (1, .int l1)]) S.1 S.2.1 dX8_isLeast_12 rfl hl (by decide) rfl (fun ls hl => ?_)
  exact w_X8_isLeast_13 S hr hlk E hK hX hth FU (1 : Int32) (0 : Int32) z2 ls _ _ h (lv_sub hl [2, 1, 0] rfl) hP hS
theorem vm_X8_isLeast : pm_Vm yX8_isLeast cX8_isLeast 4 (some .boolean) 1 := ⟨mw_5_146, mw_5_145, ms_799, mw_1_7, by decide, by decide⟩
def g_X8_isLeastEverywhere (ev : EV) (z : PS) (th : Nat) (l1 : Int32) : Option (Int32 × PS) := ob (g_X8_loads ev z th l1) (fun z1 => ob (g_X8_laysLeast ev z1 th) (fun z2 => if (r64 z2 130 th) = (1 : Int64) then (some ((1 : Int32), z2)) else (some ((0 : Int32), z2))))
set_option maxRecDepth 20000 in
set_option maxHeartbeats 4000000 in
theorem c_X8_isLeastEverywhere (l : Launch) (ev : EV) (z : PS) (E : EWF ev) {th : Nat} (hth : isK ev 6 th) (th_ : Nat) (l1 : Int32) (r : Int32) (z9 : PS) (h : g_X8_isLeastEverywhere ev z th l1 = some (r, z9)) : Met l yX8_isLeastEverywhere (pWs yX8_isLeastEverywhere cX8_isLeastEverywhere 2 (some .boolean)) (pR 8 288) (va_Pc [.ref th, .int l1] (pPe ev z)) (pQi ev r z9) 0 0 (eA ev) := by
  refine pm_of (by decide) (Nat.le_of_ble_eq_true rfl) ?_
  intro p e s m below meth c S hr hlk hv ls hl
  obtain ⟨hP, hK, hX⟩ := hv
  have hS : SS ev s s.heap [] := va_S.rf
  have hl : lv_has ls 2 [(0, .ref th), (1, .int l1)] := hl
  unfold g_X8_isLeastEverywhere at h
  refine lv_aload_n S.1 S.2.1 dX8_isLeastEverywhere_0 rfl (lv_at hl 0 rfl) ?_
  refine lv_iload_n S.1 S.2.1 dX8_isLeastEverywhere_1 rfl (lv_at hl 1 rfl) ?_
  obtain ⟨z1, ez1, h⟩ := ob_s h
  refine pm_cVv (As := [.int l1]) (rest := []) S hK hX hP hS (c_X8_loads l ev z E hth th l1 z1 ez1) vm_X8_loads mw_4_91 (rc_6 hK hP hth) ⟨⟨rfl, rfl⟩, by decide, by decide⟩ rfl hl.1 rfl (Nat.le_of_ble_eq_true rfl) ⟨Nat.zero_le _, Nat.zero_le _⟩ dX8_isLeastEverywhere_2 (fun H locs hP hS => ?_)
  refine lv_aload_n S.1 S.2.1 dX8_isLeastEverywhere_5 rfl (lv_at hl 0 rfl) ?_
  obtain ⟨z2, ez2, h⟩ := ob_s h
  refine pm_cVv (As := []) (rest := []) S hK hX hP hS (c_X8_laysLeast l ev z1 E hth th z2 ez2) vm_X8_laysLeast mw_4_130 (rc_6 hK hP hth) ⟨⟨rfl, rfl⟩, by decide, by decide⟩ rfl hl.1 rfl (Nat.le_of_ble_eq_true rfl) ⟨Nat.zero_le _, Nat.zero_le _⟩ dX8_isLeastEverywhere_6 (fun H locs hP hS => ?_)
  refine lv_aload_n S.1 S.2.1 dX8_isLeastEverywhere_9 rfl (lv_at hl 0 rfl) ?_
  refine gf_6_10 S hK hP hth mw_3_231 dX8_isLeastEverywhere_10 ?_
  refine lv_lconst (v := 1) S.1 S.2.1 dX8_isLeastEverywhere_13 (by decide) ?_
  refine pm_lne (tgt := 22) S dX8_isLeastEverywhere_14 dX8_isLeastEverywhere_15 (by decide) (fun c3 => ?_) (fun c3 => ?_)
  · rw [if_neg c3] at h
    refine lv_iconst (v := 0) S.1 S.2.1 dX8_isLeastEverywhere_22 (by decide) ?_
    have h9 := Option.some.inj h
    exact pm_zretW S hr hlk (Or.inl rfl) hP hS (congrArg Prod.fst h9) (congrArg Prod.snd h9) dX8_isLeastEverywhere_23
  · rw [if_pos c3] at h
    refine lv_iconst (v := 1) S.1 S.2.1 dX8_isLeastEverywhere_18 (by decide) ?_
    refine lv_goto (tgt := 23) S.1 S.2.1 dX8_isLeastEverywhere_19 (by decide) ?_
    have h9 := Option.some.inj h
    exact pm_zretW S hr hlk (Or.inr rfl) hP hS (congrArg Prod.fst h9) (congrArg Prod.snd h9) dX8_isLeastEverywhere_23
theorem vm_X8_isLeastEverywhere : pm_Vm yX8_isLeastEverywhere cX8_isLeastEverywhere 2 (some .boolean) 1 := ⟨mw_5_150, mw_5_149, ms_802, mw_1_7, by decide, by decide⟩
def q_X8_count_47 (ev : EV) (th : Nat) : Nat → Int32 → Int32 → PS → Option (Int32 × PS)
  | 0, _, _, _ => none
  | n + 1, l2, l3, z => if (r32 z 121 th) ≤ l3 then (some (l2, z)) else (ob (g_X8_isUnlike ev z th l3) (fun qv8 => bd qv8.1 (fun v8 => bd qv8.2 (fun z7 => if v8 = 0 then (bd ((l2 + (0 : Int32))) (fun v10 => bd (l3 + (1 : Int32)) (fun v11 => q_X8_count_47 ev th n v10 v11 z7))) else (bd ((l2 + (1 : Int32))) (fun v12 => bd (l3 + (1 : Int32)) (fun v13 => q_X8_count_47 ev th n v12 v13 z7)))))))
set_option maxRecDepth 20000 in
set_option maxHeartbeats 4000000 in
theorem w_X8_count_47 {ev : EV} {th : Nat} {p : Program} {l : Launch} {e : Env} {s : State} {m : MethodId} {args : Array Value} {below : List Frame} {meth : Method} {c : Code} {r : Int32} {z9 : PS} (S : CallFix p m c cX8_count 4 s args gT RX8) (hr : meth.sig.returnType = (some .int)) (hlk : meth.locks = false) (E : EWF ev) (hK : KK ev s) (hX : pXt ev s) (hth : isK ev 6 th) : ∀ (n : Nat), ∀ (l2 : Int32) (l3 : Int32) (z : PS) (ls : Array Slot) (H : Heap) (locs : List Loc), q_X8_count_47 ev th n l2 l3 z = some (r, z9) → lv_has ls 4 [(0, .ref th), (2, .int l2), (3, .int l3)] → Wd ev z H → SS ev s H locs → W p l e (pR 11 392) s m args below meth c H locs 0 0 (MQ below (pQi ev r z9) args s 0 0 (eA ev)) (F0 m 47 ls []) := by
  intro n
  induction n with
  | zero => intro l2 l3 z ls H locs h; cases h
  | succ n ih =>
    intro l2 l3 z ls H locs h hl hP hS
    rw [q_X8_count_47] at h
    refine lv_iload_n S.1 S.2.1 dX8_count_47 rfl (lv_at hl 2 rfl) ?_
    refine lv_aload_n S.1 S.2.1 dX8_count_48 rfl (lv_at hl 0 rfl) ?_
    refine gf_6_1 S hK hP hth mw_3_222 dX8_count_49 ?_
    refine lv_icmp_ge (tgt := 77) S.1 S.2.1 dX8_count_52 (by decide) (fun c6 => ?_) (fun c6 => ?_)
    · rw [if_pos c6] at h
      refine lv_iload_n S.1 S.2.1 dX8_count_77 rfl (lv_at hl 1 rfl) ?_
      have h9 := Option.some.inj h
      exact pm_iretW S hr hlk hP hS (congrArg Prod.fst h9) (congrArg Prod.snd h9) dX8_count_78
    · rw [if_neg c6] at h
      refine lv_iload_n S.1 S.2.1 dX8_count_55 rfl (lv_at hl 1 rfl) ?_
      refine lv_aload_n S.1 S.2.1 dX8_count_56 rfl (lv_at hl 0 rfl) ?_
      refine lv_iload_n S.1 S.2.1 dX8_count_57 rfl (lv_at hl 2 rfl) ?_
      obtain ⟨qv8, ev8, h⟩ := ob_s h
      obtain ⟨v8, fv8, h⟩ := bd_s h
      obtain ⟨z7, fz7, h⟩ := bd_s h
      have ev8 : g_X8_isUnlike ev z th l3 = some (v8, z7) := by rw [fv8, fz7]; exact ev8
      refine pm_cVi (As := [.int l3]) (rest := [.int l2]) S hK hX hP hS (c_X8_isUnlike l ev z E hth th l3 v8 z7 ev8) vm_X8_isUnlike mw_5_139 (rc_6 hK hP hth) ⟨⟨rfl, rfl⟩, by decide, by decide⟩ rfl hl.1 rfl (Nat.le_of_ble_eq_true rfl) ⟨Nat.zero_le _, Nat.zero_le _⟩ dX8_count_58 (fun H locs hP hS => ?_)
      refine lv_if_eq (tgt := 68) S.1 S.2.1 dX8_count_61 (by decide) (fun c9 => ?_) (fun c9 => ?_)
      · rw [if_pos c9] at h
        refine lv_iconst (v := 0) S.1 S.2.1 dX8_count_68 (by decide) ?_
        refine lv_iadd S.1 S.2.1 dX8_count_69 ?_
        obtain ⟨v10, ev10, h⟩ := bd_s h
        refine pm_nmI ev10 ?_
        refine lv_istore_n (lv' := [(2, .int v10), (0, .ref th), (3, .int l3)]) S.1 S.2.1 dX8_count_70 rfl hl (by decide) rfl (fun ls hl => ?_)
        obtain ⟨v11, ev11, h⟩ := bd_s h
        refine lv_iinc (v := v11) (lv' := [(3, .int v11), (2, .int v10), (0, .ref th)]) S.1 S.2.1 dX8_count_71 hl (k := 2) rfl (by rw [ev11]; rfl) (by decide) rfl (fun ls hl => ?_)
        refine lv_goto (tgt := 47) S.1 S.2.1 dX8_count_74 (by decide) ?_
        exact ih v10 v11 z7 ls _ _ h (lv_sub hl [2, 1, 0] rfl) hP hS
      · rw [if_neg c9] at h
        refine lv_iconst (v := 1) S.1 S.2.1 dX8_count_64 (by decide) ?_
        refine lv_goto (tgt := 69) S.1 S.2.1 dX8_count_65 (by decide) ?_
        refine lv_iadd S.1 S.2.1 dX8_count_69 ?_
        obtain ⟨v12, ev12, h⟩ := bd_s h
        refine pm_nmI ev12 ?_
        refine lv_istore_n (lv' := [(2, .int v12), (0, .ref th), (3, .int l3)]) S.1 S.2.1 dX8_count_70 rfl hl (by decide) rfl (fun ls hl => ?_)
        obtain ⟨v13, ev13, h⟩ := bd_s h
        refine lv_iinc (v := v13) (lv' := [(3, .int v13), (2, .int v12), (0, .ref th)]) S.1 S.2.1 dX8_count_71 hl (k := 2) rfl (by rw [ev13]; rfl) (by decide) rfl (fun ls hl => ?_)
        refine lv_goto (tgt := 47) S.1 S.2.1 dX8_count_74 (by decide) ?_
        exact ih v12 v13 z7 ls _ _ h (lv_sub hl [2, 1, 0] rfl) hP hS
def q_X8_count_81 (ev : EV) (th : Nat) : Nat → Int32 → Int32 → PS → Option (Int32 × PS)
  | 0, _, _, _ => none
  | n + 1, l2, l3, z => if (r32 z 121 th) ≤ l3 then (some (l2, z)) else (ob (g_X8_isLeast ev z th l3) (fun qv16 => bd qv16.1 (fun v16 => bd qv16.2 (fun z15 => if v16 = 0 then (bd ((l2 ||| (0 : Int32))) (fun v18 => bd (l3 + (1 : Int32)) (fun v19 => q_X8_count_81 ev th n v18 v19 z15))) else (bd ((l2 ||| ((1 : Int32) <<< (l3 &&& 31)))) (fun v20 => bd (l3 + (1 : Int32)) (fun v21 => q_X8_count_81 ev th n v20 v21 z15)))))))
set_option maxRecDepth 20000 in
set_option maxHeartbeats 4000000 in
theorem w_X8_count_81 {ev : EV} {th : Nat} {p : Program} {l : Launch} {e : Env} {s : State} {m : MethodId} {args : Array Value} {below : List Frame} {meth : Method} {c : Code} {r : Int32} {z9 : PS} (S : CallFix p m c cX8_count 4 s args gT RX8) (hr : meth.sig.returnType = (some .int)) (hlk : meth.locks = false) (E : EWF ev) (hK : KK ev s) (hX : pXt ev s) (hth : isK ev 6 th) : ∀ (n : Nat), ∀ (l2 : Int32) (l3 : Int32) (z : PS) (ls : Array Slot) (H : Heap) (locs : List Loc), q_X8_count_81 ev th n l2 l3 z = some (r, z9) → lv_has ls 4 [(0, .ref th), (2, .int l2), (3, .int l3)] → Wd ev z H → SS ev s H locs → W p l e (pR 11 392) s m args below meth c H locs 0 0 (MQ below (pQi ev r z9) args s 0 0 (eA ev)) (F0 m 81 ls []) := by
  intro n
  induction n with
  | zero => intro l2 l3 z ls H locs h; cases h
  | succ n ih =>
    intro l2 l3 z ls H locs h hl hP hS
    rw [q_X8_count_81] at h
    refine lv_iload_n S.1 S.2.1 dX8_count_81 rfl (lv_at hl 2 rfl) ?_
    refine lv_aload_n S.1 S.2.1 dX8_count_82 rfl (lv_at hl 0 rfl) ?_
    refine gf_6_1 S hK hP hth mw_3_222 dX8_count_83 ?_
    refine lv_icmp_ge (tgt := 113) S.1 S.2.1 dX8_count_86 (by decide) (fun c14 => ?_) (fun c14 => ?_)
    · rw [if_pos c14] at h
      refine lv_iload_n S.1 S.2.1 dX8_count_113 rfl (lv_at hl 1 rfl) ?_
      have h9 := Option.some.inj h
      exact pm_iretW S hr hlk hP hS (congrArg Prod.fst h9) (congrArg Prod.snd h9) dX8_count_114
    · rw [if_neg c14] at h
      refine lv_iload_n S.1 S.2.1 dX8_count_89 rfl (lv_at hl 1 rfl) ?_
      refine lv_aload_n S.1 S.2.1 dX8_count_90 rfl (lv_at hl 0 rfl) ?_
      refine lv_iload_n S.1 S.2.1 dX8_count_91 rfl (lv_at hl 2 rfl) ?_
      obtain ⟨qv16, ev16, h⟩ := ob_s h
      obtain ⟨v16, fv16, h⟩ := bd_s h
      obtain ⟨z15, fz15, h⟩ := bd_s h
      have ev16 : g_X8_isLeast ev z th l3 = some (v16, z15) := by rw [fv16, fz15]; exact ev16
      refine pm_cVi (As := [.int l3]) (rest := [.int l2]) S hK hX hP hS (c_X8_isLeast l ev z E hth th l3 v16 z15 ev16) vm_X8_isLeast mw_5_143 (rc_6 hK hP hth) ⟨⟨rfl, rfl⟩, by decide, by decide⟩ rfl hl.1 rfl (Nat.le_of_ble_eq_true rfl) ⟨Nat.zero_le _, Nat.zero_le _⟩ dX8_count_92 (fun H locs hP hS => ?_)
      refine lv_if_eq (tgt := 104) S.1 S.2.1 dX8_count_95 (by decide) (fun c17 => ?_) (fun c17 => ?_)
      · rw [if_pos c17] at h
        refine lv_iconst (v := 0) S.1 S.2.1 dX8_count_104 (by decide) ?_
        refine lv_ior S.1 S.2.1 dX8_count_105 ?_
        obtain ⟨v18, ev18, h⟩ := bd_s h
        refine pm_nmI ev18 ?_
        refine lv_istore_n (lv' := [(2, .int v18), (0, .ref th), (3, .int l3)]) S.1 S.2.1 dX8_count_106 rfl hl (by decide) rfl (fun ls hl => ?_)
        obtain ⟨v19, ev19, h⟩ := bd_s h
        refine lv_iinc (v := v19) (lv' := [(3, .int v19), (2, .int v18), (0, .ref th)]) S.1 S.2.1 dX8_count_107 hl (k := 2) rfl (by rw [ev19]; rfl) (by decide) rfl (fun ls hl => ?_)
        refine lv_goto (tgt := 81) S.1 S.2.1 dX8_count_110 (by decide) ?_
        exact ih v18 v19 z15 ls _ _ h (lv_sub hl [2, 1, 0] rfl) hP hS
      · rw [if_neg c17] at h
        refine lv_iconst (v := 1) S.1 S.2.1 dX8_count_98 (by decide) ?_
        refine lv_iload_n S.1 S.2.1 dX8_count_99 rfl (lv_at hl 2 rfl) ?_
        refine lv_ishl S.1 S.2.1 dX8_count_100 ?_
        refine lv_goto (tgt := 105) S.1 S.2.1 dX8_count_101 (by decide) ?_
        refine lv_ior S.1 S.2.1 dX8_count_105 ?_
        obtain ⟨v20, ev20, h⟩ := bd_s h
        refine pm_nmI ev20 ?_
        refine lv_istore_n (lv' := [(2, .int v20), (0, .ref th), (3, .int l3)]) S.1 S.2.1 dX8_count_106 rfl hl (by decide) rfl (fun ls hl => ?_)
        obtain ⟨v21, ev21, h⟩ := bd_s h
        refine lv_iinc (v := v21) (lv' := [(3, .int v21), (2, .int v20), (0, .ref th)]) S.1 S.2.1 dX8_count_107 hl (k := 2) rfl (by rw [ev21]; rfl) (by decide) rfl (fun ls hl => ?_)
        refine lv_goto (tgt := 81) S.1 S.2.1 dX8_count_110 (by decide) ?_
        exact ih v20 v21 z15 ls _ _ h (lv_sub hl [2, 1, 0] rfl) hP hS
def q_X8_count_117 (ev : EV) (th : Nat) : Nat → Int32 → Int32 → PS → Option (Int32 × PS)
  | 0, _, _, _ => none
  | n + 1, l2, l3, z => if (r32 z 121 th) ≤ l3 then (some (l2, z)) else (ob (g_X8_isLeastEverywhere ev z th l3) (fun qv24 => bd qv24.1 (fun v24 => bd qv24.2 (fun z23 => if v24 = 0 then (bd ((l2 ||| (0 : Int32))) (fun v26 => bd (l3 + (1 : Int32)) (fun v27 => q_X8_count_117 ev th n v26 v27 z23))) else (bd ((l2 ||| ((1 : Int32) <<< (l3 &&& 31)))) (fun v28 => bd (l3 + (1 : Int32)) (fun v29 => q_X8_count_117 ev th n v28 v29 z23)))))))
set_option maxRecDepth 20000 in
set_option maxHeartbeats 4000000 in
theorem w_X8_count_117 {ev : EV} {th : Nat} {p : Program} {l : Launch} {e : Env} {s : State} {m : MethodId} {args : Array Value} {below : List Frame} {meth : Method} {c : Code} {r : Int32} {z9 : PS} (S : CallFix p m c cX8_count 4 s args gT RX8) (hr : meth.sig.returnType = (some .int)) (hlk : meth.locks = false) (E : EWF ev) (hK : KK ev s) (hX : pXt ev s) (hth : isK ev 6 th) : ∀ (n : Nat), ∀ (l2 : Int32) (l3 : Int32) (z : PS) (ls : Array Slot) (H : Heap) (locs : List Loc), q_X8_count_117 ev th n l2 l3 z = some (r, z9) → lv_has ls 4 [(0, .ref th), (2, .int l2), (3, .int l3)] → Wd ev z H → SS ev s H locs → W p l e (pR 11 392) s m args below meth c H locs 0 0 (MQ below (pQi ev r z9) args s 0 0 (eA ev)) (F0 m 117 ls []) := by
  intro n
  induction n with
  | zero => intro l2 l3 z ls H locs h; cases h
  | succ n ih =>
    intro l2 l3 z ls H locs h hl hP hS
    rw [q_X8_count_117] at h
    refine lv_iload_n S.1 S.2.1 dX8_count_117 rfl (lv_at hl 2 rfl) ?_
    refine lv_aload_n S.1 S.2.1 dX8_count_118 rfl (lv_at hl 0 rfl) ?_
    refine gf_6_1 S hK hP hth mw_3_222 dX8_count_119 ?_
    refine lv_icmp_ge (tgt := 149) S.1 S.2.1 dX8_count_122 (by decide) (fun c22 => ?_) (fun c22 => ?_)
    · rw [if_pos c22] at h
      refine lv_iload_n S.1 S.2.1 dX8_count_149 rfl (lv_at hl 1 rfl) ?_
      have h9 := Option.some.inj h
      exact pm_iretW S hr hlk hP hS (congrArg Prod.fst h9) (congrArg Prod.snd h9) dX8_count_150
    · rw [if_neg c22] at h
      refine lv_iload_n S.1 S.2.1 dX8_count_125 rfl (lv_at hl 1 rfl) ?_
      refine lv_aload_n S.1 S.2.1 dX8_count_126 rfl (lv_at hl 0 rfl) ?_
      refine lv_iload_n S.1 S.2.1 dX8_count_127 rfl (lv_at hl 2 rfl) ?_
      obtain ⟨qv24, ev24, h⟩ := ob_s h
      obtain ⟨v24, fv24, h⟩ := bd_s h
      obtain ⟨z23, fz23, h⟩ := bd_s h
      have ev24 : g_X8_isLeastEverywhere ev z th l3 = some (v24, z23) := by rw [fv24, fz23]; exact ev24
      refine pm_cVi (As := [.int l3]) (rest := [.int l2]) S hK hX hP hS (c_X8_isLeastEverywhere l ev z E hth th l3 v24 z23 ev24) vm_X8_isLeastEverywhere mw_5_147 (rc_6 hK hP hth) ⟨⟨rfl, rfl⟩, by decide, by decide⟩ rfl hl.1 rfl (Nat.le_of_ble_eq_true rfl) ⟨Nat.zero_le _, Nat.zero_le _⟩ dX8_count_128 (fun H locs hP hS => ?_)
      refine lv_if_eq (tgt := 140) S.1 S.2.1 dX8_count_131 (by decide) (fun c25 => ?_) (fun c25 => ?_)
      · rw [if_pos c25] at h
        refine lv_iconst (v := 0) S.1 S.2.1 dX8_count_140 (by decide) ?_
        refine lv_ior S.1 S.2.1 dX8_count_141 ?_
        obtain ⟨v26, ev26, h⟩ := bd_s h
        refine pm_nmI ev26 ?_
        refine lv_istore_n (lv' := [(2, .int v26), (0, .ref th), (3, .int l3)]) S.1 S.2.1 dX8_count_142 rfl hl (by decide) rfl (fun ls hl => ?_)
        obtain ⟨v27, ev27, h⟩ := bd_s h
        refine lv_iinc (v := v27) (lv' := [(3, .int v27), (2, .int v26), (0, .ref th)]) S.1 S.2.1 dX8_count_143 hl (k := 2) rfl (by rw [ev27]; rfl) (by decide) rfl (fun ls hl => ?_)
        refine lv_goto (tgt := 117) S.1 S.2.1 dX8_count_146 (by decide) ?_
        exact ih v26 v27 z23 ls _ _ h (lv_sub hl [2, 1, 0] rfl) hP hS
      · rw [if_neg c25] at h
        refine lv_iconst (v := 1) S.1 S.2.1 dX8_count_134 (by decide) ?_
        refine lv_iload_n S.1 S.2.1 dX8_count_135 rfl (lv_at hl 2 rfl) ?_
        refine lv_ishl S.1 S.2.1 dX8_count_136 ?_
        refine lv_goto (tgt := 141) S.1 S.2.1 dX8_count_137 (by decide) ?_
        refine lv_ior S.1 S.2.1 dX8_count_141 ?_
        obtain ⟨v28, ev28, h⟩ := bd_s h
        refine pm_nmI ev28 ?_
        refine lv_istore_n (lv' := [(2, .int v28), (0, .ref th), (3, .int l3)]) S.1 S.2.1 dX8_count_142 rfl hl (by decide) rfl (fun ls hl => ?_)
        obtain ⟨v29, ev29, h⟩ := bd_s h
        refine lv_iinc (v := v29) (lv' := [(3, .int v29), (2, .int v28), (0, .ref th)]) S.1 S.2.1 dX8_count_143 hl (k := 2) rfl (by rw [ev29]; rfl) (by decide) rfl (fun ls hl => ?_)
        refine lv_goto (tgt := 117) S.1 S.2.1 dX8_count_146 (by decide) ?_
        exact ih v28 v29 z23 ls _ _ h (lv_sub hl [2, 1, 0] rfl) hP hS
def g_X8_count (ev : EV) (z : PS) (th : Nat) (l1 : Int32) : Option (Int32 × PS) := bd (w32 z 120 th (0 : Int32)) (fun z1 => if l1 = 0 then (some ((r32 z1 121 th), z1)) else (if l1 = 1 then (q_X8_count_47 ev th FU (0 : Int32) (0 : Int32) z1) else (if l1 = 2 then (q_X8_count_81 ev th FU (0 : Int32) (0 : Int32) z1) else (if l1 = 3 then (q_X8_count_117 ev th FU (0 : Int32) (0 : Int32) z1) else (some ((-1 : Int32), z1))))))
set_option maxRecDepth 20000 in
set_option maxHeartbeats 4000000 in
theorem c_X8_count (l : Launch) (ev : EV) (z : PS) (E : EWF ev) {th : Nat} (hth : isK ev 6 th) (th_ : Nat) (l1 : Int32) (r : Int32) (z9 : PS) (h : g_X8_count ev z th l1 = some (r, z9)) : Met l yX8_count (pWs yX8_count cX8_count 4 (some .int)) (pR 11 392) (va_Pc [.ref th, .int l1] (pPe ev z)) (pQi ev r z9) 0 0 (eA ev) := by
  refine pm_of (by decide) (Nat.le_of_ble_eq_true rfl) ?_
  intro p e s m below meth c S hr hlk hv ls hl
  obtain ⟨hP, hK, hX⟩ := hv
  have hS : SS ev s s.heap [] := va_S.rf
  have hl : lv_has ls 4 [(0, .ref th), (1, .int l1)] := hl
  unfold g_X8_count at h
  refine lv_aload_n S.1 S.2.1 dX8_count_0 rfl (lv_at hl 0 rfl) ?_
  refine lv_iconst (v := 0) S.1 S.2.1 dX8_count_1 (by decide) ?_
  obtain ⟨z1, ez1, h⟩ := bd_s h
  refine pf_6_0 S E hK hP hS hth mw_3_221 dX8_count_2 (fun H locs hP hS => ?_)
  rw [← ez1] at hP
  refine lv_iconst (v := 0) S.1 S.2.1 dX8_count_5 (by decide) ?_
  refine lv_istore_n (lv' := [(2, .int (0 : Int32)), (0, .ref th), (1, .int l1)]) S.1 S.2.1 dX8_count_6 rfl hl (by decide) rfl (fun ls hl => ?_)
  refine lv_iload_n S.1 S.2.1 dX8_count_7 rfl (lv_at hl 2 rfl) ?_
  by_cases c2 : l1 = 0
  · rw [if_pos c2] at h
    refine lv_tableIn (off := 32) (tgt := 40) S.1 S.2.1 dX8_count_8 (by rw [c2]; decide) (by rw [c2]; decide) (by rw [c2]; rfl) (by decide) ?_
    refine lv_aload_n S.1 S.2.1 dX8_count_40 rfl (lv_at hl 1 rfl) ?_
    refine gf_6_1 S hK hP hth mw_3_222 dX8_count_41 ?_
    have h9 := Option.some.inj h
    exact pm_iretW S hr hlk hP hS (congrArg Prod.fst h9) (congrArg Prod.snd h9) dX8_count_44
  · rw [if_neg c2] at h
    by_cases c3 : l1 = 1
    · rw [if_pos c3] at h
      refine lv_tableIn (off := 37) (tgt := 45) S.1 S.2.1 dX8_count_8 (by rw [c3]; decide) (by rw [c3]; decide) (by rw [c3]; rfl) (by decide) ?_
      refine lv_iconst (v := 0) S.1 S.2.1 dX8_count_45 (by decide) ?_
      refine lv_istore_n (lv' := [(3, .int (0 : Int32)), (2, .int (0 : Int32)), (0, .ref th), (1, .int l1)]) S.1 S.2.1 dX8_count_46 rfl hl (by decide) rfl (fun ls hl => ?_)
      exact w_X8_count_47 S hr hlk E hK hX hth FU (0 : Int32) (0 : Int32) z1 ls _ _ h (lv_sub hl [2, 1, 0] rfl) hP hS
    · rw [if_neg c3] at h
      by_cases c4 : l1 = 2
      · rw [if_pos c4] at h
        refine lv_tableIn (off := 71) (tgt := 79) S.1 S.2.1 dX8_count_8 (by rw [c4]; decide) (by rw [c4]; decide) (by rw [c4]; rfl) (by decide) ?_
        refine lv_iconst (v := 0) S.1 S.2.1 dX8_count_79 (by decide) ?_
        refine lv_istore_n (lv' := [(3, .int (0 : Int32)), (2, .int (0 : Int32)), (0, .ref th), (1, .int l1)]) S.1 S.2.1 dX8_count_80 rfl hl (by decide) rfl (fun ls hl => ?_)
        exact w_X8_count_81 S hr hlk E hK hX hth FU (0 : Int32) (0 : Int32) z1 ls _ _ h (lv_sub hl [2, 1, 0] rfl) hP hS
      · rw [if_neg c4] at h
        by_cases c5 : l1 = 3
        · rw [if_pos c5] at h
          refine lv_tableIn (off := 107) (tgt := 115) S.1 S.2.1 dX8_count_8 (by rw [c5]; decide) (by rw [c5]; decide) (by rw [c5]; rfl) (by decide) ?_
          refine lv_iconst (v := 0) S.1 S.2.1 dX8_count_115 (by decide) ?_
          refine lv_istore_n (lv' := [(3, .int (0 : Int32)), (2, .int (0 : Int32)), (0, .ref th), (1, .int l1)]) S.1 S.2.1 dX8_count_116 rfl hl (by decide) rfl (fun ls hl => ?_)
          exact w_X8_count_117 S hr hlk E hK hX hth FU (0 : Int32) (0 : Int32) z1 ls _ _ h (lv_sub hl [2, 1, 0] rfl) hP hS
        · rw [if_neg c5] at h
          refine lv_tableOut (tgt := 151) S.1 S.2.1 dX8_count_8 (by have nc2 := lv_neT c2 (show (0 : Int32).toInt = 0 by decide); have nc3 := lv_neT c3 (show (1 : Int32).toInt = 1 by decide); have nc4 := lv_neT c4 (show (2 : Int32).toInt = 2 by decide); have nc5 := lv_neT c5 (show (3 : Int32).toInt = 3 by decide); omega) (by decide) ?_
          refine lv_iconst (v := -1) S.1 S.2.1 dX8_count_151 (by decide) ?_
          have h9 := Option.some.inj h
          exact pm_iretW S hr hlk hP hS (congrArg Prod.fst h9) (congrArg Prod.snd h9) dX8_count_152
theorem vm_X8_count : pm_Vm yX8_count cX8_count 4 (some .int) 1 := ⟨mw_5_138, mw_5_136, mw_5_137, mw_1_7, by decide, by decide⟩
