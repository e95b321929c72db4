/-! the law's own three methods, which catch -/
theorem mw_3_130 : Cond.codeWith yL_of cL_of 5 (some .int) [(0, 9, 12, 13)] ∈ gT := gT_3 (List.mem_of_getElem? (i := 130) rfl) rfl
theorem mw_3_203 : Cond.codeWith yL_leastOf cL_leastOf 5 (some .int) [(0, 9, 12, 13)] ∈ gT := gT_3 (List.mem_of_getElem? (i := 203) rfl) rfl
theorem mw_3_210 : Cond.codeWith yL_point cL_point 6 (some .int) [(0, 12, 15, 13)] ∈ gT := gT_3 (List.mem_of_getElem? (i := 210) rfl) rfl
abbrev pWW (y : MethodName) (bytes : ByteArray) (maxL : Nat) (ret : Option FieldType) (hh : List (Nat × Nat × Nat × Nat)) : List Cond := Cond.codeWith y bytes maxL ret hh :: gT
abbrev pRY : Room := { frames := 7, cells := 1, slots := 6, locals := 290 }
theorem pw_of {l : Launch} {y : MethodName} {bytes : ByteArray} {maxL : Nat} {ret : Option FieldType} {hh : List (Nat × Nat × Nat × Nat)} {rm : Room} {Pc' : State → Prop} {Qc : Array Value → State → Outcome → State → Prop} {XC : String → State → State → Prop} {mc ms : Nat} {free : Addr → Prop} {As : List Value} (hy : plainName y.cls = true) (hA : (lg_sl As).length ≤ maxL)
    (body : ∀ (p : Program) (e : Env) (s : State) (m : MethodId) (below : List Frame) (meth : Method) (c : Code), CallFix p m c bytes maxL s As.toArray gT y.cls → meth.sig.returnType = ret → meth.locks = false → c.exceptionTable.toList = tableOf hh → Pc' s → ∀ ls : Array Slot, lv_has ls maxL (lv_args 0 As) →
      W p l e rm s m As.toArray below meth c s.heap [] 0 0 (vx_MQ below Qc XC As.toArray s mc ms free) (F0 m 0 ls [])) : vx_Met l y (pWW y bytes maxL ret hh) rm (va_Pc As Pc') Qc XC mc ms free := by
  refine vx_ofWH (cc := bytes) (maxL := maxL) (ret := ret) (hh := hh) hy rfl ?_
  intro p e s m args below meth c s₁ B hml hv
  obtain ⟨rfl, hv⟩ := hv
  have hts := atoms_spec (ws := pWW y bytes maxL ret hh) B.pre
  have hl := lv_entry As (n := maxL) hA
  rw [lg_entry_eq]
  exact body p e s m below meth c ⟨B.exec, B.bytes, hml, findClass_of_methodNamed B.named, fun w h => hts w (List.mem_cons_of_mem _ h)⟩ B.returns B.notSynchronized (vx_table (x := y) B (hts _ List.mem_cons_self)) hv _ hl
/-- no exception leaves -/
abbrev xN : String → State → State → Prop := fun _ _ _ => False
section PY
variable {p : Program} {l : Launch} {e : Env} {R : Room} {s : State} {m : MethodId} {args : Array Value} {below : List Frame} {meth : Method} {c : Code} {H : Heap} {locs : List Loc} {cells slots : Nat} {Q : State → Prop} {cc : ByteArray} {pc nL : Nat} {ls : Array Slot} {rest st : List Value} {ev : EV} {z z9 : PS} {own : String}
theorem py_iret {v k : Int32} (S : CallFix p m c cc nL s args gT own) (hr : meth.sig.returnType = some .int) (hlk : meth.locks = false) (hP : Wd ev z H) (hS : SS ev s H locs) (hv : v = k) (hz : z = z9) (hdg : decode cc pc = .ok (.ireturn, 1)) :
    W p l e R s m args below meth c H locs 1 6 (vx_MQ below (pQi ev k z9) xN args s 1 6 (eA ev)) (F0 m pc ls [.int v]) := by
  subst hz
  subst hv
  exact vx_ret (pm_iretW S hr hlk hP hS rfl rfl hdg)
theorem px_cw {y : MethodName} {bytes : ByteArray} {maxL n index : Nat} {ret : Option FieldType} {As : List Value} (S : CallFix p m c cc nL s args gT own) (hm : pm_Vm y bytes maxL ret n) (hlink : Cond.methodLink own index y ∈ gT) (hR : 7 ≤ R.frames ∧ 8 + (maxL + 11) + 250 ≤ R.locals) : CallW R s args own y.cls index y bytes maxL ret (pWs y bytes maxL ret) pRX 1 6 n :=
  ⟨⟨rfl, rfl, hR.1, hR.2, pm_words S hm.1, List.mem_cons_self, S.2.2.2.2 _ hm.1, S.2.2.2.2 _ hm.2.2.2.1, hm.2.2.2.2.1, fun sig h => by
    have h2 := hm.2.2.2.2.2
    rw [h] at h2
    exact (Option.some.inj h2).symm, S.2.2.2.2 _ hlink⟩, S.2.2.2.2 _ hm.2.1, S.2.2.2.2 _ hm.2.2.1⟩
end PY
theorem vm_X7_of : pm_Vm yX7_of cX7_of 3 (some .long) 2 := ⟨mw_3_135, mw_3_133, mw_3_134, mw_1_1, by decide, by decide⟩
theorem vm_X7_leastOf : pm_Vm yX7_leastOf cX7_leastOf 3 (some .long) 2 := ⟨mw_3_207, mw_3_205, mw_3_206, mw_1_1, by decide, by decide⟩
theorem vm_X7_point : pm_Vm yX7_point cX7_point 4 (some .int) 3 := ⟨mw_3_214, mw_3_212, mw_3_213, mw_1_1, by decide, by decide⟩
set_option maxRecDepth 20000 in
set_option maxHeartbeats 4000000 in
theorem c_L_of (l : Launch) (hst : l.stackTraces = false) (ev : EV) (z : PS) (E : EWF ev) {th o : Nat} (hth : isK ev 5 th) (ho : isK ev 8 o) (hno : eN ev o = 1) (l1 l2 : Int32) (oo : Option Int64) (h : g_X7_of ev z th l1 l2 = some oo) (k : Int32) (z9 : PS) (hk : (oo = none ∧ k = 1 ∧ z9 = z) ∨ ∃ v, oo = some v ∧ k = 0 ∧ z9 = wJ z o 0 v) :
    vx_Met l yL_of (pWW yL_of cL_of 5 (some .int) [(0, 9, 12, 13)]) pRY (va_Pc [.ref th, .int l1, .int l2, .ref o] (fun U => pPe ev z U ∧ thX ev U)) (pQi ev k z9) xN 1 6 (eA ev) := by
  refine pw_of (by decide) (Nat.le_of_ble_eq_true rfl) ?_
  intro p e s m below meth c S hr hlk htb hv ls hl
  obtain ⟨⟨hP, hK, hX⟩, hT⟩ := hv
  have hS : SS ev s s.heap [] := va_S.rf
  have hl : lv_has ls 5 [(0, .ref th), (1, .int l1), (2, .int l2), (3, .ref o)] := hl
  refine lv_aload_n S.1 S.2.1 dL_of_0 rfl (lv_at hl 3 rfl) ?_
  refine lv_iconst (v := 0) S.1 S.2.1 dL_of_1 (by decide) ?_
  refine lv_aload_n S.1 S.2.1 dL_of_2 rfl (lv_at hl 0 rfl) ?_
  refine lv_iload_n S.1 S.2.1 dL_of_3 rfl (lv_at hl 1 rfl) ?_
  refine lv_iload_n S.1 S.2.1 dL_of_4 rfl (lv_at hl 2 rfl) ?_
  refine vx_calll (A0 := eA ev) (H0 := s.heap) (vx_runV (C := RX7) (b := th) (As := [.int l1, .int l2]) (rest := [.int 0, .ref o]) S (c_X7_of l hst ev z E hth l1 l2 oo h) (px_cw (As := [.int l1, .int l2]) S vm_X7_of mw_3_132 (by decide)) ⟨px_blind [.ref th, .int l1, .int l2] ev z, rc_5 hK hP hth, fun U hU hW => ⟨rfl, ⟨by rw [hU]; exact hP, va_K.moved hW.alike hK, pX_next hX hS hU hW⟩, thX_next hT hS hU hW⟩⟩ rfl rfl hl.1 rfl (Nat.le_of_ble_eq_true rfl) dL_of_5 (by decide)) hS (fun q _ h => h) (fun q h => h) (fun q _ h => h) ?_ ?_
  · intro E9 ce q9 u t H1 locs1 ht hal hpx hb hsz hkp hS1 hce hcv hcl
    obtain ⟨hE, hP1⟩ := hb
    subst hE
    rw [ht] at hP1
    refine vx_catch (own := RL) (name := thC) S.2.2.2.1 [] ⟨0, 9, 12, 13⟩ [] htb (fun z hz => nomatch hz) (by decide) (by decide) (S.2.2.2.2 _ mw_3_131) (va_Nw.use rfl hT.1.1) hce hcv hcl ?_
    refine lv_astore S.1 S.2.1 dL_of_12 hl (by decide) rfl (fun ls1 hl1 => ?_)
    refine lv_iconst (v := 1) S.1 S.2.1 dL_of_14 (by decide) ?_
    rcases hk with ⟨h1, h2, h3⟩ | ⟨v, h1, h2, h3⟩
    · exact py_iret S hr hlk hP1 hS1 h2.symm h3.symm dL_of_15
    · exact absurd (h1.symm.trans hpx) (by simp)
  · intro r u t H1 locs1 ht hal hpo hP1 hsz hkp hS1
    have hP1 : Wd ev z t.heap := hP1
    rw [ht] at hP1
    refine as_J S E hK hP1 hS1 ho (by rw [hno]; decide) dL_of_8 (fun H2 locs2 hP2 hS2 => ?_)
    refine lv_goto (tgt := 16) S.1 S.2.1 dL_of_9 (by decide) ?_
    refine lv_iconst (v := 0) S.1 S.2.1 dL_of_16 (by decide) ?_
    rcases hk with ⟨h1, h2, h3⟩ | ⟨v, h1, h2, h3⟩
    · exact absurd (h1.symm.trans hpo) (by simp)
    · have e9 : v = r := Option.some.inj (h1.symm.trans hpo)
      subst e9
      exact py_iret S hr hlk hP2 hS2 h2.symm h3.symm dL_of_17
set_option maxRecDepth 20000 in
set_option maxHeartbeats 4000000 in
theorem c_L_leastOf (l : Launch) (hst : l.stackTraces = false) (ev : EV) (z : PS) (E : EWF ev) {th o : Nat} (hth : isK ev 5 th) (ho : isK ev 8 o) (hno : eN ev o = 1) (l1 l2 : Int32) (oo : Option Int64) (h : g_X7_leastOf ev z th l1 l2 = some oo) (k : Int32) (z9 : PS) (hk : (oo = none ∧ k = 1 ∧ z9 = z) ∨ ∃ v, oo = some v ∧ k = 0 ∧ z9 = wJ z o 0 v) :
    vx_Met l yL_leastOf (pWW yL_leastOf cL_leastOf 5 (some .int) [(0, 9, 12, 13)]) pRY (va_Pc [.ref th, .int l1, .int l2, .ref o] (fun U => pPe ev z U ∧ thX ev U)) (pQi ev k z9) xN 1 6 (eA ev) := by
  refine pw_of (by decide) (Nat.le_of_ble_eq_true rfl) ?_
  intro p e s m below meth c S hr hlk htb hv ls hl
  obtain ⟨⟨hP, hK, hX⟩, hT⟩ := hv
  have hS : SS ev s s.heap [] := va_S.rf
  have hl : lv_has ls 5 [(0, .ref th), (1, .int l1), (2, .int l2), (3, .ref o)] := hl
  refine lv_aload_n S.1 S.2.1 dL_leastOf_0 rfl (lv_at hl 3 rfl) ?_
  refine lv_iconst (v := 0) S.1 S.2.1 dL_leastOf_1 (by decide) ?_
  refine lv_aload_n S.1 S.2.1 dL_leastOf_2 rfl (lv_at hl 0 rfl) ?_
  refine lv_iload_n S.1 S.2.1 dL_leastOf_3 rfl (lv_at hl 1 rfl) ?_
  refine lv_iload_n S.1 S.2.1 dL_leastOf_4 rfl (lv_at hl 2 rfl) ?_
  refine vx_calll (A0 := eA ev) (H0 := s.heap) (vx_runV (C := RX7) (b := th) (As := [.int l1, .int l2]) (rest := [.int 0, .ref o]) S (c_X7_leastOf l hst ev z E hth l1 l2 oo h) (px_cw (As := [.int l1, .int l2]) S vm_X7_leastOf mw_3_204 (by decide)) ⟨px_blind [.ref th, .int l1, .int l2] ev z, rc_5 hK hP hth, fun U hU hW => ⟨rfl, ⟨by rw [hU]; exact hP, va_K.moved hW.alike hK, pX_next hX hS hU hW⟩, thX_next hT hS hU hW⟩⟩ rfl rfl hl.1 rfl (Nat.le_of_ble_eq_true rfl) dL_leastOf_5 (by decide)) hS (fun q _ h => h) (fun q h => h) (fun q _ h => h) ?_ ?_
  · intro E9 ce q9 u t H1 locs1 ht hal hpx hb hsz hkp hS1 hce hcv hcl
    obtain ⟨hE, hP1⟩ := hb
    subst hE
    rw [ht] at hP1
    refine vx_catch (own := RL) (name := thC) S.2.2.2.1 [] ⟨0, 9, 12, 13⟩ [] htb (fun z hz => nomatch hz) (by decide) (by decide) (S.2.2.2.2 _ mw_3_131) (va_Nw.use rfl hT.1.1) hce hcv hcl ?_
    refine lv_astore S.1 S.2.1 dL_leastOf_12 hl (by decide) rfl (fun ls1 hl1 => ?_)
    refine lv_iconst (v := 1) S.1 S.2.1 dL_leastOf_14 (by decide) ?_
    rcases hk with ⟨h1, h2, h3⟩ | ⟨v, h1, h2, h3⟩
    · exact py_iret S hr hlk hP1 hS1 h2.symm h3.symm dL_leastOf_15
    · exact absurd (h1.symm.trans hpx) (by simp)
  · intro r u t H1 locs1 ht hal hpo hP1 hsz hkp hS1
    have hP1 : Wd ev z t.heap := hP1
    rw [ht] at hP1
    refine as_J S E hK hP1 hS1 ho (by rw [hno]; decide) dL_leastOf_8 (fun H2 locs2 hP2 hS2 => ?_)
    refine lv_goto (tgt := 16) S.1 S.2.1 dL_leastOf_9 (by decide) ?_
    refine lv_iconst (v := 0) S.1 S.2.1 dL_leastOf_16 (by decide) ?_
    rcases hk with ⟨h1, h2, h3⟩ | ⟨v, h1, h2, h3⟩
    · exact absurd (h1.symm.trans hpo) (by simp)
    · have e9 : v = r := Option.some.inj (h1.symm.trans hpo)
      subst e9
      exact py_iret S hr hlk hP2 hS2 h2.symm h3.symm dL_leastOf_17
set_option maxRecDepth 20000 in
set_option maxHeartbeats 4000000 in
theorem c_L_point (l : Launch) (hst : l.stackTraces = false) (ev : EV) (z : PS) (E : EWF ev) {th o : Nat} (hth : isK ev 5 th) (ho : isK ev 8 o) (hno : eN ev o = 1) (l1 l2 l3 : Int32) (oo : Option Int32) (z1 : PS) (h : g_X7_point ev z th l1 l2 l3 = some (oo, z1)) (k : Int32) (z9 : PS) (hk : (oo = none ∧ k = 1 ∧ z9 = z1) ∨ ∃ v, oo = some v ∧ k = 0 ∧ z9 = wJ z1 o 0 v.toInt64) :
    vx_Met l yL_point (pWW yL_point cL_point 6 (some .int) [(0, 12, 15, 13)]) pRY (va_Pc [.ref th, .int l1, .int l2, .int l3, .ref o] (fun U => pPe ev z U ∧ thX ev U)) (pQi ev k z9) xN 1 6 (eA ev) := by
  refine pw_of (by decide) (Nat.le_of_ble_eq_true rfl) ?_
  intro p e s m below meth c S hr hlk htb hv ls hl
  obtain ⟨⟨hP, hK, hX⟩, hT⟩ := hv
  have hS : SS ev s s.heap [] := va_S.rf
  have hl : lv_has ls 6 [(0, .ref th), (1, .int l1), (2, .int l2), (3, .int l3), (4, .ref o)] := hl
  refine lv_aload S.1 S.2.1 dL_point_0 (lv_at hl 4 rfl) ?_
  refine lv_iconst (v := 0) S.1 S.2.1 dL_point_2 (by decide) ?_
  refine lv_aload_n S.1 S.2.1 dL_point_3 rfl (lv_at hl 0 rfl) ?_
  refine lv_iload_n S.1 S.2.1 dL_point_4 rfl (lv_at hl 1 rfl) ?_
  refine lv_iload_n S.1 S.2.1 dL_point_5 rfl (lv_at hl 2 rfl) ?_
  refine lv_iload_n S.1 S.2.1 dL_point_6 rfl (lv_at hl 3 rfl) ?_
  refine vx_calli (A0 := eA ev) (H0 := s.heap) (vx_runV (C := RX7) (b := th) (As := [.int l1, .int l2, .int l3]) (rest := [.int 0, .ref o]) S (c_X7_point l hst ev z E hth l1 l2 l3 oo z1 h) (px_cw (As := [.int l1, .int l2, .int l3]) S vm_X7_point mw_3_211 (by decide)) ⟨px_blind [.ref th, .int l1, .int l2, .int l3] ev z, rc_5 hK hP hth, fun U hU hW => ⟨rfl, ⟨by rw [hU]; exact hP, va_K.moved hW.alike hK, pX_next hX hS hU hW⟩, thX_next hT hS hU hW⟩⟩ rfl rfl hl.1 rfl (Nat.le_of_ble_eq_true rfl) dL_point_7 (by decide)) hS (fun q _ h => h) (fun q h => h) (fun q _ h => h) ?_ ?_
  · intro E9 ce q9 u t H1 locs1 ht hal hpx hb hsz hkp hS1 hce hcv hcl
    obtain ⟨hE, hP1⟩ := hb
    subst hE
    rw [ht] at hP1
    refine vx_catch (own := RL) (name := thC) S.2.2.2.1 [] ⟨0, 12, 15, 13⟩ [] htb (fun z hz => nomatch hz) (by decide) (by decide) (S.2.2.2.2 _ mw_3_131) (va_Nw.use rfl hT.1.1) hce hcv hcl ?_
    refine lv_astore S.1 S.2.1 dL_point_15 hl (by decide) rfl (fun ls1 hl1 => ?_)
    refine lv_iconst (v := 1) S.1 S.2.1 dL_point_17 (by decide) ?_
    rcases hk with ⟨h1, h2, h3⟩ | ⟨v, h1, h2, h3⟩
    · exact py_iret S hr hlk hP1 hS1 h2.symm h3.symm dL_point_18
    · exact absurd (h1.symm.trans hpx) (by simp)
  · intro r u t H1 locs1 ht hal hpo hP1 hsz hkp hS1
    have hP1 : Wd ev z1 t.heap := hP1
    rw [ht] at hP1
    refine lv_i2l S.1 S.2.1 dL_point_10 rfl ?_
    refine as_J S E hK hP1 hS1 ho (by rw [hno]; decide) dL_point_11 (fun H2 locs2 hP2 hS2 => ?_)
    refine lv_goto (tgt := 19) S.1 S.2.1 dL_point_12 (by decide) ?_
    refine lv_iconst (v := 0) S.1 S.2.1 dL_point_19 (by decide) ?_
    rcases hk with ⟨h1, h2, h3⟩ | ⟨v, h1, h2, h3⟩
    · exact absurd (h1.symm.trans hpo) (by simp)
    · have e9 : v = r := Option.some.inj (h1.symm.trans hpo)
      subst e9
      exact py_iret S hr hlk hP2 hS2 h2.symm h3.symm dL_point_20
