/-! the words of the throw -/
theorem mw_3_136 : Cond.classLink RX7 125 "java/util/NoSuchElementException" ∈ gT := gT_3 (List.mem_of_getElem? (i := 136) rfl) rfl
theorem mw_1_14 : Cond.initialized "java/util/NoSuchElementException" ∈ gT := gT_1 (List.mem_of_getElem? (i := 14) rfl) rfl
theorem mw_3_197 : Cond.methodLink RX7 128 yX0_value ∈ gT := gT_3 (List.mem_of_getElem? (i := 197) rfl) rfl
theorem mw_1_173 : Cond.fieldLink RX7 205 "CurveFalls$SmallPoints" "xs" "[I" ∈ gT := gT_1 (List.mem_of_getElem? (i := 173) rfl) rfl
theorem mw_1_175 : Cond.fieldLink RX7 208 "CurveFalls$SmallPoints" "ys" "[I" ∈ gT := gT_1 (List.mem_of_getElem? (i := 175) rfl) rfl
theorem mw_3_132 : Cond.methodLink RL 7 yX7_of ∈ gT := gT_3 (List.mem_of_getElem? (i := 132) rfl) rfl
theorem mw_3_133 : Cond.instanceMethod yX7_of ∈ gT := gT_3 (List.mem_of_getElem? (i := 133) rfl) rfl
theorem mw_3_135 : Cond.code yX7_of cX7_of 3 (some .long) ∈ gT := gT_3 (List.mem_of_getElem? (i := 135) rfl) rfl
theorem mw_3_204 : Cond.methodLink RL 15 yX7_leastOf ∈ gT := gT_3 (List.mem_of_getElem? (i := 204) rfl) rfl
theorem mw_3_205 : Cond.instanceMethod yX7_leastOf ∈ gT := gT_3 (List.mem_of_getElem? (i := 205) rfl) rfl
theorem mw_3_207 : Cond.code yX7_leastOf cX7_leastOf 3 (some .long) ∈ gT := gT_3 (List.mem_of_getElem? (i := 207) rfl) rfl
theorem mw_3_211 : Cond.methodLink RL 18 yX7_point ∈ gT := gT_3 (List.mem_of_getElem? (i := 211) rfl) rfl
theorem mw_3_212 : Cond.instanceMethod yX7_point ∈ gT := gT_3 (List.mem_of_getElem? (i := 212) rfl) rfl
theorem mw_3_214 : Cond.code yX7_point cX7_point 4 (some .int) ∈ gT := gT_3 (List.mem_of_getElem? (i := 214) rfl) rfl
theorem mw_3_131 : Cond.classLink RL 13 "java/util/NoSuchElementException" ∈ gT := gT_3 (List.mem_of_getElem? (i := 131) rfl) rfl
theorem mw_3_134 : Cond.selects RX7 yX7_of yX7_of ∈ gT := gT_3 (List.mem_of_getElem? (i := 134) rfl) rfl
theorem mw_3_206 : Cond.selects RX7 yX7_leastOf yX7_leastOf ∈ gT := gT_3 (List.mem_of_getElem? (i := 206) rfl) rfl
theorem mw_3_213 : Cond.selects RX7 yX7_point yX7_point ∈ gT := gT_3 (List.mem_of_getElem? (i := 213) rfl) rfl
theorem mw_3_129 : Cond.static yL_of ∈ gT := gT_3 (List.mem_of_getElem? (i := 129) rfl) rfl
theorem mw_3_202 : Cond.static yL_leastOf ∈ gT := gT_3 (List.mem_of_getElem? (i := 202) rfl) rfl
theorem mw_3_209 : Cond.static yL_point ∈ gT := gT_3 (List.mem_of_getElem? (i := 209) rfl) rfl
theorem mw_1_0 : Cond.initialized RL ∈ gT := gT_1 (List.mem_of_getElem? (i := 0) rfl) rfl
abbrev thC : String := "java/util/NoSuchElementException"
def thW : List Cond := vx_at0 RX7 127 "java/util/NoSuchElementException" ["java/lang/RuntimeException", "java/lang/Exception"]
set_option maxRecDepth 100000 in
theorem thW_ot : ∀ w ∈ Cond.classLink RX7 125 "java/util/NoSuchElementException" :: Cond.initialized "java/util/NoSuchElementException" :: thW, vx_ot w = true := by decide +kernel
set_option maxRecDepth 100000 in
theorem thW_bad : ∀ w ∈ thW, goodWord w = true ∨ w = .castable "java/util/NoSuchElementException" "java/util/NoSuchElementException" ∨ w = .declares ⟨"java/lang/RuntimeException", "<init>", "()V"⟩ ∨ w = .declares ⟨"java/lang/Exception", "<init>", "()V"⟩ ∨ w = .declares ⟨"java/lang/Throwable", "<init>", "()V"⟩ := by decide +kernel
set_option maxRecDepth 100000 in
theorem thW_in : ∀ w ∈ thW, w ∈ lw_tbl := by decide +kernel
def thN (U : State) : Prop := va_Nw (.castable "java/util/NoSuchElementException" "java/util/NoSuchElementException") U ∧ va_Nw (.declares ⟨"java/lang/RuntimeException", "<init>", "()V"⟩) U ∧ va_Nw (.declares ⟨"java/lang/Exception", "<init>", "()V"⟩) U ∧ va_Nw (.declares ⟨"java/lang/Throwable", "<init>", "()V"⟩) U
def thX (ev : EV) (U : State) : Prop := thN U ∧ vx_Zq Bundle.tN "UNASSIGNED_STACK" Bundle.steD (eA ev) U U.heap ∧ vx_Zq Bundle.tN "SUPPRESSED_SENTINEL" Bundle.listD (eA ev) U U.heap
theorem thX_next {ev : EV} {s U : State} {H : Heap} {locs : List Loc} (hX : thX ev s) (hS : SS ev s H locs) (hU : U.heap = H) (hW : s.WarmedH U.vm) : thX ev U := by
  have hq : ∀ a : Nat, a < s.heap.size → ¬ eA ev a → U.heap[a]? = s.heap[a]? := fun a h1 h2 => by rw [hU]; exact hS.2.1 a h1 h2
  obtain ⟨h0, h1, h2⟩ := hX
  exact ⟨⟨va_Nw.warmC hW h0.1, va_Nw.warmD hW h0.2.1, va_Nw.warmD hW h0.2.2.1, va_Nw.warmD hW h0.2.2.2⟩, (h1.kept hq).moved hW.alike, (h2.kept hq).moved hW.alike⟩
theorem thX_call {ev : EV} {U : State} {g : JFrame} {mk : MethodId} {a : Array Value} (hX : thX ev U) : thX ev (U.calling g mk a) := by
  obtain ⟨h0, h1, h2⟩ := hX
  have al : U.vm.Alike (U.calling g mk a).vm := Vm.Alike.refl U.vm
  exact ⟨⟨va_Nw.same rfl rfl h0.1, va_Nw.same rfl rfl h0.2.1, va_Nw.same rfl rfl h0.2.2.1, va_Nw.same rfl rfl h0.2.2.2⟩, h1.moved al, h2.moved al⟩
theorem px_blind (As : List Value) (ev : EV) (z : PS) : FrameBlind (va_Pc As (fun U => pPe ev z U ∧ thX ev U)) := fun _ U g mk q => ⟨q.1, ⟨q.2.1.1, va_K.moved (u := U) (U := U.calling g mk _) (Vm.Alike.refl U.vm) q.2.1.2.1, pX_call q.2.1.2.2⟩, thX_call q.2.2⟩
abbrev pRX : Room := { frames := 6, cells := 1, slots := 6, locals := 250 }
theorem px_of {l : Launch} {y : MethodName} {bytes : ByteArray} {maxL : Nat} {ret : Option FieldType} {rm : Room} {Pc' : State → Prop} {Qc : Array Value → State → Outcome → State → Prop} {XC : String → State → State → Prop} {mc ms : Nat} {free : Addr → Prop} {As : List Value} (hy : plainName y.cls = true) (hA : (lg_sl As).length ≤ maxL)
    (body : ∀ (p : Program) (e : Env) (s : State) (m : MethodId) (below : List Frame) (meth : Method) (c : Code), CallFix p m c bytes maxL s As.toArray gT y.cls → meth.sig.returnType = ret → meth.locks = false → (∀ x ∈ c.exceptionTable.toList, False) → Pc' s → ∀ ls : Array Slot, lv_has ls maxL (lv_args 0 As) →
      W p l e rm s m As.toArray below meth c s.heap [] 0 0 (vx_MQ below Qc XC As.toArray s mc ms free) (F0 m 0 ls [])) : vx_Met l y (pWs y bytes maxL ret) rm (va_Pc As Pc') Qc XC mc ms free := by
  refine vx_ofW (cc := bytes) (maxL := maxL) (ret := ret) hy rfl ?_
  intro p e s m args below meth c s₁ B hml hx hv
  obtain ⟨rfl, hv⟩ := hv
  have hts := atoms_spec (ws := pWs y bytes maxL ret) B.pre
  have hl := lv_entry As (n := maxL) hA
  rw [lg_entry_eq]
  exact body p e s m below meth c ⟨B.exec, B.bytes, hml, findClass_of_methodNamed B.named, fun w h => hts w (List.mem_cons_of_mem _ h)⟩ B.returns B.notSynchronized hx hv _ hl
/-- what is left where it is thrown -/
abbrev xX (ev : EV) (P : Prop) (z : PS) : String → State → State → Prop := vx_X (fun _ : Unit => P) (fun E _ t => E = thC ∧ Wd ev z t.heap) (eA ev)
section PX
variable {p : Program} {l : Launch} {e : Env} {R : Room} {s : State} {m : MethodId} {args : Array Value} {below : List Frame} {meth : Method} {c : Code} {H : Heap} {locs : List Loc} {cells slots : Nat} {Q : State → Prop} {cc : ByteArray} {pc nL : Nat} {ls : Array Slot} {rest st : List Value} {ev : EV} {z : PS} {own : String} {Qc : Array Value → State → Outcome → State → Prop}
theorem Wd_kept {H1 : Heap} (hP : Wd ev z H) (h : ∀ q : Nat, q < H.size → H1[q]? = H[q]?) : Wd ev z H1 := va_P.kept hP (fun k q hk => h _ (vx_lt hP hk))
theorem px_throw {P : Prop} (hp : P) (S : CallFix p m c cc nL s args gT RX7) (hst : l.stackTraces = false) (hT : thX ev s) (hP : Wd ev z H) (hS : SS ev s H locs) (hsize : ls.size = nL) (hex : ∀ x ∈ c.exceptionTable.toList, False) (hlk : meth.locks = false)
    (hR : 5 < R.frames ∧ 81 ≤ R.locals ∧ 1 ≤ R.cells ∧ 6 ≤ R.slots) (d0 : decode cc pc = .ok (.new 125, 3)) (d3 : decode cc (pc + 3) = .ok (.dup, 1)) (d4 : decode cc (pc + 4) = .ok (.invokespecial 127, 3)) (d7 : decode cc (pc + 7) = .ok (.athrow, 1)) :
    W p l e R s m args below meth c H locs 0 0 (vx_MQ below Qc (xX ev P z) args s 1 6 (eA ev)) (F0 m pc ls []) := by
  refine vx_throw0 (names := ["java/lang/RuntimeException", "java/lang/Exception"]) S.1 S.2.1 hst S.2.2.2.1 (by decide +kernel) (by decide +kernel) (S.2.2.2.2 _ mw_3_136) (S.2.2.2.2 _ mw_1_14) (fun w hw => ?_) thW_ot hT.2.1 hT.2.2 hS (hsize.trans S.2.2.1.symm) d0 d3 d4 d7 (fun x hx => (hex x hx).elim) hR.1 (by simpa using hR.2.1) (by simpa using hR.2.2.1) (by simpa using hR.2.2.2) hlk (fun t ha h1 h2 => ⟨(), hp, ⟨rfl, Wd_kept hP h2⟩, Nat.le_trans hS.1 h1, fun q hq hA => (h2 q (Nat.lt_of_lt_of_le hq hS.1)).trans (hS.2.1 q hq hA)⟩) hS.2.2 (Nat.le_refl _) (Nat.le_refl _)
  rcases thW_bad w hw with g | rfl | rfl | rfl | rfl
  · exact S.2.2.2.2 _ (List.mem_filter.mpr ⟨thW_in w hw, g⟩)
  · exact va_Nw.use rfl hT.1.1
  · exact va_Nw.use rfl hT.1.2.1
  · exact va_Nw.use rfl hT.1.2.2.1
  · exact va_Nw.use rfl hT.1.2.2.2
theorem px_lret {v : Int64} {o : Option Int64} {XC : String → State → State → Prop} (S : CallFix p m c cc nL s args gT own) (hr : meth.sig.returnType = some .long) (hlk : meth.locks = false) (hP : Wd ev z H) (hS : SS ev s H locs) (hv : some v = o) (hdg : decode cc pc = .ok (.lreturn, 1)) :
    W p l e R s m args below meth c H locs 0 0 (vx_MQ below (va_Ql (fun r (_ : Unit) => o = some r) (fun _ t => Wd ev z t.heap) (eA ev)) XC args s 1 6 (eA ev)) (F0 m pc ls [.long v]) :=
  W.widen (Nat.zero_le 1) (Nat.zero_le 6) (vx_ret (W.lret S.1 S.2.1 hr (fun _ ht _ => ⟨⟨v, (), rfl, hv.symm, show Wd ev z _ by rw [ht]; exact hP⟩, hS.F ht⟩) hS.2.2 hdg hlk))
theorem px_iret {v : Int32} {o : Option Int32} {XC : String → State → State → Prop} (S : CallFix p m c cc nL s args gT own) (hr : meth.sig.returnType = some .int) (hlk : meth.locks = false) (hP : Wd ev z H) (hS : SS ev s H locs) (hv : some v = o) (hdg : decode cc pc = .ok (.ireturn, 1)) :
    W p l e R s m args below meth c H locs 0 0 (vx_MQ below (va_Qi (fun r (_ : Unit) => o = some r) (fun _ t => Wd ev z t.heap) (eA ev)) XC args s 1 6 (eA ev)) (F0 m pc ls [.int v]) :=
  W.widen (Nat.zero_le 1) (Nat.zero_le 6) (vx_ret (W.iret S.1 S.2.1 hr (fun _ ht _ => ⟨⟨v, (), rfl, hv.symm, show Wd ev z _ by rw [ht]; exact hP⟩, hS.F ht⟩) hS.2.2 hdg hlk))
end PX
set_option maxRecDepth 20000 in
set_option maxHeartbeats 4000000 in
theorem c_X7_of (l : Launch) (hst : l.stackTraces = false) (ev : EV) (z : PS) (E : EWF ev) {th : Nat} (hth : isK ev 5 th) (l1 l2 : Int32) (o : Option Int64) (h : g_X7_of ev z th l1 l2 = some o) : vx_Met l yX7_of (pWs yX7_of cX7_of 3 (some .long)) pRX (va_Pc [.ref th, .int l1, .int l2] (fun U => pPe ev z U ∧ thX ev U)) (va_Ql (fun r (_ : Unit) => o = some r) (fun _ t => Wd ev z t.heap) (eA ev)) (xX ev (o = none) z) 1 6 (eA ev) := by
  refine px_of (by decide) (Nat.le_of_ble_eq_true rfl) ?_
  intro p e s m below meth c S hr hlk hex hv ls hl
  obtain ⟨⟨hP, hK, hX⟩, hT⟩ := hv
  have hS : SS ev s s.heap [] := va_S.rf
  have hl : lv_has ls 3 [(0, .ref th), (1, .int l1), (2, .int l2)] := hl
  unfold g_X7_of at h
  have thr : some none = some o → W p l e pRX s m [.ref th, .int l1, .int l2].toArray below meth c s.heap [] 0 0 (vx_MQ below (va_Ql (fun r (_ : Unit) => o = some r) (fun _ t => Wd ev z t.heap) (eA ev)) (xX ev (o = none) z) [.ref th, .int l1, .int l2].toArray s 1 6 (eA ev)) (F0 m 18 ls []) := fun h => px_throw (Option.some.inj h).symm S hst hT hP hS hl.1 hex hlk (by decide) dX7_of_18 dX7_of_21 dX7_of_22 dX7_of_25
  refine lv_aload_n S.1 S.2.1 dX7_of_0 rfl (lv_at hl 0 rfl) ?_
  refine lv_iload_n S.1 S.2.1 dX7_of_1 rfl (lv_at hl 1 rfl) ?_
  obtain ⟨v1, ev1, h⟩ := ob_s h
  refine pm_cVr (As := [.int l1]) (rest := []) S hK hX hP hS (c_X7_there l ev z E hth th l1 v1 ev1) vm_X7_there mw_2_59 (rc_5 hK hP hth) ⟨⟨rfl, rfl⟩, by decide, by decide⟩ rfl hl.1 rfl (Nat.le_of_ble_eq_true rfl) ⟨Nat.zero_le _, Nat.zero_le _⟩ dX7_of_2 ?_
  refine lv_if_eq (tgt := 18) S.1 S.2.1 dX7_of_5 (by decide) (fun c2 => ?_) (fun c2 => ?_)
  · rw [if_pos c2] at h
    exact thr h
  · rw [if_neg c2] at h
    refine lv_iload_n S.1 S.2.1 dX7_of_8 rfl (lv_at hl 2 rfl) ?_
    refine lv_if_lt (tgt := 18) S.1 S.2.1 dX7_of_9 (by decide) (fun c3 => ?_) (fun c3 => ?_)
    · rw [if_pos c3] at h
      exact thr h
    · rw [if_neg c3] at h
      refine lv_iload_n S.1 S.2.1 dX7_of_12 rfl (lv_at hl 2 rfl) ?_
      refine lv_bipush (v := 11) S.1 S.2.1 dX7_of_13 (by decide) ?_
      refine lv_icmp_le (tgt := 26) S.1 S.2.1 dX7_of_15 (by decide) (fun c4 => ?_) (fun c4 => ?_)
      · rw [if_pos c4] at h
        obtain ⟨hc5, h⟩ := ck_s h
        obtain ⟨v5, ev5, h⟩ := ob_s h
        refine lv_aload_n S.1 S.2.1 dX7_of_26 rfl (lv_at hl 0 rfl) ?_
        refine gf_5_0 S hK hP hth mw_1_185 dX7_of_27 ?_
        refine lv_iload_n S.1 S.2.1 dX7_of_30 rfl (lv_at hl 1 rfl) ?_
        refine al_H S hK hP (E_5_0 E hth) (by rw [N_5_0 E hth]; exact hc5) dX7_of_31 ?_
        refine gf_2_0 S hK hP (E_h E (E_5_0 E hth) (inB_lt hc5)) mw_1_106 dX7_of_32 ?_
        refine lv_iload_n S.1 S.2.1 dX7_of_35 rfl (lv_at hl 2 rfl) ?_
        refine pm_cVr (As := [.int l2]) (rest := []) S hK hX hP hS (c_X0_value l ev z E (E_2_0 E (E_h E (E_5_0 E hth) (inB_lt hc5))) th l2 v5 ev5) vm_X0_value mw_3_197 (rc_0 hK hP (E_2_0 E (E_h E (E_5_0 E hth) (inB_lt hc5)))) ⟨⟨rfl, rfl⟩, by decide, by decide⟩ rfl hl.1 rfl (Nat.le_of_ble_eq_true rfl) ⟨Nat.zero_le _, Nat.zero_le _⟩ dX7_of_36 ?_
        exact px_lret S hr hlk hP hS (Option.some.inj h) dX7_of_39
      · rw [if_neg c4] at h
        exact thr h
set_option maxRecDepth 20000 in
set_option maxHeartbeats 4000000 in
theorem c_X7_leastOf (l : Launch) (hst : l.stackTraces = false) (ev : EV) (z : PS) (E : EWF ev) {th : Nat} (hth : isK ev 5 th) (l1 l2 : Int32) (o : Option Int64) (h : g_X7_leastOf ev z th l1 l2 = some o) : vx_Met l yX7_leastOf (pWs yX7_leastOf cX7_leastOf 3 (some .long)) pRX (va_Pc [.ref th, .int l1, .int l2] (fun U => pPe ev z U ∧ thX ev U)) (va_Ql (fun r (_ : Unit) => o = some r) (fun _ t => Wd ev z t.heap) (eA ev)) (xX ev (o = none) z) 1 6 (eA ev) := by
  refine px_of (by decide) (Nat.le_of_ble_eq_true rfl) ?_
  intro p e s m below meth c S hr hlk hex hv ls hl
  obtain ⟨⟨hP, hK, hX⟩, hT⟩ := hv
  have hS : SS ev s s.heap [] := va_S.rf
  have hl : lv_has ls 3 [(0, .ref th), (1, .int l1), (2, .int l2)] := hl
  unfold g_X7_leastOf at h
  have thr : some none = some o → W p l e pRX s m [.ref th, .int l1, .int l2].toArray below meth c s.heap [] 0 0 (vx_MQ below (va_Ql (fun r (_ : Unit) => o = some r) (fun _ t => Wd ev z t.heap) (eA ev)) (xX ev (o = none) z) [.ref th, .int l1, .int l2].toArray s 1 6 (eA ev)) (F0 m 18 ls []) := fun h => px_throw (Option.some.inj h).symm S hst hT hP hS hl.1 hex hlk (by decide) dX7_leastOf_18 dX7_leastOf_21 dX7_leastOf_22 dX7_leastOf_25
  refine lv_aload_n S.1 S.2.1 dX7_leastOf_0 rfl (lv_at hl 0 rfl) ?_
  refine lv_iload_n S.1 S.2.1 dX7_leastOf_1 rfl (lv_at hl 1 rfl) ?_
  obtain ⟨v1, ev1, h⟩ := ob_s h
  refine pm_cVr (As := [.int l1]) (rest := []) S hK hX hP hS (c_X7_there l ev z E hth th l1 v1 ev1) vm_X7_there mw_2_59 (rc_5 hK hP hth) ⟨⟨rfl, rfl⟩, by decide, by decide⟩ rfl hl.1 rfl (Nat.le_of_ble_eq_true rfl) ⟨Nat.zero_le _, Nat.zero_le _⟩ dX7_leastOf_2 ?_
  refine lv_if_eq (tgt := 18) S.1 S.2.1 dX7_leastOf_5 (by decide) (fun c2 => ?_) (fun c2 => ?_)
  · rw [if_pos c2] at h
    exact thr h
  · rw [if_neg c2] at h
    refine lv_iload_n S.1 S.2.1 dX7_leastOf_8 rfl (lv_at hl 2 rfl) ?_
    refine lv_if_lt (tgt := 18) S.1 S.2.1 dX7_leastOf_9 (by decide) (fun c3 => ?_) (fun c3 => ?_)
    · rw [if_pos c3] at h
      exact thr h
    · rw [if_neg c3] at h
      refine lv_iload_n S.1 S.2.1 dX7_leastOf_12 rfl (lv_at hl 2 rfl) ?_
      refine lv_bipush (v := 12) S.1 S.2.1 dX7_leastOf_13 (by decide) ?_
      refine lv_icmp_le (tgt := 26) S.1 S.2.1 dX7_leastOf_15 (by decide) (fun c4 => ?_) (fun c4 => ?_)
      · rw [if_pos c4] at h
        obtain ⟨hc5, h⟩ := ck_s h
        refine lv_iload_n S.1 S.2.1 dX7_leastOf_26 rfl (lv_at hl 2 rfl) ?_
        refine lv_bipush (v := 12) S.1 S.2.1 dX7_leastOf_27 (by decide) ?_
        refine lv_icmp_ne (tgt := 44) S.1 S.2.1 dX7_leastOf_29 (by decide) (fun c6 => ?_) (fun c6 => ?_)
        · rw [if_neg c6] at h
          obtain ⟨v5, ev5, h⟩ := ob_s h
          refine lv_aload_n S.1 S.2.1 dX7_leastOf_44 rfl (lv_at hl 0 rfl) ?_
          refine gf_5_0 S hK hP hth mw_1_185 dX7_leastOf_45 ?_
          refine lv_iload_n S.1 S.2.1 dX7_leastOf_48 rfl (lv_at hl 1 rfl) ?_
          refine al_H S hK hP (E_5_0 E hth) (by rw [N_5_0 E hth]; exact hc5) dX7_leastOf_49 ?_
          refine gf_2_1 S hK hP (E_h E (E_5_0 E hth) (inB_lt hc5)) mw_1_108 dX7_leastOf_50 ?_
          refine lv_iload_n S.1 S.2.1 dX7_leastOf_53 rfl (lv_at hl 2 rfl) ?_
          refine pm_cVr (As := [.int l2]) (rest := []) S hK hX hP hS (c_X0_value l ev z E (E_2_1 E (E_h E (E_5_0 E hth) (inB_lt hc5))) th l2 v5 ev5) vm_X0_value mw_3_197 (rc_0 hK hP (E_2_1 E (E_h E (E_5_0 E hth) (inB_lt hc5)))) ⟨⟨rfl, rfl⟩, by decide, by decide⟩ rfl hl.1 rfl (Nat.le_of_ble_eq_true rfl) ⟨Nat.zero_le _, Nat.zero_le _⟩ dX7_leastOf_54 ?_
          exact px_lret S hr hlk hP hS (Option.some.inj h) dX7_leastOf_57
        · rw [if_pos c6] at h
          refine lv_aload_n S.1 S.2.1 dX7_leastOf_32 rfl (lv_at hl 0 rfl) ?_
          refine gf_5_0 S hK hP hth mw_1_185 dX7_leastOf_33 ?_
          refine lv_iload_n S.1 S.2.1 dX7_leastOf_36 rfl (lv_at hl 1 rfl) ?_
          refine al_H S hK hP (E_5_0 E hth) (by rw [N_5_0 E hth]; exact hc5) dX7_leastOf_37 ?_
          refine gf_2_2 S hK hP (E_h E (E_5_0 E hth) (inB_lt hc5)) mw_1_110 dX7_leastOf_38 ?_
          refine lv_goto (tgt := 57) S.1 S.2.1 dX7_leastOf_41 (by decide) ?_
          exact px_lret S hr hlk hP hS (Option.some.inj h) dX7_leastOf_57
      · rw [if_neg c4] at h
        exact thr h
set_option maxRecDepth 20000 in
set_option maxHeartbeats 4000000 in
theorem c_X7_point (l : Launch) (hst : l.stackTraces = false) (ev : EV) (z : PS) (E : EWF ev) {th : Nat} (hth : isK ev 5 th) (l1 l2 l3 : Int32) (o : Option Int32) (z9 : PS) (h : g_X7_point ev z th l1 l2 l3 = some (o, z9)) : vx_Met l yX7_point (pWs yX7_point cX7_point 4 (some .int)) pRX (va_Pc [.ref th, .int l1, .int l2, .int l3] (fun U => pPe ev z U ∧ thX ev U)) (va_Qi (fun r (_ : Unit) => o = some r) (fun _ t => Wd ev z9 t.heap) (eA ev)) (xX ev (o = none) z9) 1 6 (eA ev) := by
  refine px_of (by decide) (Nat.le_of_ble_eq_true rfl) ?_
  intro p e s m below meth c S hr hlk hex hv ls hl
  obtain ⟨⟨hP, hK, hX⟩, hT⟩ := hv
  have hS : SS ev s s.heap [] := va_S.rf
  have hl : lv_has ls 4 [(0, .ref th), (1, .int l1), (2, .int l2), (3, .int l3)] := hl
  unfold g_X7_point at h
  refine lv_aload_n S.1 S.2.1 dX7_point_0 rfl (lv_at hl 0 rfl) ?_
  refine lv_iload_n S.1 S.2.1 dX7_point_1 rfl (lv_at hl 1 rfl) ?_
  refine lv_iload_n S.1 S.2.1 dX7_point_2 rfl (lv_at hl 2 rfl) ?_
  obtain ⟨v1, z1, ev1, h⟩ := ob_p h
  refine pm_cVi (As := [.int l1, .int l2]) (rest := []) S hK hX hP hS (c_X7_hasSmallPoint l ev z E hth th l1 l2 v1 z1 ev1) vm_X7_hasSmallPoint mw_3_108 (rc_5 hK hP hth) ⟨⟨rfl, rfl⟩, by decide, by decide⟩ rfl hl.1 rfl (Nat.le_of_ble_eq_true rfl) ⟨Nat.zero_le _, Nat.zero_le _⟩ dX7_point_3 (fun H locs hP hS => ?_)
  have h : (if v1 = 0 then some (none, z1) else (if l3 < 0 then some (none, z1) else (if l3 ≤ (1 : Int32) then (ck (inB l2 242) (if l3 = 0 then some (some (rI z1 (rf ev 80 (rf ev 104 th)) l2.toNatClampNeg), z1) else some (some (rI z1 (rf ev 81 (rf ev 104 th)) l2.toNatClampNeg), z1))) else some (none, z1)))) = some (o, z9) := h
  have thr : some ((none : Option Int32), z1) = some (o, z9) → W p l e pRX s m [.ref th, .int l1, .int l2, .int l3].toArray below meth c H locs 0 0 (vx_MQ below (va_Qi (fun r (_ : Unit) => o = some r) (fun _ t => Wd ev z9 t.heap) (eA ev)) (xX ev (o = none) z9) [.ref th, .int l1, .int l2, .int l3].toArray s 1 6 (eA ev)) (F0 m 18 ls []) := fun h => by
    have h9 := Option.some.inj h
    have e1 : z1 = z9 := congrArg Prod.snd h9
    have e2 : none = o := congrArg Prod.fst h9
    subst e1
    exact px_throw e2.symm S hst hT hP hS hl.1 hex hlk (by decide) dX7_point_18 dX7_point_21 dX7_point_22 dX7_point_25
  refine lv_if_eq (tgt := 18) S.1 S.2.1 dX7_point_6 (by decide) (fun c2 => ?_) (fun c2 => ?_)
  · rw [if_pos c2] at h
    exact thr h
  · rw [if_neg c2] at h
    refine lv_iload_n S.1 S.2.1 dX7_point_9 rfl (lv_at hl 3 rfl) ?_
    refine lv_if_lt (tgt := 18) S.1 S.2.1 dX7_point_10 (by decide) (fun c3 => ?_) (fun c3 => ?_)
    · rw [if_pos c3] at h
      exact thr h
    · rw [if_neg c3] at h
      refine lv_iload_n S.1 S.2.1 dX7_point_13 rfl (lv_at hl 3 rfl) ?_
      refine lv_iconst (v := 1) S.1 S.2.1 dX7_point_14 (by decide) ?_
      refine lv_icmp_le (tgt := 26) S.1 S.2.1 dX7_point_15 (by decide) (fun c4 => ?_) (fun c4 => ?_)
      · rw [if_pos c4] at h
        obtain ⟨hc5, h⟩ := ck_s h
        refine lv_iload_n S.1 S.2.1 dX7_point_26 rfl (lv_at hl 3 rfl) ?_
        refine lv_if_ne (tgt := 42) S.1 S.2.1 dX7_point_27 (by decide) (fun c6 => ?_) (fun c6 => ?_)
        · rw [if_neg c6] at h
          have h9 := Option.some.inj h
          have e1 : z1 = z9 := congrArg Prod.snd h9
          have e2 := congrArg Prod.fst h9
          subst e1
          refine lv_aload_n S.1 S.2.1 dX7_point_42 rfl (lv_at hl 0 rfl) ?_
          refine gf_5_4 S hK hP hth mw_1_189 dX7_point_43 ?_
          refine gf_4_1 S hK hP (E_5_4 E hth) mw_1_175 dX7_point_46 ?_
          refine lv_iload_n S.1 S.2.1 dX7_point_49 rfl (lv_at hl 2 rfl) ?_
          refine al_I S hK hP (E_4_1 E (E_5_4 E hth)) (by rw [N_4_1 E (E_5_4 E hth)]; exact hc5) dX7_point_50 ?_
          exact px_iret S hr hlk hP hS e2 dX7_point_51
        · rw [if_pos c6] at h
          have h9 := Option.some.inj h
          have e1 : z1 = z9 := congrArg Prod.snd h9
          have e2 := congrArg Prod.fst h9
          subst e1
          refine lv_aload_n S.1 S.2.1 dX7_point_30 rfl (lv_at hl 0 rfl) ?_
          refine gf_5_4 S hK hP hth mw_1_189 dX7_point_31 ?_
          refine gf_4_0 S hK hP (E_5_4 E hth) mw_1_173 dX7_point_34 ?_
          refine lv_iload_n S.1 S.2.1 dX7_point_37 rfl (lv_at hl 2 rfl) ?_
          refine al_I S hK hP (E_4_0 E (E_5_4 E hth)) (by rw [N_4_0 E (E_5_4 E hth)]; exact hc5) dX7_point_38 ?_
          refine lv_goto (tgt := 51) S.1 S.2.1 dX7_point_39 (by decide) ?_
          exact px_iret S hr hlk hP hS e2 dX7_point_51
      · rw [if_neg c4] at h
        exact thr h
