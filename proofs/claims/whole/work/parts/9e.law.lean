/-! the law: its frame, its loop -/
theorem mw_1_207 : Cond.methodLink RL 26 yX7_curve ∈ gT := gT_1 (List.mem_of_getElem? (i := 207) rfl) rfl
theorem mw_4_35 : Cond.methodLink RL 30 yX8_curve ∈ gT := gT_4 (List.mem_of_getElem? (i := 35) rfl) rfl
theorem mw_2_55 : Cond.methodLink RL 31 yX7_change ∈ gT := gT_2 (List.mem_of_getElem? (i := 55) rfl) rfl
theorem mw_4_83 : Cond.methodLink RL 35 yX8_change ∈ gT := gT_4 (List.mem_of_getElem? (i := 83) rfl) rfl
theorem mw_2_69 : Cond.methodLink RL 36 yX7_scale ∈ gT := gT_2 (List.mem_of_getElem? (i := 69) rfl) rfl
theorem mw_4_100 : Cond.methodLink RL 40 yX8_scale ∈ gT := gT_4 (List.mem_of_getElem? (i := 100) rfl) rfl
theorem mw_2_94 : Cond.methodLink RL 41 yX7_least ∈ gT := gT_2 (List.mem_of_getElem? (i := 94) rfl) rfl
theorem mw_4_122 : Cond.methodLink RL 45 yX8_least ∈ gT := gT_4 (List.mem_of_getElem? (i := 122) rfl) rfl
theorem mw_2_98 : Cond.methodLink RL 46 yX7_twist ∈ gT := gT_2 (List.mem_of_getElem? (i := 98) rfl) rfl
theorem mw_5_24 : Cond.methodLink RL 50 yX8_twist ∈ gT := gT_5 (List.mem_of_getElem? (i := 24) rfl) rfl
theorem mw_2_120 : Cond.methodLink RL 51 yX7_drop ∈ gT := gT_2 (List.mem_of_getElem? (i := 120) rfl) rfl
theorem mw_4_118 : Cond.methodLink RL 55 yX8_drop ∈ gT := gT_4 (List.mem_of_getElem? (i := 118) rfl) rfl
theorem mw_3_128 : Cond.methodLink RL 56 yL_of ∈ gT := gT_3 (List.mem_of_getElem? (i := 128) rfl) rfl
theorem mw_5_39 : Cond.methodLink RL 61 yX8_of ∈ gT := gT_5 (List.mem_of_getElem? (i := 39) rfl) rfl
theorem mw_4_31 : Cond.methodLink RL 62 yX8_thrown ∈ gT := gT_4 (List.mem_of_getElem? (i := 31) rfl) rfl
theorem mw_2_124 : Cond.methodLink RL 65 yX7_at ∈ gT := gT_2 (List.mem_of_getElem? (i := 124) rfl) rfl
theorem mw_5_52 : Cond.methodLink RL 68 yX8_at ∈ gT := gT_5 (List.mem_of_getElem? (i := 52) rfl) rfl
theorem mw_2_229 : Cond.methodLink RL 69 yX7_prime ∈ gT := gT_2 (List.mem_of_getElem? (i := 229) rfl) rfl
theorem mw_5_60 : Cond.methodLink RL 72 yX8_prime ∈ gT := gT_5 (List.mem_of_getElem? (i := 60) rfl) rfl
theorem mw_3_19 : Cond.methodLink RL 73 yX7_conductor ∈ gT := gT_3 (List.mem_of_getElem? (i := 19) rfl) rfl
theorem mw_5_64 : Cond.methodLink RL 77 yX8_conductor ∈ gT := gT_5 (List.mem_of_getElem? (i := 64) rfl) rfl
theorem mw_3_201 : Cond.methodLink RL 78 yL_leastOf ∈ gT := gT_3 (List.mem_of_getElem? (i := 201) rfl) rfl
theorem mw_5_48 : Cond.methodLink RL 80 yX8_leastOf ∈ gT := gT_5 (List.mem_of_getElem? (i := 48) rfl) rfl
theorem mw_3_29 : Cond.methodLink RL 81 yX7_one ∈ gT := gT_3 (List.mem_of_getElem? (i := 29) rfl) rfl
theorem mw_5_77 : Cond.methodLink RL 85 yX8_one ∈ gT := gT_5 (List.mem_of_getElem? (i := 77) rfl) rfl
theorem mw_3_37 : Cond.methodLink RL 86 yX7_points ∈ gT := gT_3 (List.mem_of_getElem? (i := 37) rfl) rfl
theorem mw_5_85 : Cond.methodLink RL 89 yX8_points ∈ gT := gT_5 (List.mem_of_getElem? (i := 85) rfl) rfl
theorem mw_3_61 : Cond.methodLink RL 90 yX7_trace ∈ gT := gT_3 (List.mem_of_getElem? (i := 61) rfl) rfl
theorem mw_5_97 : Cond.methodLink RL 93 yX8_trace ∈ gT := gT_5 (List.mem_of_getElem? (i := 97) rfl) rfl
theorem mw_3_65 : Cond.methodLink RL 94 yX7_own ∈ gT := gT_3 (List.mem_of_getElem? (i := 65) rfl) rfl
theorem mw_5_72 : Cond.methodLink RL 97 yX8_own ∈ gT := gT_5 (List.mem_of_getElem? (i := 72) rfl) rfl
theorem mw_3_70 : Cond.methodLink RL 98 yX7_best ∈ gT := gT_3 (List.mem_of_getElem? (i := 70) rfl) rfl
theorem mw_5_101 : Cond.methodLink RL 101 yX8_best ∈ gT := gT_5 (List.mem_of_getElem? (i := 101) rfl) rfl
theorem mw_3_78 : Cond.methodLink RL 102 yX7_twisted ∈ gT := gT_3 (List.mem_of_getElem? (i := 78) rfl) rfl
theorem mw_5_105 : Cond.methodLink RL 105 yX8_twisted ∈ gT := gT_5 (List.mem_of_getElem? (i := 105) rfl) rfl
theorem mw_3_82 : Cond.methodLink RL 106 yX7_small ∈ gT := gT_3 (List.mem_of_getElem? (i := 82) rfl) rfl
theorem mw_5_109 : Cond.methodLink RL 109 yX8_small ∈ gT := gT_5 (List.mem_of_getElem? (i := 109) rfl) rfl
theorem mw_3_208 : Cond.methodLink RL 110 yL_point ∈ gT := gT_3 (List.mem_of_getElem? (i := 208) rfl) rfl
theorem mw_5_127 : Cond.methodLink RL 113 yX8_point ∈ gT := gT_5 (List.mem_of_getElem? (i := 127) rfl) rfl
theorem mw_3_104 : Cond.methodLink RL 114 yX7_minus ∈ gT := gT_3 (List.mem_of_getElem? (i := 104) rfl) rfl
theorem mw_5_131 : Cond.methodLink RL 117 yX8_minus ∈ gT := gT_5 (List.mem_of_getElem? (i := 131) rfl) rfl
theorem mw_3_116 : Cond.methodLink RL 118 yX7_count ∈ gT := gT_3 (List.mem_of_getElem? (i := 116) rfl) rfl
theorem mw_5_135 : Cond.methodLink RL 121 yX8_count ∈ gT := gT_5 (List.mem_of_getElem? (i := 135) rfl) rfl
def R_law : String := "CurveFallsLaw"
def lw_P (b : Addr) (xs : List Int32) (args : Array Value) (s : State) : Prop := args = #[.ref b] ∧ s.IntsAt b xs ∧ xs.length ≤ 3072 ∧ (Jvm.Cond.and given_1 narrow_1).before args s = true
def lw_Q (_ : Array Value) (s : State) (o : Outcome) (t : State) : Prop := o = .returned (some (.int 1)) ∧ Framed s o t [] 601024 7293034
def lw_Z (below : List Frame) (a : Array Value) (s : State) : State → Prop := fun t => ∃ o, t.status = .running ∧ Ended t below o ∧ lw_Q a s o t
/-- the law's own end, with 1 on the stack, nothing written that was there before, its room as the claim has it -/
theorem lw_ret {p : Program} {l : Launch} {e : Env} {s : State} {m : MethodId} {below : List Frame} {meth : Method} {c : Code} {b : Nat} (hx : p.tables.exec = Jvm.exec) (hb : c.code = code) (hr : meth.sig.returnType = ret) (hlocks : meth.locks = false) {pc : Nat} {H : Heap} {ls : Array Slot} (hdg : decode code pc = .ok (.ireturn, 1)) : W p l e room_1 s m #[Value.ref b] below meth c H [] 601024 7293034 (lw_Z below #[Value.ref b] s) (F0 m pc ls [.int 1]) := by
  intro T hT X
  obtain ⟨fs, hret, hrun, hended, hW, hframe⟩ := X.leave (v := some (.int 1)) (hlocks := hlocks) (fun h => by rw [hr] at h; cases h)
  have hmeth' : T.vm.method? m = some meth := X.method'
  refine ⟨T.setFrames fs, ?_, .returned (some (.int 1)), hrun, hended, rfl, ⟨_, rfl⟩, hW, hframe⟩
  jvm_step X.here [X.here.top, hx, hb, hdg, hmeth', hr, ret, narrow_b1]
  (try refine ⟨rfl, ?_⟩); (try refine ⟨rfl, ?_⟩)
  first | (intro acts; rw [hret _ acts rfl rfl rfl]) | rw [hret _ _ rfl rfl rfl]
  exact Steps.refl _
/-- what holds at the law's entry: the machine, the code, the tables' words (any of lw_tbl by 'hts w (by decide +kernel)'), the script of L ints xs at the cell b, what the Statement gives of the start (any of its parts by flat_of_before) -/
def lw_At (p : Program) (s : State) (m : MethodId) (meth : Method) (c : Code) (b L : Nat) (xs : Nat → Int32) : Prop :=
  p.tables.exec = Jvm.exec ∧ c.code = code ∧ meth.sig.returnType = ret ∧ c.maxLocals = 8 ∧ s.vm.findClass R_law = some m.cls ∧ (∀ w ∈ lw_tbl, w.before #[Value.ref b] s = true) ∧ va_X b L xs s s.heap ∧ b < s.heap.size ∧ meth.locks = false ∧ (Jvm.Cond.and given_1 narrow_1).before #[Value.ref b] s = true
abbrev aZ (s : State) : Nat → Prop := fun q => s.heap.size ≤ q
def LC (p : Program) (l : Launch) (s : State) (m : MethodId) (meth : Method) (c : Code) (b L : Nat) (xs : Nat → Int32) (ev : EV) (th md o : Nat) : Prop := (lw_At p s m meth c b L xs) ∧ (L ≤ 3072) ∧ (l.stackTraces = false) ∧ (EWF ev) ∧ (Sep ev th md) ∧ (oOK ev md o) ∧ (isK ev 5 th) ∧ (isK ev 6 md) ∧ (isK ev 8 o) ∧ (eN ev o = 1) ∧ (KK ev s) ∧ (pXt ev s) ∧ (thX ev s) ∧ (∀ q, q ∈ eL ev → s.heap.size ≤ q)
theorem LC.at0 {p : Program} {l : Launch} {s : State} {m : MethodId} {meth : Method} {c : Code} {b L : Nat} {xs : Nat → Int32} {ev : EV} {th md o : Nat} (C : LC p l s m meth c b L xs ev th md o) : lw_At p s m meth c b L xs := C.1
theorem LC.hL {p : Program} {l : Launch} {s : State} {m : MethodId} {meth : Method} {c : Code} {b L : Nat} {xs : Nat → Int32} {ev : EV} {th md o : Nat} (C : LC p l s m meth c b L xs ev th md o) : L ≤ 3072 := C.2.1
theorem LC.hst {p : Program} {l : Launch} {s : State} {m : MethodId} {meth : Method} {c : Code} {b L : Nat} {xs : Nat → Int32} {ev : EV} {th md o : Nat} (C : LC p l s m meth c b L xs ev th md o) : l.stackTraces = false := C.2.2.1
theorem LC.E {p : Program} {l : Launch} {s : State} {m : MethodId} {meth : Method} {c : Code} {b L : Nat} {xs : Nat → Int32} {ev : EV} {th md o : Nat} (C : LC p l s m meth c b L xs ev th md o) : EWF ev := C.2.2.2.1
theorem LC.sep {p : Program} {l : Launch} {s : State} {m : MethodId} {meth : Method} {c : Code} {b L : Nat} {xs : Nat → Int32} {ev : EV} {th md o : Nat} (C : LC p l s m meth c b L xs ev th md o) : Sep ev th md := C.2.2.2.2.1
theorem LC.oo {p : Program} {l : Launch} {s : State} {m : MethodId} {meth : Method} {c : Code} {b L : Nat} {xs : Nat → Int32} {ev : EV} {th md o : Nat} (C : LC p l s m meth c b L xs ev th md o) : oOK ev md o := C.2.2.2.2.2.1
theorem LC.hth {p : Program} {l : Launch} {s : State} {m : MethodId} {meth : Method} {c : Code} {b L : Nat} {xs : Nat → Int32} {ev : EV} {th md o : Nat} (C : LC p l s m meth c b L xs ev th md o) : isK ev 5 th := C.2.2.2.2.2.2.1
theorem LC.hmd {p : Program} {l : Launch} {s : State} {m : MethodId} {meth : Method} {c : Code} {b L : Nat} {xs : Nat → Int32} {ev : EV} {th md o : Nat} (C : LC p l s m meth c b L xs ev th md o) : isK ev 6 md := C.2.2.2.2.2.2.2.1
theorem LC.ho {p : Program} {l : Launch} {s : State} {m : MethodId} {meth : Method} {c : Code} {b L : Nat} {xs : Nat → Int32} {ev : EV} {th md o : Nat} (C : LC p l s m meth c b L xs ev th md o) : isK ev 8 o := C.2.2.2.2.2.2.2.2.1
theorem LC.hno {p : Program} {l : Launch} {s : State} {m : MethodId} {meth : Method} {c : Code} {b L : Nat} {xs : Nat → Int32} {ev : EV} {th md o : Nat} (C : LC p l s m meth c b L xs ev th md o) : eN ev o = 1 := C.2.2.2.2.2.2.2.2.2.1
theorem LC.K {p : Program} {l : Launch} {s : State} {m : MethodId} {meth : Method} {c : Code} {b L : Nat} {xs : Nat → Int32} {ev : EV} {th md o : Nat} (C : LC p l s m meth c b L xs ev th md o) : KK ev s := C.2.2.2.2.2.2.2.2.2.2.1
theorem LC.X {p : Program} {l : Launch} {s : State} {m : MethodId} {meth : Method} {c : Code} {b L : Nat} {xs : Nat → Int32} {ev : EV} {th md o : Nat} (C : LC p l s m meth c b L xs ev th md o) : pXt ev s := C.2.2.2.2.2.2.2.2.2.2.2.1
theorem LC.T {p : Program} {l : Launch} {s : State} {m : MethodId} {meth : Method} {c : Code} {b L : Nat} {xs : Nat → Int32} {ev : EV} {th md o : Nat} (C : LC p l s m meth c b L xs ev th md o) : thX ev s := C.2.2.2.2.2.2.2.2.2.2.2.2.1
theorem LC.A {p : Program} {l : Launch} {s : State} {m : MethodId} {meth : Method} {c : Code} {b L : Nat} {xs : Nat → Int32} {ev : EV} {th md o : Nat} (C : LC p l s m meth c b L xs ev th md o) : ∀ q, q ∈ eL ev → s.heap.size ≤ q := C.2.2.2.2.2.2.2.2.2.2.2.2.2
abbrev LW (p : Program) (l : Launch) (e : Env) (s : State) (m : MethodId) (below : List Frame) (meth : Method) (c : Code) (b : Nat) (H : Heap) (locs : List Loc) (cells slots pc : Nat) (ls : Array Slot) (st : List Value) : Prop := W p l e room_1 s m #[Value.ref b] below meth c H locs cells slots (lw_Z below #[Value.ref b] s) (F0 m pc ls st)
abbrev lvs (b th md o i : Nat) : List (Nat × Value) := [(0, .ref b), (1, .ref th), (2, .ref md), (3, .ref o), (4, .int (nI i))]
section LB
variable {p : Program} {l : Launch} {e : Env} {s : State} {m : MethodId} {below : List Frame} {meth : Method} {c : Code} {H : Heap} {locs : List Loc} {cells slots : Nat} {pc : Nat} {ls : Array Slot} {rest st : List Value} {b L : Nat} {xs : Nat → Int32} {ev : EV} {z z9 : PS} {th md o i : Nat}
theorem LC.S (C : LC p l s m meth c b L xs ev th md o) : CallFix p m c cL_law 8 s #[Value.ref b] gT RL := ⟨C.at0.1, C.at0.2.1, C.at0.2.2.2.1, C.at0.2.2.2.2.1, fun w h => C.at0.2.2.2.2.2.1 w (List.mem_filter.mp h).1⟩
theorem lb_st (hS : va_S (aZ s) s.heap H locs) : SS ev s H [] := ⟨hS.1, fun q h1 _ => hS.2.1 q h1 (Nat.not_le.mpr h1), fun _ h => by cases h⟩
theorem lb_pe (C : LC p l s m meth c b L xs ev th md o) (hP : Wd ev z H) (hS : va_S (aZ s) s.heap H locs) : ∀ U : State, U.heap = H → s.WarmedH U.vm → pPe ev z U := fun U hU hW => ⟨by rw [hU]; exact hP, va_K.moved hW.alike C.K, pX_next C.X (lb_st hS) hU hW⟩
theorem lb_back {Q : State → Prop} {Qa : State → Outcome → State → Prop} {A : Nat → Prop} {R : Room} {args : Array Value} (hr : CallRun p l e R s m args below meth c H locs cells slots 0 0 (F0 m pc ls st) rest Qa A) (hA : ∀ q, A q → aZ s q) (hS : va_S (aZ s) s.heap H locs)
    (kk : ∀ (v : Option Value) (st₀ t : State) (H1 : Heap) (locs1 : List Loc), st₀.heap = H → t.heap = H1 → Qa st₀ (.returned v) t → (va_F A st₀ t → va_S (aZ s) s.heap H1 locs1) → W p l e R s m args below meth c H1 locs1 cells slots Q (F0 m (pc + 3) ls (v.toList ++ rest))) : W p l e R s m args below meth c H locs cells slots Q (F0 m pc ls st) := by
  intro T hT X
  obtain ⟨v, st₀, t, T', L, h0, X', hL, e1, hq, stp⟩ := hr T hT X
  obtain ⟨t2, a1, b1⟩ := kk v st₀ t T'.heap (locs ++ L) h0 e1.symm hq (fun hF => ⟨Nat.le_trans hS.1 (by rw [e1, ← h0]; exact hF.1), fun q h1 h2 => by rw [e1, hF.2 q (by rw [h0]; exact Nat.lt_of_lt_of_le h1 hS.1) (fun h => h2 (hA q h)), h0]; exact hS.2.1 q h1 h2, fun q hq => by
    rcases List.mem_append.mp hq with h | h
    · exact hS.2.2 q h
    · exact hA _ (hL q h)⟩) T' rfl X'
  exact ⟨t2, stp t2 a1, b1⟩
theorem lb_Vi {y : MethodName} {bytes : ByteArray} {maxL n index bb : Nat} {ret : Option FieldType} {rm : Room} {As : List Value} {r : Int32} (C : LC p l s m meth c b L xs ev th md o) (hP : Wd ev z H) (hS : va_S (aZ s) s.heap H locs) (hM : Met l y (pWs y bytes maxL ret) rm (va_Pc (.ref bb :: As) (pPe ev z)) (pQi ev r z9) 0 0 (eA ev)) (hm : pm_Vm y bytes maxL ret n) (hlink : Cond.methodLink RL index y ∈ gT) (hrc : ∃ cell : Cell, H[bb]? = some cell ∧ cell.vm.isStatics = false ∧ s.vm.findClass y.cls = some cell.cls)
    (hrm : (rm.cells = 0 ∧ rm.slots = 0) ∧ rm.frames + 1 ≤ 14 ∧ 20 + (maxL + 11) + rm.locals ≤ 596) (hn : As.length = n) (hsize : ls.size = 8) (hst : st = As.reverse ++ .ref bb :: rest) (hW : (rest.map fun v => v.category).sum ≤ 20) (hf : cells ≤ 601024 ∧ slots ≤ 7293034) (hdg : decode cL_law pc = .ok (.invokevirtual index, 3))
    (kk : ∀ (H1 : Heap) (locs1 : List Loc), Wd ev z9 H1 → va_S (aZ s) s.heap H1 locs1 → LW p l e s m below meth c b H1 locs1 cells slots (pc + 3) ls (.int r :: rest)) : LW p l e s m below meth c b H locs cells slots pc ls st := by
  refine lb_back (pm_runV C.S hM hm hlink (pm_blind (.ref bb :: As) ev z) (fun U hU hW => ⟨rfl, lb_pe C hP hS U hU hW⟩) hrc hrm hn hsize hst hW hf hdg) C.A hS (fun v st₀ t H1 locs1 h0 h1 hq h2 => ?_)
  obtain ⟨ho, hP', hF⟩ := hq
  cases ho
  exact kk H1 locs1 (by rw [← h1]; exact hP') (h2 hF)
theorem lb_Vl {y : MethodName} {bytes : ByteArray} {maxL n index bb : Nat} {ret : Option FieldType} {rm : Room} {As : List Value} {r : Int64} (C : LC p l s m meth c b L xs ev th md o) (hP : Wd ev z H) (hS : va_S (aZ s) s.heap H locs) (hM : Met l y (pWs y bytes maxL ret) rm (va_Pc (.ref bb :: As) (pPe ev z)) (pQl ev r z9) 0 0 (eA ev)) (hm : pm_Vm y bytes maxL ret n) (hlink : Cond.methodLink RL index y ∈ gT) (hrc : ∃ cell : Cell, H[bb]? = some cell ∧ cell.vm.isStatics = false ∧ s.vm.findClass y.cls = some cell.cls)
    (hrm : (rm.cells = 0 ∧ rm.slots = 0) ∧ rm.frames + 1 ≤ 14 ∧ 20 + (maxL + 11) + rm.locals ≤ 596) (hn : As.length = n) (hsize : ls.size = 8) (hst : st = As.reverse ++ .ref bb :: rest) (hW : (rest.map fun v => v.category).sum ≤ 20) (hf : cells ≤ 601024 ∧ slots ≤ 7293034) (hdg : decode cL_law pc = .ok (.invokevirtual index, 3))
    (kk : ∀ (H1 : Heap) (locs1 : List Loc), Wd ev z9 H1 → va_S (aZ s) s.heap H1 locs1 → LW p l e s m below meth c b H1 locs1 cells slots (pc + 3) ls (.long r :: rest)) : LW p l e s m below meth c b H locs cells slots pc ls st := by
  refine lb_back (pm_runV C.S hM hm hlink (pm_blind (.ref bb :: As) ev z) (fun U hU hW => ⟨rfl, lb_pe C hP hS U hU hW⟩) hrc hrm hn hsize hst hW hf hdg) C.A hS (fun v st₀ t H1 locs1 h0 h1 hq h2 => ?_)
  obtain ⟨ho, hP', hF⟩ := hq
  cases ho
  exact kk H1 locs1 (by rw [← h1]; exact hP') (h2 hF)
theorem lb_Vr {y : MethodName} {bytes : ByteArray} {maxL n index bb : Nat} {ret : Option FieldType} {rm : Room} {As : List Value} {r : Value} (C : LC p l s m meth c b L xs ev th md o) (hP : Wd ev z H) (hS : va_S (aZ s) s.heap H locs) (hM : Met l y (pWs y bytes maxL ret) rm (va_Pc (.ref bb :: As) (pPe ev z)) (k2_QcV r) 0 0 (fun _ => False)) (hm : pm_Vm y bytes maxL ret n) (hlink : Cond.methodLink RL index y ∈ gT) (hrc : ∃ cell : Cell, H[bb]? = some cell ∧ cell.vm.isStatics = false ∧ s.vm.findClass y.cls = some cell.cls)
    (hrm : (rm.cells = 0 ∧ rm.slots = 0) ∧ rm.frames + 1 ≤ 14 ∧ 20 + (maxL + 11) + rm.locals ≤ 596) (hn : As.length = n) (hsize : ls.size = 8) (hst : st = As.reverse ++ .ref bb :: rest) (hW : (rest.map fun v => v.category).sum ≤ 20) (hf : cells ≤ 601024 ∧ slots ≤ 7293034) (hdg : decode cL_law pc = .ok (.invokevirtual index, 3))
    (kk : LW p l e s m below meth c b H locs cells slots (pc + 3) ls (r :: rest)) : LW p l e s m below meth c b H locs cells slots pc ls st :=
  W.callV (pm_runV C.S hM hm hlink (pm_blind (.ref bb :: As) ev z) (fun U hU hW => ⟨rfl, lb_pe C hP hS U hU hW⟩) hrc hrm hn hsize hst hW hf hdg) kk
theorem lb_Sx {y : MethodName} {bytes : ByteArray} {maxL n index : Nat} {ret : Option FieldType} {hh : List (Nat × Nat × Nat × Nat)} {As : List Value} {r : Int32} (C : LC p l s m meth c b L xs ev th md o) (hP : Wd ev z H) (hS : va_S (aZ s) s.heap H locs) (hM : vx_Met l y (pWW y bytes maxL ret hh) pRY (va_Pc As (fun U => pPe ev z U ∧ thX ev U)) (pQi ev r z9) xN 1 6 (eA ev))
    (hcode : Cond.codeWith y bytes maxL ret hh ∈ gT) (hstat : Cond.static y ∈ gT) (hini : Cond.initialized y.cls ∈ gT) (hy : y.cls ≠ "java/lang/invoke/MethodHandle" ∧ y.cls ≠ "java/lang/invoke/VarHandle") (hlen : (parseMethodDescriptor y.desc).map (fun d => d.parameters.length) = some n) (hlink : Cond.methodLink RL index y ∈ gT) (hlo : 8 + (maxL + 11) + 290 ≤ 596)
    (hn : As.length = n) (hsize : ls.size = 8) (hst : st = As.reverse ++ rest) (hW : (rest.map fun v => v.category).sum ≤ 8) (hf : cells + 1 ≤ 601024 ∧ slots + 6 ≤ 7293034) (hdg : decode cL_law pc = .ok (.invokestatic index, 3))
    (kk : ∀ (H1 : Heap) (locs1 : List Loc), Wd ev z9 H1 → va_S (aZ s) s.heap H1 locs1 → LW p l e s m below meth c b H1 locs1 (cells + 1) (slots + 6) (pc + 3) ls (.int r :: rest)) : LW p l e s m below meth c b H locs cells slots pc ls st := by
  intro T hT X
  have S := C.S
  have hws : ∀ w ∈ pWW y bytes maxL ret hh, ∀ (a' : Array Value) (U : State), s.WarmedH U.vm → w.before a' U = true := by
    intro w hw a' U hU
    have hw' : w ∈ gT := by
      rcases List.mem_cons.mp hw with h | h
      · rw [h]; exact hcode
      · exact h
    exact word_at hU (pm_ok w hw') (S.2.2.2.2 w hw')
  rcases vx_runSX (R := room_1) (e := e) (below := below) (meth := meth) (H := H) (locs := locs) (cells := cells) (slots := slots) (g := F0 m pc ls st) (rest := rest) (As := As) (n := n) (index := index) S hM ⟨⟨rfl, rfl, by decide, hlo, hws, List.mem_cons_self⟩, S.2.2.2.2 _ hcode, S.2.2.2.2 _ hini, hy, fun sig h => by
      have h2 := hlen
      rw [h] at h2
      exact (Option.some.inj h2).symm, S.2.2.2.2 _ hlink, S.2.2.2.2 _ hstat⟩ ⟨px_blind As ev z, fun U hU hW => ⟨rfl, lb_pe C hP hS U hU hW, thX_next C.T (lb_st hS) hU hW⟩⟩ rfl hn hsize hst (by simpa [JFrame.monitorRoom] using hW) hdg hf T hT X with ⟨v, st₀, t, T', L, h0, X', hL, e1, e2, hq, stp⟩ | ⟨q, st₀, t, T', L, E, ce, h0, X', hL, e1, e2, hq, hrest⟩
  · obtain ⟨ho, hP', hF⟩ := hq
    cases ho
    obtain ⟨t2, a1, b1⟩ := kk T'.heap (locs ++ L) (by rw [e1]; exact hP') ⟨Nat.le_trans hS.1 (by rw [e1, ← h0]; exact hF.1), fun q h1 h2 => by rw [e1, hF.2 q (by rw [h0]; exact Nat.lt_of_lt_of_le h1 hS.1) (fun h => h2 (C.A q h)), h0]; exact hS.2.1 q h1 h2, fun q hq => by
      rcases List.mem_append.mp hq with h | h
      · exact hS.2.2 q h
      · exact C.A _ (hL q h)⟩ T' rfl X'
    exact ⟨t2, stp t2 a1, b1⟩
  · exact hq.elim
/-- an int of the script -/
theorem lb_sl {n : Int} (C : LC p l s m meth c b L xs ev th md o) (hS : va_S (aZ s) s.heap H locs) (h0 : ls[0]? = some (.val (.ref b))) (h4 : ls[4]? = some (.val (.int (nI i)))) (j : Nat) (hj : Int32.ofInt n = nI j) (hi : i + j < L)
    (d0 : decode cL_law pc = .ok (.aload_n 0, 1)) (d1 : decode cL_law (pc + 1) = .ok (.iload 4, 2)) (d3 : decode cL_law (pc + 3) = .ok (.iconst n, 1)) (d4 : decode cL_law (pc + 4) = .ok (.iadd, 1)) (d5 : decode cL_law (pc + 5) = .ok (.iaload, 1))
    (kk : LW p l e s m below meth c b H locs cells slots (pc + 6) ls (.int (xs (i + j)) :: rest)) : LW p l e s m below meth c b H locs cells slots pc ls rest := by
  have hL := C.hL
  obtain ⟨hx, hb, hr, hml, hown, hts, hX, hbl, hlocks, hgv⟩ := C.at0
  refine lv_aload_n hx hb d0 rfl h0 ?_
  refine lv_iload hx hb d1 h4 ?_
  refine lv_iconst (v := nI j) hx hb d3 hj ?_
  refine lv_iadd hx hb d4 ?_
  refine pm_nmI (nI_add i j).symm ?_
  refine va_sld hx hb hX hbl (Nat.not_le.mpr hbl) hS (vp_in_nI hi (by omega)) d5 ?_
  exact pm_nmI (by rw [nI_clamp (by omega)]) kk
/-- a truth value -/
theorem lb_tv {x : Int32} (C : LC p l s m meth c b L xs ev th md o) (d0 : decode cL_law pc = .ok (.ifCond .eq 7, 3)) (d3 : decode cL_law (pc + 3) = .ok (.iconst 1, 1)) (d4 : decode cL_law (pc + 4) = .ok (.goto 4, 3)) (d7 : decode cL_law (pc + 7) = .ok (.iconst 0, 1))
    (kk : LW p l e s m below meth c b H locs cells slots (pc + 8) ls (.int (if x = 0 then 0 else 1) :: rest)) : LW p l e s m below meth c b H locs cells slots pc ls (.int x :: rest) := by
  obtain ⟨hx, hb, hr, hml, hown, hts, hX, hbl, hlocks, hgv⟩ := C.at0
  refine lv_if_eq (tgt := pc + 7) hx hb d0 (by omega) (fun c1 => ?_) (fun c1 => ?_)
  · rw [if_pos c1] at kk
    exact lv_iconst (v := 0) hx hb d7 (by decide) kk
  · rw [if_neg c1] at kk
    exact lv_iconst (v := 1) hx hb d3 (by decide) (lv_goto (tgt := pc + 8) hx hb d4 (by omega) kk)
end LB
def NX (p : Program) (l : Launch) (e : Env) (s : State) (m : MethodId) (below : List Frame) (meth : Method) (c : Code) (b : Nat) (ev : EV) (th md o i : Nat) : Prop := ∀ (z2 : PS) (H2 : Heap) (locs2 : List Loc) (ls2 : Array Slot), IV ev th md z2 → Wd ev z2 H2 → va_S (aZ s) s.heap H2 locs2 → lv_has ls2 8 (lvs b th md o i) → LW p l e s m below meth c b H2 locs2 (590000 + i + 1) (7000000 + i + 6) 1027 ls2 []
section LA
variable {p : Program} {l : Launch} {e : Env} {s : State} {m : MethodId} {below : List Frame} {meth : Method} {c : Code} {H : Heap} {locs : List Loc} {cells slots : Nat} {pc : Nat} {ls : Array Slot} {rest st : List Value} {b L : Nat} {xs : Nat → Int32} {ev : EV} {z z9 : PS} {th md o i : Nat}
set_option maxRecDepth 20000 in
set_option maxHeartbeats 4000000 in
theorem la_0 (C : LC p l s m meth c b L xs ev th md o) (hi : i + 6 ≤ L) (I : IV ev th md z) (hP : Wd ev z H) (hS : va_S (aZ s) s.heap H locs) (hl : lv_has ls 8 (lvs b th md o i)) (nx : NX p l e s m below meth c b ev th md o i) : LW p l e s m below meth c b H locs (590000 + i) (7000000 + i) 140 ls [] := by
  have hL := C.hL
  have hf : 590000 + i ≤ 601024 ∧ 7000000 + i ≤ 7293034 := ⟨by omega, by omega⟩
  obtain ⟨hx, hb, hr, hml, hown, hts, hX, hbl, hlocks, hgv⟩ := C.at0
  obtain ⟨r, z1, z2, e1, e2, I2⟩ := op_curve C.sep I (xs (i + 1)) (xs (i + 2)) (xs (i + 3)) (xs (i + 4)) (xs (i + 5))
  refine lv_aload_n hx hb dL_law_140 rfl (lv_at hl 1 rfl) ?_
  refine lb_sl C hS (lv_at hl 0 rfl) (lv_at hl 4 rfl) 1 (by decide) (by omega) dL_law_141 dL_law_142 dL_law_144 dL_law_145 dL_law_146 ?_
  refine lb_sl C hS (lv_at hl 0 rfl) (lv_at hl 4 rfl) 2 (by decide) (by omega) dL_law_147 dL_law_148 dL_law_150 dL_law_151 dL_law_152 ?_
  refine lb_sl C hS (lv_at hl 0 rfl) (lv_at hl 4 rfl) 3 (by decide) (by omega) dL_law_153 dL_law_154 dL_law_156 dL_law_157 dL_law_158 ?_
  refine lb_sl C hS (lv_at hl 0 rfl) (lv_at hl 4 rfl) 4 (by decide) (by omega) dL_law_159 dL_law_160 dL_law_162 dL_law_163 dL_law_164 ?_
  refine lb_sl C hS (lv_at hl 0 rfl) (lv_at hl 4 rfl) 5 (by decide) (by omega) dL_law_165 dL_law_166 dL_law_168 dL_law_169 dL_law_170 ?_
  refine lb_Vi (As := [.int (xs (i + 1)), .int (xs (i + 2)), .int (xs (i + 3)), .int (xs (i + 4)), .int (xs (i + 5))]) (rest := []) C hP hS (c_X7_curve l ev z C.E C.hth th (xs (i + 1)) (xs (i + 2)) (xs (i + 3)) (xs (i + 4)) (xs (i + 5)) r z1 e1) vm_X7_curve mw_1_207 (rc_5 C.K hP C.hth) ⟨⟨rfl, rfl⟩, by decide, by decide⟩ rfl hl.1 rfl (Nat.le_of_ble_eq_true rfl) hf dL_law_171 (fun H locs hP hS => ?_)
  refine lv_aload_n hx hb dL_law_174 rfl (lv_at hl 2 rfl) ?_
  refine lb_sl C hS (lv_at hl 0 rfl) (lv_at hl 4 rfl) 1 (by decide) (by omega) dL_law_175 dL_law_176 dL_law_178 dL_law_179 dL_law_180 ?_
  refine lb_sl C hS (lv_at hl 0 rfl) (lv_at hl 4 rfl) 2 (by decide) (by omega) dL_law_181 dL_law_182 dL_law_184 dL_law_185 dL_law_186 ?_
  refine lb_sl C hS (lv_at hl 0 rfl) (lv_at hl 4 rfl) 3 (by decide) (by omega) dL_law_187 dL_law_188 dL_law_190 dL_law_191 dL_law_192 ?_
  refine lb_sl C hS (lv_at hl 0 rfl) (lv_at hl 4 rfl) 4 (by decide) (by omega) dL_law_193 dL_law_194 dL_law_196 dL_law_197 dL_law_198 ?_
  refine lb_sl C hS (lv_at hl 0 rfl) (lv_at hl 4 rfl) 5 (by decide) (by omega) dL_law_199 dL_law_200 dL_law_202 dL_law_203 dL_law_204 ?_
  refine lb_Vi (As := [.int (xs (i + 1)), .int (xs (i + 2)), .int (xs (i + 3)), .int (xs (i + 4)), .int (xs (i + 5))]) (rest := [.int r]) C hP hS (c_X8_curve l ev z1 C.E C.hmd md (xs (i + 1)) (xs (i + 2)) (xs (i + 3)) (xs (i + 4)) (xs (i + 5)) r z2 e2) vm_X8_curve mw_4_35 (rc_6 C.K hP C.hmd) ⟨⟨rfl, rfl⟩, by decide, by decide⟩ rfl hl.1 rfl (Nat.le_of_ble_eq_true rfl) hf dL_law_205 (fun H locs hP hS => ?_)
  exact lv_icmp_eq (tgt := 1027) hx hb dL_law_208 (by decide) (fun _ => W.widen (k := 590000 + i + 1) (n := 7000000 + i + 6) (by omega) (by omega) (nx z2 H locs ls I2 hP hS hl)) (fun c1 => absurd rfl c1)
set_option maxRecDepth 20000 in
set_option maxHeartbeats 4000000 in
theorem la_1 (C : LC p l s m meth c b L xs ev th md o) (hi : i + 6 ≤ L) (I : IV ev th md z) (hP : Wd ev z H) (hS : va_S (aZ s) s.heap H locs) (hl : lv_has ls 8 (lvs b th md o i)) (nx : NX p l e s m below meth c b ev th md o i) : LW p l e s m below meth c b H locs (590000 + i) (7000000 + i) 213 ls [] := by
  have hL := C.hL
  have hf : 590000 + i ≤ 601024 ∧ 7000000 + i ≤ 7293034 := ⟨by omega, by omega⟩
  obtain ⟨hx, hb, hr, hml, hown, hts, hX, hbl, hlocks, hgv⟩ := C.at0
  obtain ⟨r, z1, z2, e1, e2, I2⟩ := op_change C.sep I (xs (i + 1)) (xs (i + 2)) (xs (i + 3)) (xs (i + 4))
  refine lv_aload_n hx hb dL_law_213 rfl (lv_at hl 1 rfl) ?_
  refine lb_sl C hS (lv_at hl 0 rfl) (lv_at hl 4 rfl) 1 (by decide) (by omega) dL_law_214 dL_law_215 dL_law_217 dL_law_218 dL_law_219 ?_
  refine lb_sl C hS (lv_at hl 0 rfl) (lv_at hl 4 rfl) 2 (by decide) (by omega) dL_law_220 dL_law_221 dL_law_223 dL_law_224 dL_law_225 ?_
  refine lb_sl C hS (lv_at hl 0 rfl) (lv_at hl 4 rfl) 3 (by decide) (by omega) dL_law_226 dL_law_227 dL_law_229 dL_law_230 dL_law_231 ?_
  refine lb_sl C hS (lv_at hl 0 rfl) (lv_at hl 4 rfl) 4 (by decide) (by omega) dL_law_232 dL_law_233 dL_law_235 dL_law_236 dL_law_237 ?_
  refine lb_Vi (As := [.int (xs (i + 1)), .int (xs (i + 2)), .int (xs (i + 3)), .int (xs (i + 4))]) (rest := []) C hP hS (c_X7_change l ev z C.E C.hth th (xs (i + 1)) (xs (i + 2)) (xs (i + 3)) (xs (i + 4)) r z1 e1) vm_X7_change mw_2_55 (rc_5 C.K hP C.hth) ⟨⟨rfl, rfl⟩, by decide, by decide⟩ rfl hl.1 rfl (Nat.le_of_ble_eq_true rfl) hf dL_law_238 (fun H locs hP hS => ?_)
  refine lv_aload_n hx hb dL_law_241 rfl (lv_at hl 2 rfl) ?_
  refine lb_sl C hS (lv_at hl 0 rfl) (lv_at hl 4 rfl) 1 (by decide) (by omega) dL_law_242 dL_law_243 dL_law_245 dL_law_246 dL_law_247 ?_
  refine lb_sl C hS (lv_at hl 0 rfl) (lv_at hl 4 rfl) 2 (by decide) (by omega) dL_law_248 dL_law_249 dL_law_251 dL_law_252 dL_law_253 ?_
  refine lb_sl C hS (lv_at hl 0 rfl) (lv_at hl 4 rfl) 3 (by decide) (by omega) dL_law_254 dL_law_255 dL_law_257 dL_law_258 dL_law_259 ?_
  refine lb_sl C hS (lv_at hl 0 rfl) (lv_at hl 4 rfl) 4 (by decide) (by omega) dL_law_260 dL_law_261 dL_law_263 dL_law_264 dL_law_265 ?_
  refine lb_Vi (As := [.int (xs (i + 1)), .int (xs (i + 2)), .int (xs (i + 3)), .int (xs (i + 4))]) (rest := [.int r]) C hP hS (c_X8_change l ev z1 C.E C.hmd md (xs (i + 1)) (xs (i + 2)) (xs (i + 3)) (xs (i + 4)) r z2 e2) vm_X8_change mw_4_83 (rc_6 C.K hP C.hmd) ⟨⟨rfl, rfl⟩, by decide, by decide⟩ rfl hl.1 rfl (Nat.le_of_ble_eq_true rfl) hf dL_law_266 (fun H locs hP hS => ?_)
  exact lv_icmp_eq (tgt := 1027) hx hb dL_law_269 (by decide) (fun _ => W.widen (k := 590000 + i + 1) (n := 7000000 + i + 6) (by omega) (by omega) (nx z2 H locs ls I2 hP hS hl)) (fun c1 => absurd rfl c1)
set_option maxRecDepth 20000 in
set_option maxHeartbeats 4000000 in
theorem la_2 (C : LC p l s m meth c b L xs ev th md o) (hi : i + 6 ≤ L) (I : IV ev th md z) (hP : Wd ev z H) (hS : va_S (aZ s) s.heap H locs) (hl : lv_has ls 8 (lvs b th md o i)) (nx : NX p l e s m below meth c b ev th md o i) : LW p l e s m below meth c b H locs (590000 + i) (7000000 + i) 274 ls [] := by
  have hL := C.hL
  have hf : 590000 + i ≤ 601024 ∧ 7000000 + i ≤ 7293034 := ⟨by omega, by omega⟩
  obtain ⟨hx, hb, hr, hml, hown, hts, hX, hbl, hlocks, hgv⟩ := C.at0
  obtain ⟨r, z1, z2, e1, e2, I2⟩ := op_scale C.sep I (xs (i + 1)) (xs (i + 2)) (if xs (i + 3) = 0 then 0 else 1)
  refine lv_aload_n hx hb dL_law_274 rfl (lv_at hl 1 rfl) ?_
  refine lb_sl C hS (lv_at hl 0 rfl) (lv_at hl 4 rfl) 1 (by decide) (by omega) dL_law_275 dL_law_276 dL_law_278 dL_law_279 dL_law_280 ?_
  refine lb_sl C hS (lv_at hl 0 rfl) (lv_at hl 4 rfl) 2 (by decide) (by omega) dL_law_281 dL_law_282 dL_law_284 dL_law_285 dL_law_286 ?_
  refine lb_sl C hS (lv_at hl 0 rfl) (lv_at hl 4 rfl) 3 (by decide) (by omega) dL_law_287 dL_law_288 dL_law_290 dL_law_291 dL_law_292 ?_
  refine lb_tv C dL_law_293 dL_law_296 dL_law_297 dL_law_300 ?_
  refine lb_Vi (As := [.int (xs (i + 1)), .int (xs (i + 2)), .int (if xs (i + 3) = 0 then 0 else 1)]) (rest := []) C hP hS (c_X7_scale l ev z C.E C.hth th (xs (i + 1)) (xs (i + 2)) (if xs (i + 3) = 0 then 0 else 1) r z1 e1) vm_X7_scale mw_2_69 (rc_5 C.K hP C.hth) ⟨⟨rfl, rfl⟩, by decide, by decide⟩ rfl hl.1 rfl (Nat.le_of_ble_eq_true rfl) hf dL_law_301 (fun H locs hP hS => ?_)
  refine lv_aload_n hx hb dL_law_304 rfl (lv_at hl 2 rfl) ?_
  refine lb_sl C hS (lv_at hl 0 rfl) (lv_at hl 4 rfl) 1 (by decide) (by omega) dL_law_305 dL_law_306 dL_law_308 dL_law_309 dL_law_310 ?_
  refine lb_sl C hS (lv_at hl 0 rfl) (lv_at hl 4 rfl) 2 (by decide) (by omega) dL_law_311 dL_law_312 dL_law_314 dL_law_315 dL_law_316 ?_
  refine lb_sl C hS (lv_at hl 0 rfl) (lv_at hl 4 rfl) 3 (by decide) (by omega) dL_law_317 dL_law_318 dL_law_320 dL_law_321 dL_law_322 ?_
  refine lb_tv C dL_law_323 dL_law_326 dL_law_327 dL_law_330 ?_
  refine lb_Vi (As := [.int (xs (i + 1)), .int (xs (i + 2)), .int (if xs (i + 3) = 0 then 0 else 1)]) (rest := [.int r]) C hP hS (c_X8_scale l ev z1 C.E C.hmd md (xs (i + 1)) (xs (i + 2)) (if xs (i + 3) = 0 then 0 else 1) r z2 e2) vm_X8_scale mw_4_100 (rc_6 C.K hP C.hmd) ⟨⟨rfl, rfl⟩, by decide, by decide⟩ rfl hl.1 rfl (Nat.le_of_ble_eq_true rfl) hf dL_law_331 (fun H locs hP hS => ?_)
  exact lv_icmp_eq (tgt := 1027) hx hb dL_law_334 (by decide) (fun _ => W.widen (k := 590000 + i + 1) (n := 7000000 + i + 6) (by omega) (by omega) (nx z2 H locs ls I2 hP hS hl)) (fun c1 => absurd rfl c1)
set_option maxRecDepth 20000 in
set_option maxHeartbeats 4000000 in
theorem la_3 (C : LC p l s m meth c b L xs ev th md o) (hi : i + 6 ≤ L) (I : IV ev th md z) (hP : Wd ev z H) (hS : va_S (aZ s) s.heap H locs) (hl : lv_has ls 8 (lvs b th md o i)) (nx : NX p l e s m below meth c b ev th md o i) : LW p l e s m below meth c b H locs (590000 + i) (7000000 + i) 339 ls [] := by
  have hL := C.hL
  have hf : 590000 + i ≤ 601024 ∧ 7000000 + i ≤ 7293034 := ⟨by omega, by omega⟩
  obtain ⟨hx, hb, hr, hml, hown, hts, hX, hbl, hlocks, hgv⟩ := C.at0
  obtain ⟨r, z1, z2, e1, e2, I2⟩ := op_least C.sep I (xs (i + 1))
  refine lv_aload_n hx hb dL_law_339 rfl (lv_at hl 1 rfl) ?_
  refine lb_sl C hS (lv_at hl 0 rfl) (lv_at hl 4 rfl) 1 (by decide) (by omega) dL_law_340 dL_law_341 dL_law_343 dL_law_344 dL_law_345 ?_
  refine lb_Vi (As := [.int (xs (i + 1))]) (rest := []) C hP hS (c_X7_least l ev z C.E C.hth th (xs (i + 1)) r z1 e1) vm_X7_least mw_2_94 (rc_5 C.K hP C.hth) ⟨⟨rfl, rfl⟩, by decide, by decide⟩ rfl hl.1 rfl (Nat.le_of_ble_eq_true rfl) hf dL_law_346 (fun H locs hP hS => ?_)
  refine lv_aload_n hx hb dL_law_349 rfl (lv_at hl 2 rfl) ?_
  refine lb_sl C hS (lv_at hl 0 rfl) (lv_at hl 4 rfl) 1 (by decide) (by omega) dL_law_350 dL_law_351 dL_law_353 dL_law_354 dL_law_355 ?_
  refine lb_Vi (As := [.int (xs (i + 1))]) (rest := [.int r]) C hP hS (c_X8_least l ev z1 C.E C.hmd md (xs (i + 1)) r z2 e2) vm_X8_least mw_4_122 (rc_6 C.K hP C.hmd) ⟨⟨rfl, rfl⟩, by decide, by decide⟩ rfl hl.1 rfl (Nat.le_of_ble_eq_true rfl) hf dL_law_356 (fun H locs hP hS => ?_)
  exact lv_icmp_eq (tgt := 1027) hx hb dL_law_359 (by decide) (fun _ => W.widen (k := 590000 + i + 1) (n := 7000000 + i + 6) (by omega) (by omega) (nx z2 H locs ls I2 hP hS hl)) (fun c1 => absurd rfl c1)
set_option maxRecDepth 20000 in
set_option maxHeartbeats 4000000 in
theorem la_4 (C : LC p l s m meth c b L xs ev th md o) (hi : i + 6 ≤ L) (I : IV ev th md z) (hP : Wd ev z H) (hS : va_S (aZ s) s.heap H locs) (hl : lv_has ls 8 (lvs b th md o i)) (nx : NX p l e s m below meth c b ev th md o i) : LW p l e s m below meth c b H locs (590000 + i) (7000000 + i) 364 ls [] := by
  have hL := C.hL
  have hf : 590000 + i ≤ 601024 ∧ 7000000 + i ≤ 7293034 := ⟨by omega, by omega⟩
  obtain ⟨hx, hb, hr, hml, hown, hts, hX, hbl, hlocks, hgv⟩ := C.at0
  obtain ⟨r, z1, z2, e1, e2, I2⟩ := op_twist C.sep I (xs (i + 1)) (xs (i + 2))
  refine lv_aload_n hx hb dL_law_364 rfl (lv_at hl 1 rfl) ?_
  refine lb_sl C hS (lv_at hl 0 rfl) (lv_at hl 4 rfl) 1 (by decide) (by omega) dL_law_365 dL_law_366 dL_law_368 dL_law_369 dL_law_370 ?_
  refine lb_sl C hS (lv_at hl 0 rfl) (lv_at hl 4 rfl) 2 (by decide) (by omega) dL_law_371 dL_law_372 dL_law_374 dL_law_375 dL_law_376 ?_
  refine lb_Vi (As := [.int (xs (i + 1)), .int (xs (i + 2))]) (rest := []) C hP hS (c_X7_twist l ev z C.E C.hth th (xs (i + 1)) (xs (i + 2)) r z1 e1) vm_X7_twist mw_2_98 (rc_5 C.K hP C.hth) ⟨⟨rfl, rfl⟩, by decide, by decide⟩ rfl hl.1 rfl (Nat.le_of_ble_eq_true rfl) hf dL_law_377 (fun H locs hP hS => ?_)
  refine lv_aload_n hx hb dL_law_380 rfl (lv_at hl 2 rfl) ?_
  refine lb_sl C hS (lv_at hl 0 rfl) (lv_at hl 4 rfl) 1 (by decide) (by omega) dL_law_381 dL_law_382 dL_law_384 dL_law_385 dL_law_386 ?_
  refine lb_sl C hS (lv_at hl 0 rfl) (lv_at hl 4 rfl) 2 (by decide) (by omega) dL_law_387 dL_law_388 dL_law_390 dL_law_391 dL_law_392 ?_
  refine lb_Vi (As := [.int (xs (i + 1)), .int (xs (i + 2))]) (rest := [.int r]) C hP hS (c_X8_twist l ev z1 C.E C.hmd md (xs (i + 1)) (xs (i + 2)) r z2 e2) vm_X8_twist mw_5_24 (rc_6 C.K hP C.hmd) ⟨⟨rfl, rfl⟩, by decide, by decide⟩ rfl hl.1 rfl (Nat.le_of_ble_eq_true rfl) hf dL_law_393 (fun H locs hP hS => ?_)
  exact lv_icmp_eq (tgt := 1027) hx hb dL_law_396 (by decide) (fun _ => W.widen (k := 590000 + i + 1) (n := 7000000 + i + 6) (by omega) (by omega) (nx z2 H locs ls I2 hP hS hl)) (fun c1 => absurd rfl c1)
set_option maxRecDepth 20000 in
set_option maxHeartbeats 4000000 in
theorem la_5 (C : LC p l s m meth c b L xs ev th md o) (hi : i + 6 ≤ L) (I : IV ev th md z) (hP : Wd ev z H) (hS : va_S (aZ s) s.heap H locs) (hl : lv_has ls 8 (lvs b th md o i)) (nx : NX p l e s m below meth c b ev th md o i) : LW p l e s m below meth c b H locs (590000 + i) (7000000 + i) 401 ls [] := by
  have hL := C.hL
  have hf : 590000 + i ≤ 601024 ∧ 7000000 + i ≤ 7293034 := ⟨by omega, by omega⟩
  obtain ⟨hx, hb, hr, hml, hown, hts, hX, hbl, hlocks, hgv⟩ := C.at0
  obtain ⟨r, z1, z2, e1, e2, I2⟩ := op_drop C.sep I 
  refine lv_aload_n hx hb dL_law_401 rfl (lv_at hl 1 rfl) ?_
  refine lb_Vi (As := []) (rest := []) C hP hS (c_X7_drop l ev z C.E C.hth th  r z1 e1) vm_X7_drop mw_2_120 (rc_5 C.K hP C.hth) ⟨⟨rfl, rfl⟩, by decide, by decide⟩ rfl hl.1 rfl (Nat.le_of_ble_eq_true rfl) hf dL_law_402 (fun H locs hP hS => ?_)
  refine lv_aload_n hx hb dL_law_405 rfl (lv_at hl 2 rfl) ?_
  refine lb_Vi (As := []) (rest := [.int r]) C hP hS (c_X8_drop l ev z1 C.E C.hmd md  r z2 e2) vm_X8_drop mw_4_118 (rc_6 C.K hP C.hmd) ⟨⟨rfl, rfl⟩, by decide, by decide⟩ rfl hl.1 rfl (Nat.le_of_ble_eq_true rfl) hf dL_law_406 (fun H locs hP hS => ?_)
  exact lv_icmp_eq (tgt := 1027) hx hb dL_law_409 (by decide) (fun _ => W.widen (k := 590000 + i + 1) (n := 7000000 + i + 6) (by omega) (by omega) (nx z2 H locs ls I2 hP hS hl)) (fun c1 => absurd rfl c1)
set_option maxRecDepth 20000 in
set_option maxHeartbeats 4000000 in
theorem la_6 (C : LC p l s m meth c b L xs ev th md o) (hi : i + 6 ≤ L) (I : IV ev th md z) (hP : Wd ev z H) (hS : va_S (aZ s) s.heap H locs) (hl : lv_has ls 8 (lvs b th md o i)) (nx : NX p l e s m below meth c b ev th md o i) : LW p l e s m below meth c b H locs (590000 + i) (7000000 + i) 414 ls [] := by
  have hL := C.hL
  have hf : 590000 + i ≤ 601024 ∧ 7000000 + i ≤ 7293034 := ⟨by omega, by omega⟩
  obtain ⟨hx, hb, hr, hml, hown, hts, hX, hbl, hlocks, hgv⟩ := C.at0
  have ht := op_of C.sep C.oo I (xs (i + 1)) (xs (i + 2))
  obtain ⟨oo, z1, z2, v, k, e0, e2, hk, e3, I2⟩ : ∃ (oo : Option Int64) (z1 z2 : PS) (v : Int64) (k : Int32), g_X7_of ev z th (xs (i + 1)) (xs (i + 2)) = some oo ∧ g_X8_of ev z1 md (xs (i + 1)) (xs (i + 2)) = some (v, z2) ∧ ((oo = none ∧ k = 1 ∧ z1 = z) ∨ ∃ v, oo = some v ∧ k = 0 ∧ z1 = wJ z o 0 v) ∧ (r32 z2 120 md = k ∧ (k = 0 → rJ z2 o 0 = v) ∧ (k = 0 ∨ k = 1)) ∧ IV ev th md z2 := by
    rcases ht with ⟨z1, z2, v, h1, h2, h3, h4⟩ | ⟨z1, z2, v, h1, h2, h3, h4, h5⟩
    · obtain ⟨oo, g1, g2⟩ := ob_s h1
      cases g2
      exact ⟨none, z, z2, v, 1, g1, h2, Or.inl ⟨rfl, rfl, rfl⟩, ⟨h3, fun h => absurd h (by decide), Or.inr rfl⟩, h4⟩
    · obtain ⟨oo, g1, g2⟩ := ob_s h1
      cases g2
      exact ⟨some v, wJ z o 0 v, z2, v, 0, g1, h2, Or.inr ⟨v, rfl, rfl, rfl⟩, ⟨h3, fun _ => h4, Or.inl rfl⟩, h5⟩
  obtain ⟨e4, e5, e6⟩ := e3
  refine lv_aload_n hx hb dL_law_414 rfl (lv_at hl 1 rfl) ?_
  refine lb_sl C hS (lv_at hl 0 rfl) (lv_at hl 4 rfl) 1 (by decide) (by omega) dL_law_415 dL_law_416 dL_law_418 dL_law_419 dL_law_420 ?_
  refine lb_sl C hS (lv_at hl 0 rfl) (lv_at hl 4 rfl) 2 (by decide) (by omega) dL_law_421 dL_law_422 dL_law_424 dL_law_425 dL_law_426 ?_
  refine lv_aload_n hx hb dL_law_427 rfl (lv_at hl 3 rfl) ?_
  refine lb_Sx (n := 4) (As := [.ref th, .int (xs (i + 1)), .int (xs (i + 2)), .ref o]) (rest := []) C hP hS (c_L_of l C.hst ev z C.E C.hth C.ho C.hno (xs (i + 1)) (xs (i + 2)) oo e0 k z1 hk) mw_3_130 mw_3_129 mw_1_0 (by decide) (by decide) mw_3_128 (by decide) rfl hl.1 rfl (Nat.le_of_ble_eq_true rfl) ⟨by omega, by omega⟩ dL_law_428 (fun H locs hP hS => ?_)
  refine lv_istore (lv' := [(5, .int k), (0, .ref b), (1, .ref th), (2, .ref md), (3, .ref o), (4, .int (nI i))]) hx hb dL_law_431 hl (by decide) rfl (fun ls hl => ?_)
  have hf : 590000 + i + 1 ≤ 601024 ∧ 7000000 + i + 6 ≤ 7293034 := ⟨by omega, by omega⟩
  refine lv_aload_n hx hb dL_law_433 rfl (lv_at hl 3 rfl) ?_
  refine lb_sl C hS (lv_at hl 1 rfl) (lv_at hl 5 rfl) 1 (by decide) (by omega) dL_law_434 dL_law_435 dL_law_437 dL_law_438 dL_law_439 ?_
  refine lb_sl C hS (lv_at hl 1 rfl) (lv_at hl 5 rfl) 2 (by decide) (by omega) dL_law_440 dL_law_441 dL_law_443 dL_law_444 dL_law_445 ?_
  refine lb_Vl (As := [.int (xs (i + 1)), .int (xs (i + 2))]) (rest := []) C hP hS (c_X8_of l ev z1 C.E C.hmd md (xs (i + 1)) (xs (i + 2)) v z2 e2) vm_X8_of mw_5_39 (rc_6 C.K hP C.hmd) ⟨⟨rfl, rfl⟩, by decide, by decide⟩ rfl hl.1 rfl (Nat.le_of_ble_eq_true rfl) hf dL_law_446 (fun H locs hP hS => ?_)
  refine lv_lstore (lv' := [(6, .long v), (5, .int k), (0, .ref b), (1, .ref th), (2, .ref md), (3, .ref o), (4, .int (nI i))]) hx hb dL_law_449 hl (by decide) rfl (fun ls hl => ?_)
  refine lv_aload_n hx hb dL_law_451 rfl (lv_at hl 4 rfl) ?_
  refine lb_Vr (As := []) (rest := []) C hP hS (c_X8_thrown l ev z2 C.E C.hmd md k (by rw [← e4]; rfl)) vm_X8_thrown mw_4_31 (rc_6 C.K hP C.hmd) ⟨⟨rfl, rfl⟩, by decide, by decide⟩ rfl hl.1 rfl (Nat.le_of_ble_eq_true rfl) hf dL_law_452 ?_
  refine lv_iload hx hb dL_law_455 (lv_at hl 1 rfl) ?_
  refine lv_icmp_eq (tgt := 462) hx hb dL_law_457 (by decide) (fun _ => ?_) (fun c1 => absurd rfl c1)
  refine lv_iload hx hb dL_law_462 (lv_at hl 1 rfl) ?_
  have fin : LW p l e s m below meth c b H locs (590000 + i + 1) (7000000 + i + 6) 478 ls [] := lv_goto (tgt := 1027) hx hb dL_law_478 (by decide) (nx z2 H locs ls I2 hP hS (lv_sub hl [2, 3, 4, 5, 6] rfl))
  refine lv_if_ne (tgt := 478) hx hb dL_law_464 (by decide) (fun _ => fin) (fun c1 => ?_)
  have c1 : k = 0 := by first | exact c1 | exact Classical.byContradiction c1
  refine lv_aload_n hx hb dL_law_467 rfl (lv_at hl 5 rfl) ?_
  refine lv_iconst (v := 0) hx hb dL_law_468 (by decide) ?_
  refine al_J C.S C.K hP C.ho (by rw [C.hno]; decide) dL_law_469 ?_
  refine lv_lload hx hb dL_law_470 (lv_at hl 0 rfl) ?_
  exact pm_leq (tgt := 478) C.S dL_law_472 dL_law_473 (by decide) (fun _ => fin) (fun c2 => absurd (e5 c1) c2)
set_option maxRecDepth 20000 in
set_option maxHeartbeats 4000000 in
theorem la_7 (C : LC p l s m meth c b L xs ev th md o) (hi : i + 6 ≤ L) (I : IV ev th md z) (hP : Wd ev z H) (hS : va_S (aZ s) s.heap H locs) (hl : lv_has ls 8 (lvs b th md o i)) (nx : NX p l e s m below meth c b ev th md o i) : LW p l e s m below meth c b H locs (590000 + i) (7000000 + i) 481 ls [] := by
  have hL := C.hL
  have hf : 590000 + i ≤ 601024 ∧ 7000000 + i ≤ 7293034 := ⟨by omega, by omega⟩
  obtain ⟨hx, hb, hr, hml, hown, hts, hX, hbl, hlocks, hgv⟩ := C.at0
  obtain ⟨r, z1, z2, e1, e2, I2⟩ := op_at C.sep I (xs (i + 1)) (xs (i + 2)) (xs (i + 3))
  refine lv_aload_n hx hb dL_law_481 rfl (lv_at hl 1 rfl) ?_
  refine lb_sl C hS (lv_at hl 0 rfl) (lv_at hl 4 rfl) 1 (by decide) (by omega) dL_law_482 dL_law_483 dL_law_485 dL_law_486 dL_law_487 ?_
  refine lb_sl C hS (lv_at hl 0 rfl) (lv_at hl 4 rfl) 2 (by decide) (by omega) dL_law_488 dL_law_489 dL_law_491 dL_law_492 dL_law_493 ?_
  refine lb_sl C hS (lv_at hl 0 rfl) (lv_at hl 4 rfl) 3 (by decide) (by omega) dL_law_494 dL_law_495 dL_law_497 dL_law_498 dL_law_499 ?_
  refine lb_Vi (As := [.int (xs (i + 1)), .int (xs (i + 2)), .int (xs (i + 3))]) (rest := []) C hP hS (c_X7_at l ev z C.E C.hth th (xs (i + 1)) (xs (i + 2)) (xs (i + 3)) r z1 e1) vm_X7_at mw_2_124 (rc_5 C.K hP C.hth) ⟨⟨rfl, rfl⟩, by decide, by decide⟩ rfl hl.1 rfl (Nat.le_of_ble_eq_true rfl) hf dL_law_500 (fun H locs hP hS => ?_)
  refine lv_aload_n hx hb dL_law_503 rfl (lv_at hl 2 rfl) ?_
  refine lb_sl C hS (lv_at hl 0 rfl) (lv_at hl 4 rfl) 1 (by decide) (by omega) dL_law_504 dL_law_505 dL_law_507 dL_law_508 dL_law_509 ?_
  refine lb_sl C hS (lv_at hl 0 rfl) (lv_at hl 4 rfl) 2 (by decide) (by omega) dL_law_510 dL_law_511 dL_law_513 dL_law_514 dL_law_515 ?_
  refine lb_sl C hS (lv_at hl 0 rfl) (lv_at hl 4 rfl) 3 (by decide) (by omega) dL_law_516 dL_law_517 dL_law_519 dL_law_520 dL_law_521 ?_
  refine lb_Vi (As := [.int (xs (i + 1)), .int (xs (i + 2)), .int (xs (i + 3))]) (rest := [.int r]) C hP hS (c_X8_at l ev z1 C.E C.hmd md (xs (i + 1)) (xs (i + 2)) (xs (i + 3)) r z2 e2) vm_X8_at mw_5_52 (rc_6 C.K hP C.hmd) ⟨⟨rfl, rfl⟩, by decide, by decide⟩ rfl hl.1 rfl (Nat.le_of_ble_eq_true rfl) hf dL_law_522 (fun H locs hP hS => ?_)
  exact lv_icmp_eq (tgt := 1027) hx hb dL_law_525 (by decide) (fun _ => W.widen (k := 590000 + i + 1) (n := 7000000 + i + 6) (by omega) (by omega) (nx z2 H locs ls I2 hP hS hl)) (fun c1 => absurd rfl c1)
set_option maxRecDepth 20000 in
set_option maxHeartbeats 4000000 in
theorem la_8 (C : LC p l s m meth c b L xs ev th md o) (hi : i + 6 ≤ L) (I : IV ev th md z) (hP : Wd ev z H) (hS : va_S (aZ s) s.heap H locs) (hl : lv_has ls 8 (lvs b th md o i)) (nx : NX p l e s m below meth c b ev th md o i) : LW p l e s m below meth c b H locs (590000 + i) (7000000 + i) 530 ls [] := by
  have hL := C.hL
  have hf : 590000 + i ≤ 601024 ∧ 7000000 + i ≤ 7293034 := ⟨by omega, by omega⟩
  obtain ⟨hx, hb, hr, hml, hown, hts, hX, hbl, hlocks, hgv⟩ := C.at0
  obtain ⟨r, z1, z2, e1, e2, I2⟩ := op_prime C.sep I (xs (i + 1)) (xs (i + 2))
  refine lv_aload_n hx hb dL_law_530 rfl (lv_at hl 1 rfl) ?_
  refine lb_sl C hS (lv_at hl 0 rfl) (lv_at hl 4 rfl) 1 (by decide) (by omega) dL_law_531 dL_law_532 dL_law_534 dL_law_535 dL_law_536 ?_
  refine lb_sl C hS (lv_at hl 0 rfl) (lv_at hl 4 rfl) 2 (by decide) (by omega) dL_law_537 dL_law_538 dL_law_540 dL_law_541 dL_law_542 ?_
  refine lb_Vi (As := [.int (xs (i + 1)), .int (xs (i + 2))]) (rest := []) C hP hS (c_X7_prime l ev z C.E C.hth th (xs (i + 1)) (xs (i + 2)) r z1 e1) vm_X7_prime mw_2_229 (rc_5 C.K hP C.hth) ⟨⟨rfl, rfl⟩, by decide, by decide⟩ rfl hl.1 rfl (Nat.le_of_ble_eq_true rfl) hf dL_law_543 (fun H locs hP hS => ?_)
  refine lv_aload_n hx hb dL_law_546 rfl (lv_at hl 2 rfl) ?_
  refine lb_sl C hS (lv_at hl 0 rfl) (lv_at hl 4 rfl) 1 (by decide) (by omega) dL_law_547 dL_law_548 dL_law_550 dL_law_551 dL_law_552 ?_
  refine lb_sl C hS (lv_at hl 0 rfl) (lv_at hl 4 rfl) 2 (by decide) (by omega) dL_law_553 dL_law_554 dL_law_556 dL_law_557 dL_law_558 ?_
  refine lb_Vi (As := [.int (xs (i + 1)), .int (xs (i + 2))]) (rest := [.int r]) C hP hS (c_X8_prime l ev z1 C.E C.hmd md (xs (i + 1)) (xs (i + 2)) r z2 e2) vm_X8_prime mw_5_60 (rc_6 C.K hP C.hmd) ⟨⟨rfl, rfl⟩, by decide, by decide⟩ rfl hl.1 rfl (Nat.le_of_ble_eq_true rfl) hf dL_law_559 (fun H locs hP hS => ?_)
  exact lv_icmp_eq (tgt := 1027) hx hb dL_law_562 (by decide) (fun _ => W.widen (k := 590000 + i + 1) (n := 7000000 + i + 6) (by omega) (by omega) (nx z2 H locs ls I2 hP hS hl)) (fun c1 => absurd rfl c1)
set_option maxRecDepth 20000 in
set_option maxHeartbeats 4000000 in
theorem la_9 (C : LC p l s m meth c b L xs ev th md o) (hi : i + 6 ≤ L) (I : IV ev th md z) (hP : Wd ev z H) (hS : va_S (aZ s) s.heap H locs) (hl : lv_has ls 8 (lvs b th md o i)) (nx : NX p l e s m below meth c b ev th md o i) : LW p l e s m below meth c b H locs (590000 + i) (7000000 + i) 567 ls [] := by
  have hL := C.hL
  have hf : 590000 + i ≤ 601024 ∧ 7000000 + i ≤ 7293034 := ⟨by omega, by omega⟩
  obtain ⟨hx, hb, hr, hml, hown, hts, hX, hbl, hlocks, hgv⟩ := C.at0
  obtain ⟨r, z1, z2, e1, e2, I2⟩ := op_conductor C.sep I (xs (i + 1))
  refine lv_aload_n hx hb dL_law_567 rfl (lv_at hl 1 rfl) ?_
  refine lb_sl C hS (lv_at hl 0 rfl) (lv_at hl 4 rfl) 1 (by decide) (by omega) dL_law_568 dL_law_569 dL_law_571 dL_law_572 dL_law_573 ?_
  refine lb_Vl (As := [.int (xs (i + 1))]) (rest := []) C hP hS (c_X7_conductor l ev z C.E C.hth th (xs (i + 1)) r z1 e1) vm_X7_conductor mw_3_19 (rc_5 C.K hP C.hth) ⟨⟨rfl, rfl⟩, by decide, by decide⟩ rfl hl.1 rfl (Nat.le_of_ble_eq_true rfl) hf dL_law_574 (fun H locs hP hS => ?_)
  refine lv_aload_n hx hb dL_law_577 rfl (lv_at hl 2 rfl) ?_
  refine lb_sl C hS (lv_at hl 0 rfl) (lv_at hl 4 rfl) 1 (by decide) (by omega) dL_law_578 dL_law_579 dL_law_581 dL_law_582 dL_law_583 ?_
  refine lb_Vl (As := [.int (xs (i + 1))]) (rest := [.long r]) C hP hS (c_X8_conductor l ev z1 C.E C.hmd md (xs (i + 1)) r z2 e2) vm_X8_conductor mw_5_64 (rc_6 C.K hP C.hmd) ⟨⟨rfl, rfl⟩, by decide, by decide⟩ rfl hl.1 rfl (Nat.le_of_ble_eq_true rfl) hf dL_law_584 (fun H locs hP hS => ?_)
  exact pm_leq (tgt := 1027) C.S dL_law_587 dL_law_588 (by decide) (fun _ => W.widen (k := 590000 + i + 1) (n := 7000000 + i + 6) (by omega) (by omega) (nx z2 H locs ls I2 hP hS hl)) (fun c1 => absurd rfl c1)
set_option maxRecDepth 20000 in
set_option maxHeartbeats 4000000 in
theorem la_10 (C : LC p l s m meth c b L xs ev th md o) (hi : i + 6 ≤ L) (I : IV ev th md z) (hP : Wd ev z H) (hS : va_S (aZ s) s.heap H locs) (hl : lv_has ls 8 (lvs b th md o i)) (nx : NX p l e s m below meth c b ev th md o i) : LW p l e s m below meth c b H locs (590000 + i) (7000000 + i) 593 ls [] := by
  have hL := C.hL
  have hf : 590000 + i ≤ 601024 ∧ 7000000 + i ≤ 7293034 := ⟨by omega, by omega⟩
  obtain ⟨hx, hb, hr, hml, hown, hts, hX, hbl, hlocks, hgv⟩ := C.at0
  have ht := op_leastOf C.sep C.oo I (xs (i + 1)) (xs (i + 2))
  obtain ⟨oo, z1, z2, v, k, e0, e2, hk, e3, I2⟩ : ∃ (oo : Option Int64) (z1 z2 : PS) (v : Int64) (k : Int32), g_X7_leastOf ev z th (xs (i + 1)) (xs (i + 2)) = some oo ∧ g_X8_leastOf ev z1 md (xs (i + 1)) (xs (i + 2)) = some (v, z2) ∧ ((oo = none ∧ k = 1 ∧ z1 = z) ∨ ∃ v, oo = some v ∧ k = 0 ∧ z1 = wJ z o 0 v) ∧ (r32 z2 120 md = k ∧ (k = 0 → rJ z2 o 0 = v) ∧ (k = 0 ∨ k = 1)) ∧ IV ev th md z2 := by
    rcases ht with ⟨z1, z2, v, h1, h2, h3, h4⟩ | ⟨z1, z2, v, h1, h2, h3, h4, h5⟩
    · obtain ⟨oo, g1, g2⟩ := ob_s h1
      cases g2
      exact ⟨none, z, z2, v, 1, g1, h2, Or.inl ⟨rfl, rfl, rfl⟩, ⟨h3, fun h => absurd h (by decide), Or.inr rfl⟩, h4⟩
    · obtain ⟨oo, g1, g2⟩ := ob_s h1
      cases g2
      exact ⟨some v, wJ z o 0 v, z2, v, 0, g1, h2, Or.inr ⟨v, rfl, rfl, rfl⟩, ⟨h3, fun _ => h4, Or.inl rfl⟩, h5⟩
  obtain ⟨e4, e5, e6⟩ := e3
  refine lv_aload_n hx hb dL_law_593 rfl (lv_at hl 1 rfl) ?_
  refine lb_sl C hS (lv_at hl 0 rfl) (lv_at hl 4 rfl) 1 (by decide) (by omega) dL_law_594 dL_law_595 dL_law_597 dL_law_598 dL_law_599 ?_
  refine lb_sl C hS (lv_at hl 0 rfl) (lv_at hl 4 rfl) 2 (by decide) (by omega) dL_law_600 dL_law_601 dL_law_603 dL_law_604 dL_law_605 ?_
  refine lv_aload_n hx hb dL_law_606 rfl (lv_at hl 3 rfl) ?_
  refine lb_Sx (n := 4) (As := [.ref th, .int (xs (i + 1)), .int (xs (i + 2)), .ref o]) (rest := []) C hP hS (c_L_leastOf l C.hst ev z C.E C.hth C.ho C.hno (xs (i + 1)) (xs (i + 2)) oo e0 k z1 hk) mw_3_203 mw_3_202 mw_1_0 (by decide) (by decide) mw_3_201 (by decide) rfl hl.1 rfl (Nat.le_of_ble_eq_true rfl) ⟨by omega, by omega⟩ dL_law_607 (fun H locs hP hS => ?_)
  refine lv_istore (lv' := [(5, .int k), (0, .ref b), (1, .ref th), (2, .ref md), (3, .ref o), (4, .int (nI i))]) hx hb dL_law_610 hl (by decide) rfl (fun ls hl => ?_)
  have hf : 590000 + i + 1 ≤ 601024 ∧ 7000000 + i + 6 ≤ 7293034 := ⟨by omega, by omega⟩
  refine lv_aload_n hx hb dL_law_612 rfl (lv_at hl 3 rfl) ?_
  refine lb_sl C hS (lv_at hl 1 rfl) (lv_at hl 5 rfl) 1 (by decide) (by omega) dL_law_613 dL_law_614 dL_law_616 dL_law_617 dL_law_618 ?_
  refine lb_sl C hS (lv_at hl 1 rfl) (lv_at hl 5 rfl) 2 (by decide) (by omega) dL_law_619 dL_law_620 dL_law_622 dL_law_623 dL_law_624 ?_
  refine lb_Vl (As := [.int (xs (i + 1)), .int (xs (i + 2))]) (rest := []) C hP hS (c_X8_leastOf l ev z1 C.E C.hmd md (xs (i + 1)) (xs (i + 2)) v z2 e2) vm_X8_leastOf mw_5_48 (rc_6 C.K hP C.hmd) ⟨⟨rfl, rfl⟩, by decide, by decide⟩ rfl hl.1 rfl (Nat.le_of_ble_eq_true rfl) hf dL_law_625 (fun H locs hP hS => ?_)
  refine lv_lstore (lv' := [(6, .long v), (5, .int k), (0, .ref b), (1, .ref th), (2, .ref md), (3, .ref o), (4, .int (nI i))]) hx hb dL_law_628 hl (by decide) rfl (fun ls hl => ?_)
  refine lv_aload_n hx hb dL_law_630 rfl (lv_at hl 4 rfl) ?_
  refine lb_Vr (As := []) (rest := []) C hP hS (c_X8_thrown l ev z2 C.E C.hmd md k (by rw [← e4]; rfl)) vm_X8_thrown mw_4_31 (rc_6 C.K hP C.hmd) ⟨⟨rfl, rfl⟩, by decide, by decide⟩ rfl hl.1 rfl (Nat.le_of_ble_eq_true rfl) hf dL_law_631 ?_
  refine lv_iload hx hb dL_law_634 (lv_at hl 1 rfl) ?_
  refine lv_icmp_eq (tgt := 641) hx hb dL_law_636 (by decide) (fun _ => ?_) (fun c1 => absurd rfl c1)
  refine lv_iload hx hb dL_law_641 (lv_at hl 1 rfl) ?_
  have fin : LW p l e s m below meth c b H locs (590000 + i + 1) (7000000 + i + 6) 657 ls [] := lv_goto (tgt := 1027) hx hb dL_law_657 (by decide) (nx z2 H locs ls I2 hP hS (lv_sub hl [2, 3, 4, 5, 6] rfl))
  refine lv_if_ne (tgt := 657) hx hb dL_law_643 (by decide) (fun _ => fin) (fun c1 => ?_)
  have c1 : k = 0 := by first | exact c1 | exact Classical.byContradiction c1
  refine lv_aload_n hx hb dL_law_646 rfl (lv_at hl 5 rfl) ?_
  refine lv_iconst (v := 0) hx hb dL_law_647 (by decide) ?_
  refine al_J C.S C.K hP C.ho (by rw [C.hno]; decide) dL_law_648 ?_
  refine lv_lload hx hb dL_law_649 (lv_at hl 0 rfl) ?_
  exact pm_leq (tgt := 657) C.S dL_law_651 dL_law_652 (by decide) (fun _ => fin) (fun c2 => absurd (e5 c1) c2)
set_option maxRecDepth 20000 in
set_option maxHeartbeats 4000000 in
theorem la_11 (C : LC p l s m meth c b L xs ev th md o) (hi : i + 6 ≤ L) (I : IV ev th md z) (hP : Wd ev z H) (hS : va_S (aZ s) s.heap H locs) (hl : lv_has ls 8 (lvs b th md o i)) (nx : NX p l e s m below meth c b ev th md o i) : LW p l e s m below meth c b H locs (590000 + i) (7000000 + i) 660 ls [] := by
  have hL := C.hL
  have hf : 590000 + i ≤ 601024 ∧ 7000000 + i ≤ 7293034 := ⟨by omega, by omega⟩
  obtain ⟨hx, hb, hr, hml, hown, hts, hX, hbl, hlocks, hgv⟩ := C.at0
  obtain ⟨r, z2, e1, e2, I2⟩ := op_one C.sep I (xs (i + 1)) (xs (i + 2))
  refine lv_aload_n hx hb dL_law_660 rfl (lv_at hl 1 rfl) ?_
  refine lb_sl C hS (lv_at hl 0 rfl) (lv_at hl 4 rfl) 1 (by decide) (by omega) dL_law_661 dL_law_662 dL_law_664 dL_law_665 dL_law_666 ?_
  refine lb_sl C hS (lv_at hl 0 rfl) (lv_at hl 4 rfl) 2 (by decide) (by omega) dL_law_667 dL_law_668 dL_law_670 dL_law_671 dL_law_672 ?_
  refine lb_Vr (As := [.int (xs (i + 1)), .int (xs (i + 2))]) (rest := []) C hP hS (c_X7_one l ev z C.E C.hth th (xs (i + 1)) (xs (i + 2)) r e1) vm_X7_one mw_3_29 (rc_5 C.K hP C.hth) ⟨⟨rfl, rfl⟩, by decide, by decide⟩ rfl hl.1 rfl (Nat.le_of_ble_eq_true rfl) hf dL_law_673 ?_
  refine lv_aload_n hx hb dL_law_676 rfl (lv_at hl 2 rfl) ?_
  refine lb_sl C hS (lv_at hl 0 rfl) (lv_at hl 4 rfl) 1 (by decide) (by omega) dL_law_677 dL_law_678 dL_law_680 dL_law_681 dL_law_682 ?_
  refine lb_sl C hS (lv_at hl 0 rfl) (lv_at hl 4 rfl) 2 (by decide) (by omega) dL_law_683 dL_law_684 dL_law_686 dL_law_687 dL_law_688 ?_
  refine lb_Vi (As := [.int (xs (i + 1)), .int (xs (i + 2))]) (rest := [.int r]) C hP hS (c_X8_one l ev z C.E C.hmd md (xs (i + 1)) (xs (i + 2)) r z2 e2) vm_X8_one mw_5_77 (rc_6 C.K hP C.hmd) ⟨⟨rfl, rfl⟩, by decide, by decide⟩ rfl hl.1 rfl (Nat.le_of_ble_eq_true rfl) hf dL_law_689 (fun H locs hP hS => ?_)
  exact lv_icmp_eq (tgt := 1027) hx hb dL_law_692 (by decide) (fun _ => W.widen (k := 590000 + i + 1) (n := 7000000 + i + 6) (by omega) (by omega) (nx z2 H locs ls I2 hP hS hl)) (fun c1 => absurd rfl c1)
set_option maxRecDepth 20000 in
set_option maxHeartbeats 4000000 in
theorem la_12 (C : LC p l s m meth c b L xs ev th md o) (hi : i + 6 ≤ L) (I : IV ev th md z) (hP : Wd ev z H) (hS : va_S (aZ s) s.heap H locs) (hl : lv_has ls 8 (lvs b th md o i)) (nx : NX p l e s m below meth c b ev th md o i) : LW p l e s m below meth c b H locs (590000 + i) (7000000 + i) 697 ls [] := by
  have hL := C.hL
  have hf : 590000 + i ≤ 601024 ∧ 7000000 + i ≤ 7293034 := ⟨by omega, by omega⟩
  obtain ⟨hx, hb, hr, hml, hown, hts, hX, hbl, hlocks, hgv⟩ := C.at0
  obtain ⟨r, z1, z2, e1, e2, I2⟩ := op_points C.sep I (xs (i + 1)) (xs (i + 2))
  refine lv_aload_n hx hb dL_law_697 rfl (lv_at hl 1 rfl) ?_
  refine lb_sl C hS (lv_at hl 0 rfl) (lv_at hl 4 rfl) 1 (by decide) (by omega) dL_law_698 dL_law_699 dL_law_701 dL_law_702 dL_law_703 ?_
  refine lb_sl C hS (lv_at hl 0 rfl) (lv_at hl 4 rfl) 2 (by decide) (by omega) dL_law_704 dL_law_705 dL_law_707 dL_law_708 dL_law_709 ?_
  refine lb_Vi (As := [.int (xs (i + 1)), .int (xs (i + 2))]) (rest := []) C hP hS (c_X7_points l ev z C.E C.hth th (xs (i + 1)) (xs (i + 2)) r z1 e1) vm_X7_points mw_3_37 (rc_5 C.K hP C.hth) ⟨⟨rfl, rfl⟩, by decide, by decide⟩ rfl hl.1 rfl (Nat.le_of_ble_eq_true rfl) hf dL_law_710 (fun H locs hP hS => ?_)
  refine lv_aload_n hx hb dL_law_713 rfl (lv_at hl 2 rfl) ?_
  refine lb_sl C hS (lv_at hl 0 rfl) (lv_at hl 4 rfl) 1 (by decide) (by omega) dL_law_714 dL_law_715 dL_law_717 dL_law_718 dL_law_719 ?_
  refine lb_sl C hS (lv_at hl 0 rfl) (lv_at hl 4 rfl) 2 (by decide) (by omega) dL_law_720 dL_law_721 dL_law_723 dL_law_724 dL_law_725 ?_
  refine lb_Vi (As := [.int (xs (i + 1)), .int (xs (i + 2))]) (rest := [.int r]) C hP hS (c_X8_points l ev z1 C.E C.hmd md (xs (i + 1)) (xs (i + 2)) r z2 e2) vm_X8_points mw_5_85 (rc_6 C.K hP C.hmd) ⟨⟨rfl, rfl⟩, by decide, by decide⟩ rfl hl.1 rfl (Nat.le_of_ble_eq_true rfl) hf dL_law_726 (fun H locs hP hS => ?_)
  exact lv_icmp_eq (tgt := 1027) hx hb dL_law_729 (by decide) (fun _ => W.widen (k := 590000 + i + 1) (n := 7000000 + i + 6) (by omega) (by omega) (nx z2 H locs ls I2 hP hS hl)) (fun c1 => absurd rfl c1)
set_option maxRecDepth 20000 in
set_option maxHeartbeats 4000000 in
theorem la_13 (C : LC p l s m meth c b L xs ev th md o) (hi : i + 6 ≤ L) (I : IV ev th md z) (hP : Wd ev z H) (hS : va_S (aZ s) s.heap H locs) (hl : lv_has ls 8 (lvs b th md o i)) (nx : NX p l e s m below meth c b ev th md o i) : LW p l e s m below meth c b H locs (590000 + i) (7000000 + i) 734 ls [] := by
  have hL := C.hL
  have hf : 590000 + i ≤ 601024 ∧ 7000000 + i ≤ 7293034 := ⟨by omega, by omega⟩
  obtain ⟨hx, hb, hr, hml, hown, hts, hX, hbl, hlocks, hgv⟩ := C.at0
  obtain ⟨r, z1, z2, e1, e2, I2⟩ := op_trace C.sep I (xs (i + 1)) (xs (i + 2))
  refine lv_aload_n hx hb dL_law_734 rfl (lv_at hl 1 rfl) ?_
  refine lb_sl C hS (lv_at hl 0 rfl) (lv_at hl 4 rfl) 1 (by decide) (by omega) dL_law_735 dL_law_736 dL_law_738 dL_law_739 dL_law_740 ?_
  refine lb_sl C hS (lv_at hl 0 rfl) (lv_at hl 4 rfl) 2 (by decide) (by omega) dL_law_741 dL_law_742 dL_law_744 dL_law_745 dL_law_746 ?_
  refine lb_Vi (As := [.int (xs (i + 1)), .int (xs (i + 2))]) (rest := []) C hP hS (c_X7_trace l ev z C.E C.hth th (xs (i + 1)) (xs (i + 2)) r z1 e1) vm_X7_trace mw_3_61 (rc_5 C.K hP C.hth) ⟨⟨rfl, rfl⟩, by decide, by decide⟩ rfl hl.1 rfl (Nat.le_of_ble_eq_true rfl) hf dL_law_747 (fun H locs hP hS => ?_)
  refine lv_aload_n hx hb dL_law_750 rfl (lv_at hl 2 rfl) ?_
  refine lb_sl C hS (lv_at hl 0 rfl) (lv_at hl 4 rfl) 1 (by decide) (by omega) dL_law_751 dL_law_752 dL_law_754 dL_law_755 dL_law_756 ?_
  refine lb_sl C hS (lv_at hl 0 rfl) (lv_at hl 4 rfl) 2 (by decide) (by omega) dL_law_757 dL_law_758 dL_law_760 dL_law_761 dL_law_762 ?_
  refine lb_Vi (As := [.int (xs (i + 1)), .int (xs (i + 2))]) (rest := [.int r]) C hP hS (c_X8_trace l ev z1 C.E C.hmd md (xs (i + 1)) (xs (i + 2)) r z2 e2) vm_X8_trace mw_5_97 (rc_6 C.K hP C.hmd) ⟨⟨rfl, rfl⟩, by decide, by decide⟩ rfl hl.1 rfl (Nat.le_of_ble_eq_true rfl) hf dL_law_763 (fun H locs hP hS => ?_)
  exact lv_icmp_eq (tgt := 1027) hx hb dL_law_766 (by decide) (fun _ => W.widen (k := 590000 + i + 1) (n := 7000000 + i + 6) (by omega) (by omega) (nx z2 H locs ls I2 hP hS hl)) (fun c1 => absurd rfl c1)
set_option maxRecDepth 20000 in
set_option maxHeartbeats 4000000 in
theorem la_14 (C : LC p l s m meth c b L xs ev th md o) (hi : i + 6 ≤ L) (I : IV ev th md z) (hP : Wd ev z H) (hS : va_S (aZ s) s.heap H locs) (hl : lv_has ls 8 (lvs b th md o i)) (nx : NX p l e s m below meth c b ev th md o i) : LW p l e s m below meth c b H locs (590000 + i) (7000000 + i) 771 ls [] := by
  have hL := C.hL
  have hf : 590000 + i ≤ 601024 ∧ 7000000 + i ≤ 7293034 := ⟨by omega, by omega⟩
  obtain ⟨hx, hb, hr, hml, hown, hts, hX, hbl, hlocks, hgv⟩ := C.at0
  obtain ⟨r, z1, z2, e1, e2, I2⟩ := op_own C.sep I (xs (i + 1))
  refine lv_aload_n hx hb dL_law_771 rfl (lv_at hl 1 rfl) ?_
  refine lb_sl C hS (lv_at hl 0 rfl) (lv_at hl 4 rfl) 1 (by decide) (by omega) dL_law_772 dL_law_773 dL_law_775 dL_law_776 dL_law_777 ?_
  refine lb_Vl (As := [.int (xs (i + 1))]) (rest := []) C hP hS (c_X7_own l ev z C.E C.hth th (xs (i + 1)) r z1 e1) vm_X7_own mw_3_65 (rc_5 C.K hP C.hth) ⟨⟨rfl, rfl⟩, by decide, by decide⟩ rfl hl.1 rfl (Nat.le_of_ble_eq_true rfl) hf dL_law_778 (fun H locs hP hS => ?_)
  refine lv_aload_n hx hb dL_law_781 rfl (lv_at hl 2 rfl) ?_
  refine lb_sl C hS (lv_at hl 0 rfl) (lv_at hl 4 rfl) 1 (by decide) (by omega) dL_law_782 dL_law_783 dL_law_785 dL_law_786 dL_law_787 ?_
  refine lb_Vl (As := [.int (xs (i + 1))]) (rest := [.long r]) C hP hS (c_X8_own l ev z1 C.E C.hmd md (xs (i + 1)) r z2 e2) vm_X8_own mw_5_72 (rc_6 C.K hP C.hmd) ⟨⟨rfl, rfl⟩, by decide, by decide⟩ rfl hl.1 rfl (Nat.le_of_ble_eq_true rfl) hf dL_law_788 (fun H locs hP hS => ?_)
  exact pm_leq (tgt := 1027) C.S dL_law_791 dL_law_792 (by decide) (fun _ => W.widen (k := 590000 + i + 1) (n := 7000000 + i + 6) (by omega) (by omega) (nx z2 H locs ls I2 hP hS hl)) (fun c1 => absurd rfl c1)
set_option maxRecDepth 20000 in
set_option maxHeartbeats 4000000 in
theorem la_15 (C : LC p l s m meth c b L xs ev th md o) (hi : i + 6 ≤ L) (I : IV ev th md z) (hP : Wd ev z H) (hS : va_S (aZ s) s.heap H locs) (hl : lv_has ls 8 (lvs b th md o i)) (nx : NX p l e s m below meth c b ev th md o i) : LW p l e s m below meth c b H locs (590000 + i) (7000000 + i) 797 ls [] := by
  have hL := C.hL
  have hf : 590000 + i ≤ 601024 ∧ 7000000 + i ≤ 7293034 := ⟨by omega, by omega⟩
  obtain ⟨hx, hb, hr, hml, hown, hts, hX, hbl, hlocks, hgv⟩ := C.at0
  obtain ⟨r, z1, z2, e1, e2, I2⟩ := op_best C.sep I (xs (i + 1))
  refine lv_aload_n hx hb dL_law_797 rfl (lv_at hl 1 rfl) ?_
  refine lb_sl C hS (lv_at hl 0 rfl) (lv_at hl 4 rfl) 1 (by decide) (by omega) dL_law_798 dL_law_799 dL_law_801 dL_law_802 dL_law_803 ?_
  refine lb_Vi (As := [.int (xs (i + 1))]) (rest := []) C hP hS (c_X7_best l ev z C.E C.hth th (xs (i + 1)) r z1 e1) vm_X7_best mw_3_70 (rc_5 C.K hP C.hth) ⟨⟨rfl, rfl⟩, by decide, by decide⟩ rfl hl.1 rfl (Nat.le_of_ble_eq_true rfl) hf dL_law_804 (fun H locs hP hS => ?_)
  refine lv_aload_n hx hb dL_law_807 rfl (lv_at hl 2 rfl) ?_
  refine lb_sl C hS (lv_at hl 0 rfl) (lv_at hl 4 rfl) 1 (by decide) (by omega) dL_law_808 dL_law_809 dL_law_811 dL_law_812 dL_law_813 ?_
  refine lb_Vi (As := [.int (xs (i + 1))]) (rest := [.int r]) C hP hS (c_X8_best l ev z1 C.E C.hmd md (xs (i + 1)) r z2 e2) vm_X8_best mw_5_101 (rc_6 C.K hP C.hmd) ⟨⟨rfl, rfl⟩, by decide, by decide⟩ rfl hl.1 rfl (Nat.le_of_ble_eq_true rfl) hf dL_law_814 (fun H locs hP hS => ?_)
  exact lv_icmp_eq (tgt := 1027) hx hb dL_law_817 (by decide) (fun _ => W.widen (k := 590000 + i + 1) (n := 7000000 + i + 6) (by omega) (by omega) (nx z2 H locs ls I2 hP hS hl)) (fun c1 => absurd rfl c1)
set_option maxRecDepth 20000 in
set_option maxHeartbeats 4000000 in
theorem la_16 (C : LC p l s m meth c b L xs ev th md o) (hi : i + 6 ≤ L) (I : IV ev th md z) (hP : Wd ev z H) (hS : va_S (aZ s) s.heap H locs) (hl : lv_has ls 8 (lvs b th md o i)) (nx : NX p l e s m below meth c b ev th md o i) : LW p l e s m below meth c b H locs (590000 + i) (7000000 + i) 822 ls [] := by
  have hL := C.hL
  have hf : 590000 + i ≤ 601024 ∧ 7000000 + i ≤ 7293034 := ⟨by omega, by omega⟩
  obtain ⟨hx, hb, hr, hml, hown, hts, hX, hbl, hlocks, hgv⟩ := C.at0
  obtain ⟨r, z1, z2, e1, e2, I2⟩ := op_twisted C.sep I (xs (i + 1)) (xs (i + 2))
  refine lv_aload_n hx hb dL_law_822 rfl (lv_at hl 1 rfl) ?_
  refine lb_sl C hS (lv_at hl 0 rfl) (lv_at hl 4 rfl) 1 (by decide) (by omega) dL_law_823 dL_law_824 dL_law_826 dL_law_827 dL_law_828 ?_
  refine lb_sl C hS (lv_at hl 0 rfl) (lv_at hl 4 rfl) 2 (by decide) (by omega) dL_law_829 dL_law_830 dL_law_832 dL_law_833 dL_law_834 ?_
  refine lb_Vl (As := [.int (xs (i + 1)), .int (xs (i + 2))]) (rest := []) C hP hS (c_X7_twisted l ev z C.E C.hth th (xs (i + 1)) (xs (i + 2)) r z1 e1) vm_X7_twisted mw_3_78 (rc_5 C.K hP C.hth) ⟨⟨rfl, rfl⟩, by decide, by decide⟩ rfl hl.1 rfl (Nat.le_of_ble_eq_true rfl) hf dL_law_835 (fun H locs hP hS => ?_)
  refine lv_aload_n hx hb dL_law_838 rfl (lv_at hl 2 rfl) ?_
  refine lb_sl C hS (lv_at hl 0 rfl) (lv_at hl 4 rfl) 1 (by decide) (by omega) dL_law_839 dL_law_840 dL_law_842 dL_law_843 dL_law_844 ?_
  refine lb_sl C hS (lv_at hl 0 rfl) (lv_at hl 4 rfl) 2 (by decide) (by omega) dL_law_845 dL_law_846 dL_law_848 dL_law_849 dL_law_850 ?_
  refine lb_Vl (As := [.int (xs (i + 1)), .int (xs (i + 2))]) (rest := [.long r]) C hP hS (c_X8_twisted l ev z1 C.E C.hmd md (xs (i + 1)) (xs (i + 2)) r z2 e2) vm_X8_twisted mw_5_105 (rc_6 C.K hP C.hmd) ⟨⟨rfl, rfl⟩, by decide, by decide⟩ rfl hl.1 rfl (Nat.le_of_ble_eq_true rfl) hf dL_law_851 (fun H locs hP hS => ?_)
  exact pm_leq (tgt := 1027) C.S dL_law_854 dL_law_855 (by decide) (fun _ => W.widen (k := 590000 + i + 1) (n := 7000000 + i + 6) (by omega) (by omega) (nx z2 H locs ls I2 hP hS hl)) (fun c1 => absurd rfl c1)
set_option maxRecDepth 20000 in
set_option maxHeartbeats 4000000 in
theorem la_17 (C : LC p l s m meth c b L xs ev th md o) (hi : i + 6 ≤ L) (I : IV ev th md z) (hP : Wd ev z H) (hS : va_S (aZ s) s.heap H locs) (hl : lv_has ls 8 (lvs b th md o i)) (nx : NX p l e s m below meth c b ev th md o i) : LW p l e s m below meth c b H locs (590000 + i) (7000000 + i) 860 ls [] := by
  have hL := C.hL
  have hf : 590000 + i ≤ 601024 ∧ 7000000 + i ≤ 7293034 := ⟨by omega, by omega⟩
  obtain ⟨hx, hb, hr, hml, hown, hts, hX, hbl, hlocks, hgv⟩ := C.at0
  obtain ⟨r, z1, z2, e1, e2, I2⟩ := op_small C.sep I (xs (i + 1))
  refine lv_aload_n hx hb dL_law_860 rfl (lv_at hl 1 rfl) ?_
  refine lb_sl C hS (lv_at hl 0 rfl) (lv_at hl 4 rfl) 1 (by decide) (by omega) dL_law_861 dL_law_862 dL_law_864 dL_law_865 dL_law_866 ?_
  refine lb_Vi (As := [.int (xs (i + 1))]) (rest := []) C hP hS (c_X7_small l ev z C.E C.hth th (xs (i + 1)) r z1 e1) vm_X7_small mw_3_82 (rc_5 C.K hP C.hth) ⟨⟨rfl, rfl⟩, by decide, by decide⟩ rfl hl.1 rfl (Nat.le_of_ble_eq_true rfl) hf dL_law_867 (fun H locs hP hS => ?_)
  refine lv_aload_n hx hb dL_law_870 rfl (lv_at hl 2 rfl) ?_
  refine lb_sl C hS (lv_at hl 0 rfl) (lv_at hl 4 rfl) 1 (by decide) (by omega) dL_law_871 dL_law_872 dL_law_874 dL_law_875 dL_law_876 ?_
  refine lb_Vi (As := [.int (xs (i + 1))]) (rest := [.int r]) C hP hS (c_X8_small l ev z1 C.E C.hmd md (xs (i + 1)) r z2 e2) vm_X8_small mw_5_109 (rc_6 C.K hP C.hmd) ⟨⟨rfl, rfl⟩, by decide, by decide⟩ rfl hl.1 rfl (Nat.le_of_ble_eq_true rfl) hf dL_law_877 (fun H locs hP hS => ?_)
  exact lv_icmp_eq (tgt := 1027) hx hb dL_law_880 (by decide) (fun _ => W.widen (k := 590000 + i + 1) (n := 7000000 + i + 6) (by omega) (by omega) (nx z2 H locs ls I2 hP hS hl)) (fun c1 => absurd rfl c1)
set_option maxRecDepth 20000 in
set_option maxHeartbeats 4000000 in
theorem la_18 (C : LC p l s m meth c b L xs ev th md o) (hi : i + 6 ≤ L) (I : IV ev th md z) (hP : Wd ev z H) (hS : va_S (aZ s) s.heap H locs) (hl : lv_has ls 8 (lvs b th md o i)) (nx : NX p l e s m below meth c b ev th md o i) : LW p l e s m below meth c b H locs (590000 + i) (7000000 + i) 885 ls [] := by
  have hL := C.hL
  have hf : 590000 + i ≤ 601024 ∧ 7000000 + i ≤ 7293034 := ⟨by omega, by omega⟩
  obtain ⟨hx, hb, hr, hml, hown, hts, hX, hbl, hlocks, hgv⟩ := C.at0
  have ht := op_point C.sep C.oo I (xs (i + 1)) (xs (i + 2)) (xs (i + 3))
  obtain ⟨oo, y1, z1, z2, v, k, e0, e2, hk, e3, I2⟩ : ∃ (oo : Option Int32) (y1 z1 z2 : PS) (v : Int32) (k : Int32), g_X7_point ev z th (xs (i + 1)) (xs (i + 2)) (xs (i + 3)) = some (oo, y1) ∧ g_X8_point ev z1 md (xs (i + 1)) (xs (i + 2)) (xs (i + 3)) = some (v, z2) ∧ ((oo = none ∧ k = 1 ∧ z1 = y1) ∨ ∃ v, oo = some v ∧ k = 0 ∧ z1 = wJ y1 o 0 v.toInt64) ∧ (r32 z2 120 md = k ∧ (k = 0 → rJ z2 o 0 = v.toInt64) ∧ (k = 0 ∨ k = 1)) ∧ IV ev th md z2 := by
    rcases ht with ⟨z1, z2, v, h1, h2, h3, h4⟩ | ⟨z1, z2, v, h1, h2, h3, h4, h5⟩
    · exact ⟨none, z1, z1, z2, v, 1, h1, h2, Or.inl ⟨rfl, rfl, rfl⟩, ⟨h3, fun h => absurd h (by decide), Or.inr rfl⟩, h4⟩
    · exact ⟨some v, z1, wJ z1 o 0 v.toInt64, z2, v, 0, h1, h2, Or.inr ⟨v, rfl, rfl, rfl⟩, ⟨h3, fun _ => h4, Or.inl rfl⟩, h5⟩
  obtain ⟨e4, e5, e6⟩ := e3
  refine lv_aload_n hx hb dL_law_885 rfl (lv_at hl 1 rfl) ?_
  refine lb_sl C hS (lv_at hl 0 rfl) (lv_at hl 4 rfl) 1 (by decide) (by omega) dL_law_886 dL_law_887 dL_law_889 dL_law_890 dL_law_891 ?_
  refine lb_sl C hS (lv_at hl 0 rfl) (lv_at hl 4 rfl) 2 (by decide) (by omega) dL_law_892 dL_law_893 dL_law_895 dL_law_896 dL_law_897 ?_
  refine lb_sl C hS (lv_at hl 0 rfl) (lv_at hl 4 rfl) 3 (by decide) (by omega) dL_law_898 dL_law_899 dL_law_901 dL_law_902 dL_law_903 ?_
  refine lv_aload_n hx hb dL_law_904 rfl (lv_at hl 3 rfl) ?_
  refine lb_Sx (n := 5) (As := [.ref th, .int (xs (i + 1)), .int (xs (i + 2)), .int (xs (i + 3)), .ref o]) (rest := []) C hP hS (c_L_point l C.hst ev z C.E C.hth C.ho C.hno (xs (i + 1)) (xs (i + 2)) (xs (i + 3)) oo y1 e0 k z1 hk) mw_3_210 mw_3_209 mw_1_0 (by decide) (by decide) mw_3_208 (by decide) rfl hl.1 rfl (Nat.le_of_ble_eq_true rfl) ⟨by omega, by omega⟩ dL_law_905 (fun H locs hP hS => ?_)
  refine lv_istore (lv' := [(5, .int k), (0, .ref b), (1, .ref th), (2, .ref md), (3, .ref o), (4, .int (nI i))]) hx hb dL_law_908 hl (by decide) rfl (fun ls hl => ?_)
  have hf : 590000 + i + 1 ≤ 601024 ∧ 7000000 + i + 6 ≤ 7293034 := ⟨by omega, by omega⟩
  refine lv_aload_n hx hb dL_law_910 rfl (lv_at hl 3 rfl) ?_
  refine lb_sl C hS (lv_at hl 1 rfl) (lv_at hl 5 rfl) 1 (by decide) (by omega) dL_law_911 dL_law_912 dL_law_914 dL_law_915 dL_law_916 ?_
  refine lb_sl C hS (lv_at hl 1 rfl) (lv_at hl 5 rfl) 2 (by decide) (by omega) dL_law_917 dL_law_918 dL_law_920 dL_law_921 dL_law_922 ?_
  refine lb_sl C hS (lv_at hl 1 rfl) (lv_at hl 5 rfl) 3 (by decide) (by omega) dL_law_923 dL_law_924 dL_law_926 dL_law_927 dL_law_928 ?_
  refine lb_Vi (As := [.int (xs (i + 1)), .int (xs (i + 2)), .int (xs (i + 3))]) (rest := []) C hP hS (c_X8_point l ev z1 C.E C.hmd md (xs (i + 1)) (xs (i + 2)) (xs (i + 3)) v z2 e2) vm_X8_point mw_5_127 (rc_6 C.K hP C.hmd) ⟨⟨rfl, rfl⟩, by decide, by decide⟩ rfl hl.1 rfl (Nat.le_of_ble_eq_true rfl) hf dL_law_929 (fun H locs hP hS => ?_)
  refine lv_istore (lv' := [(6, .int v), (5, .int k), (0, .ref b), (1, .ref th), (2, .ref md), (3, .ref o), (4, .int (nI i))]) hx hb dL_law_932 hl (by decide) rfl (fun ls hl => ?_)
  refine lv_aload_n hx hb dL_law_934 rfl (lv_at hl 4 rfl) ?_
  refine lb_Vr (As := []) (rest := []) C hP hS (c_X8_thrown l ev z2 C.E C.hmd md k (by rw [← e4]; rfl)) vm_X8_thrown mw_4_31 (rc_6 C.K hP C.hmd) ⟨⟨rfl, rfl⟩, by decide, by decide⟩ rfl hl.1 rfl (Nat.le_of_ble_eq_true rfl) hf dL_law_935 ?_
  refine lv_iload hx hb dL_law_938 (lv_at hl 1 rfl) ?_
  refine lv_icmp_eq (tgt := 945) hx hb dL_law_940 (by decide) (fun _ => ?_) (fun c1 => absurd rfl c1)
  refine lv_iload hx hb dL_law_945 (lv_at hl 1 rfl) ?_
  have fin : LW p l e s m below meth c b H locs (590000 + i + 1) (7000000 + i + 6) 962 ls [] := lv_goto (tgt := 1027) hx hb dL_law_962 (by decide) (nx z2 H locs ls I2 hP hS (lv_sub hl [2, 3, 4, 5, 6] rfl))
  refine lv_if_ne (tgt := 962) hx hb dL_law_947 (by decide) (fun _ => fin) (fun c1 => ?_)
  have c1 : k = 0 := by first | exact c1 | exact Classical.byContradiction c1
  refine lv_aload_n hx hb dL_law_950 rfl (lv_at hl 5 rfl) ?_
  refine lv_iconst (v := 0) hx hb dL_law_951 (by decide) ?_
  refine al_J C.S C.K hP C.ho (by rw [C.hno]; decide) dL_law_952 ?_
  refine lv_iload hx hb dL_law_953 (lv_at hl 0 rfl) ?_
  refine lv_i2l hx hb dL_law_955 rfl ?_
  exact pm_leq (tgt := 962) C.S dL_law_956 dL_law_957 (by decide) (fun _ => fin) (fun c2 => absurd (e5 c1) c2)
set_option maxRecDepth 20000 in
set_option maxHeartbeats 4000000 in
theorem la_19 (C : LC p l s m meth c b L xs ev th md o) (hi : i + 6 ≤ L) (I : IV ev th md z) (hP : Wd ev z H) (hS : va_S (aZ s) s.heap H locs) (hl : lv_has ls 8 (lvs b th md o i)) (nx : NX p l e s m below meth c b ev th md o i) : LW p l e s m below meth c b H locs (590000 + i) (7000000 + i) 965 ls [] := by
  have hL := C.hL
  have hf : 590000 + i ≤ 601024 ∧ 7000000 + i ≤ 7293034 := ⟨by omega, by omega⟩
  obtain ⟨hx, hb, hr, hml, hown, hts, hX, hbl, hlocks, hgv⟩ := C.at0
  obtain ⟨r, z1, z2, e1, e2, I2⟩ := op_minus C.sep I (xs (i + 1)) (xs (i + 2))
  refine lv_aload_n hx hb dL_law_965 rfl (lv_at hl 1 rfl) ?_
  refine lb_sl C hS (lv_at hl 0 rfl) (lv_at hl 4 rfl) 1 (by decide) (by omega) dL_law_966 dL_law_967 dL_law_969 dL_law_970 dL_law_971 ?_
  refine lb_sl C hS (lv_at hl 0 rfl) (lv_at hl 4 rfl) 2 (by decide) (by omega) dL_law_972 dL_law_973 dL_law_975 dL_law_976 dL_law_977 ?_
  refine lb_Vi (As := [.int (xs (i + 1)), .int (xs (i + 2))]) (rest := []) C hP hS (c_X7_minus l ev z C.E C.hth th (xs (i + 1)) (xs (i + 2)) r z1 e1) vm_X7_minus mw_3_104 (rc_5 C.K hP C.hth) ⟨⟨rfl, rfl⟩, by decide, by decide⟩ rfl hl.1 rfl (Nat.le_of_ble_eq_true rfl) hf dL_law_978 (fun H locs hP hS => ?_)
  refine lv_aload_n hx hb dL_law_981 rfl (lv_at hl 2 rfl) ?_
  refine lb_sl C hS (lv_at hl 0 rfl) (lv_at hl 4 rfl) 1 (by decide) (by omega) dL_law_982 dL_law_983 dL_law_985 dL_law_986 dL_law_987 ?_
  refine lb_sl C hS (lv_at hl 0 rfl) (lv_at hl 4 rfl) 2 (by decide) (by omega) dL_law_988 dL_law_989 dL_law_991 dL_law_992 dL_law_993 ?_
  refine lb_Vi (As := [.int (xs (i + 1)), .int (xs (i + 2))]) (rest := [.int r]) C hP hS (c_X8_minus l ev z1 C.E C.hmd md (xs (i + 1)) (xs (i + 2)) r z2 e2) vm_X8_minus mw_5_131 (rc_6 C.K hP C.hmd) ⟨⟨rfl, rfl⟩, by decide, by decide⟩ rfl hl.1 rfl (Nat.le_of_ble_eq_true rfl) hf dL_law_994 (fun H locs hP hS => ?_)
  exact lv_icmp_eq (tgt := 1027) hx hb dL_law_997 (by decide) (fun _ => W.widen (k := 590000 + i + 1) (n := 7000000 + i + 6) (by omega) (by omega) (nx z2 H locs ls I2 hP hS hl)) (fun c1 => absurd rfl c1)
set_option maxRecDepth 20000 in
set_option maxHeartbeats 4000000 in
theorem la_20 (C : LC p l s m meth c b L xs ev th md o) (hi : i + 6 ≤ L) (I : IV ev th md z) (hP : Wd ev z H) (hS : va_S (aZ s) s.heap H locs) (hl : lv_has ls 8 (lvs b th md o i)) (nx : NX p l e s m below meth c b ev th md o i) : LW p l e s m below meth c b H locs (590000 + i) (7000000 + i) 1002 ls [] := by
  have hL := C.hL
  have hf : 590000 + i ≤ 601024 ∧ 7000000 + i ≤ 7293034 := ⟨by omega, by omega⟩
  obtain ⟨hx, hb, hr, hml, hown, hts, hX, hbl, hlocks, hgv⟩ := C.at0
  obtain ⟨r, z2, e1, e2, I2⟩ := op_count C.sep I (xs (i + 1))
  refine lv_aload_n hx hb dL_law_1002 rfl (lv_at hl 1 rfl) ?_
  refine lb_sl C hS (lv_at hl 0 rfl) (lv_at hl 4 rfl) 1 (by decide) (by omega) dL_law_1003 dL_law_1004 dL_law_1006 dL_law_1007 dL_law_1008 ?_
  refine lb_Vr (As := [.int (xs (i + 1))]) (rest := []) C hP hS (c_X7_count l ev z C.E C.hth th (xs (i + 1)) r e1) vm_X7_count mw_3_116 (rc_5 C.K hP C.hth) ⟨⟨rfl, rfl⟩, by decide, by decide⟩ rfl hl.1 rfl (Nat.le_of_ble_eq_true rfl) hf dL_law_1009 ?_
  refine lv_aload_n hx hb dL_law_1012 rfl (lv_at hl 2 rfl) ?_
  refine lb_sl C hS (lv_at hl 0 rfl) (lv_at hl 4 rfl) 1 (by decide) (by omega) dL_law_1013 dL_law_1014 dL_law_1016 dL_law_1017 dL_law_1018 ?_
  refine lb_Vi (As := [.int (xs (i + 1))]) (rest := [.int r]) C hP hS (c_X8_count l ev z C.E C.hmd md (xs (i + 1)) r z2 e2) vm_X8_count mw_5_135 (rc_6 C.K hP C.hmd) ⟨⟨rfl, rfl⟩, by decide, by decide⟩ rfl hl.1 rfl (Nat.le_of_ble_eq_true rfl) hf dL_law_1019 (fun H locs hP hS => ?_)
  exact lv_icmp_eq (tgt := 1027) hx hb dL_law_1022 (by decide) (fun _ => W.widen (k := 590000 + i + 1) (n := 7000000 + i + 6) (by omega) (by omega) (nx z2 H locs ls I2 hP hS hl)) (fun c1 => absurd rfl c1)
end LA
