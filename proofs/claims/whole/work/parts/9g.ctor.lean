/-! constructors: the rows, and the six that run straight on -/
theorem iw_0 : Cond.instanceMethod objectInit ∈ gT := gT_1 (List.mem_of_getElem? (i := 21) rfl) rfl
theorem iw_1 : Cond.code objectInit ⟨#[177]⟩ 1 none ∈ gT := gT_1 (List.mem_of_getElem? (i := 22) rfl) rfl
theorem iw_2 : Cond.arrayClass .int ∈ gT := gT_1 (List.mem_of_getElem? (i := 104) rfl) rfl
theorem iw_3 : Cond.arrayClass .long ∈ gT := gT_4 (List.mem_of_getElem? (i := 30) rfl) rfl
theorem iw_4 : Cond.instantiable RX0 12 ∈ gT := gT_1 (List.mem_of_getElem? (i := 31) rfl) rfl
theorem iw_5 : Cond.initialized RX0 ∈ gT := gT_1 (List.mem_of_getElem? (i := 3) rfl) rfl
theorem iw_6 : Cond.instanceMethod yX0_init ∈ gT := gT_1 (List.mem_of_getElem? (i := 33) rfl) rfl
theorem iw_7 : Cond.code yX0_init cX0_init 1 none ∈ gT := gT_1 (List.mem_of_getElem? (i := 34) rfl) rfl
theorem iw_8 : Cond.instantiable RX1 9 ∈ gT := gT_1 (List.mem_of_getElem? (i := 127) rfl) rfl
theorem iw_9 : Cond.initialized RX1 ∈ gT := gT_1 (List.mem_of_getElem? (i := 5) rfl) rfl
theorem iw_10 : Cond.instanceMethod yX1_init ∈ gT := gT_1 (List.mem_of_getElem? (i := 129) rfl) rfl
theorem iw_11 : Cond.code yX1_init cX1_init 1 none ∈ gT := gT_1 (List.mem_of_getElem? (i := 130) rfl) rfl
theorem iw_12 : Cond.instantiable RX2 5 ∈ gT := gT_1 (List.mem_of_getElem? (i := 25) rfl) rfl
theorem iw_13 : Cond.initialized RX2 ∈ gT := gT_1 (List.mem_of_getElem? (i := 2) rfl) rfl
theorem iw_14 : Cond.instanceMethod yX2_init ∈ gT := gT_1 (List.mem_of_getElem? (i := 27) rfl) rfl
theorem iw_15 : Cond.code yX2_init cX2_init 1 none ∈ gT := gT_1 (List.mem_of_getElem? (i := 28) rfl) rfl
theorem iw_16 : Cond.instantiable RX5 2 ∈ gT := gT_1 (List.mem_of_getElem? (i := 91) rfl) rfl
theorem iw_17 : Cond.initialized RX5 ∈ gT := gT_1 (List.mem_of_getElem? (i := 4) rfl) rfl
theorem iw_18 : Cond.instanceMethod yX5_init ∈ gT := gT_1 (List.mem_of_getElem? (i := 93) rfl) rfl
theorem iw_19 : Cond.code yX5_init cX5_init 1 none ∈ gT := gT_1 (List.mem_of_getElem? (i := 94) rfl) rfl
theorem iw_20 : Cond.instantiable RX6 3 ∈ gT := gT_1 (List.mem_of_getElem? (i := 167) rfl) rfl
theorem iw_21 : Cond.initialized RX6 ∈ gT := gT_1 (List.mem_of_getElem? (i := 6) rfl) rfl
theorem iw_22 : Cond.instanceMethod yX6_init ∈ gT := gT_1 (List.mem_of_getElem? (i := 169) rfl) rfl
theorem iw_23 : Cond.code yX6_init cX6_init 1 none ∈ gT := gT_1 (List.mem_of_getElem? (i := 170) rfl) rfl
theorem iw_24 : Cond.instantiable RX7 7 ∈ gT := gT_1 (List.mem_of_getElem? (i := 16) rfl) rfl
theorem iw_25 : Cond.initialized RX7 ∈ gT := gT_1 (List.mem_of_getElem? (i := 1) rfl) rfl
theorem iw_26 : Cond.instanceMethod yX7_init ∈ gT := gT_1 (List.mem_of_getElem? (i := 18) rfl) rfl
theorem iw_27 : Cond.code yX7_init cX7_init 2 none ∈ gT := gT_1 (List.mem_of_getElem? (i := 19) rfl) rfl
theorem iw_28 : Cond.instantiable RX8 16 ∈ gT := gT_3 (List.mem_of_getElem? (i := 216) rfl) rfl
theorem iw_29 : Cond.initialized RX8 ∈ gT := gT_1 (List.mem_of_getElem? (i := 7) rfl) rfl
theorem iw_30 : Cond.instanceMethod yX8_init ∈ gT := gT_3 (List.mem_of_getElem? (i := 218) rfl) rfl
theorem iw_31 : Cond.code yX8_init cX8_init 1 none ∈ gT := gT_3 (List.mem_of_getElem? (i := 219) rfl) rfl
theorem iw_32 : Cond.methodLink RX7 1 objectInit ∈ gT := gT_1 (List.mem_of_getElem? (i := 20) rfl) rfl
theorem iw_33 : Cond.classLink RX7 9 RX2 ∈ gT := gT_1 (List.mem_of_getElem? (i := 23) rfl) rfl
theorem iw_34 : Cond.fieldLink RX7 11 "CurveFalls" "held" "[LCurveFalls$Held;" ∈ gT := gT_1 (List.mem_of_getElem? (i := 185) rfl) rfl
theorem iw_35 : Cond.methodLink RX7 15 yX2_init ∈ gT := gT_1 (List.mem_of_getElem? (i := 26) rfl) rfl
theorem iw_36 : Cond.fieldLink RX7 16 "CurveFalls" "size" "I" ∈ gT := gT_1 (List.mem_of_getElem? (i := 186) rfl) rfl
theorem iw_37 : Cond.classLink RX7 20 RX0 ∈ gT := gT_1 (List.mem_of_getElem? (i := 124) rfl) rfl
theorem iw_38 : Cond.methodLink RX7 22 yX0_init ∈ gT := gT_1 (List.mem_of_getElem? (i := 125) rfl) rfl
theorem iw_39 : Cond.fieldLink RX7 23 "CurveFalls" "draft" "LCurveFalls$Equation;" ∈ gT := gT_1 (List.mem_of_getElem? (i := 187) rfl) rfl
theorem iw_40 : Cond.classLink RX7 27 RX1 ∈ gT := gT_1 (List.mem_of_getElem? (i := 126) rfl) rfl
theorem iw_41 : Cond.methodLink RX7 29 yX1_init ∈ gT := gT_1 (List.mem_of_getElem? (i := 128) rfl) rfl
theorem iw_42 : Cond.fieldLink RX7 30 "CurveFalls" "fall" "LCurveFalls$Fall;" ∈ gT := gT_1 (List.mem_of_getElem? (i := 188) rfl) rfl
theorem iw_43 : Cond.classLink RX7 34 RX6 ∈ gT := gT_1 (List.mem_of_getElem? (i := 166) rfl) rfl
theorem iw_44 : Cond.methodLink RX7 36 yX6_init ∈ gT := gT_1 (List.mem_of_getElem? (i := 168) rfl) rfl
theorem iw_45 : Cond.fieldLink RX7 37 "CurveFalls" "smallPoints" "LCurveFalls$SmallPoints;" ∈ gT := gT_1 (List.mem_of_getElem? (i := 189) rfl) rfl
theorem iw_46 : Cond.fieldLink RX7 41 "CurveFalls" "smallPointsOf" "I" ∈ gT := gT_1 (List.mem_of_getElem? (i := 190) rfl) rfl
theorem iw_47 : Cond.fieldLink RX7 44 "CurveFalls" "squareRoots" "[I" ∈ gT := gT_1 (List.mem_of_getElem? (i := 191) rfl) rfl
theorem iw_48 : Cond.methodLink RX8 1 objectInit ∈ gT := gT_3 (List.mem_of_getElem? (i := 220) rfl) rfl
theorem iw_49 : Cond.fieldLink RX8 7 "CurveFallsModel" "told" "[J" ∈ gT := gT_3 (List.mem_of_getElem? (i := 223) rfl) rfl
theorem iw_50 : Cond.fieldLink RX8 13 "CurveFallsModel" "a" "[J" ∈ gT := gT_3 (List.mem_of_getElem? (i := 224) rfl) rfl
theorem iw_51 : Cond.fieldLink RX8 16 "CurveFallsModel" "least" "[J" ∈ gT := gT_3 (List.mem_of_getElem? (i := 225) rfl) rfl
theorem iw_52 : Cond.fieldLink RX8 19 "CurveFallsModel" "prime" "[J" ∈ gT := gT_3 (List.mem_of_getElem? (i := 226) rfl) rfl
theorem iw_53 : Cond.fieldLink RX8 22 "CurveFallsModel" "at" "[I" ∈ gT := gT_3 (List.mem_of_getElem? (i := 228) rfl) rfl
theorem iw_54 : Cond.fieldLink RX8 26 "CurveFallsModel" "kept" "[J" ∈ gT := gT_3 (List.mem_of_getElem? (i := 230) rfl) rfl
theorem iw_55 : Cond.fieldLink RX8 29 "CurveFallsModel" "whole" "[J" ∈ gT := gT_3 (List.mem_of_getElem? (i := 232) rfl) rfl
theorem iw_56 : Cond.fieldLink RX8 32 "CurveFallsModel" "first" "[J" ∈ gT := gT_3 (List.mem_of_getElem? (i := 233) rfl) rfl
theorem iw_57 : Cond.fieldLink RX8 35 "CurveFallsModel" "twist" "[I" ∈ gT := gT_3 (List.mem_of_getElem? (i := 234) rfl) rfl
theorem iw_58 : Cond.fieldLink RX8 38 "CurveFallsModel" "point" "[J" ∈ gT := gT_3 (List.mem_of_getElem? (i := 235) rfl) rfl
theorem iw_59 : Cond.methodLink RX0 3 objectInit ∈ gT := gT_1 (List.mem_of_getElem? (i := 35) rfl) rfl
theorem iw_60 : Cond.methodLink RX1 3 objectInit ∈ gT := gT_1 (List.mem_of_getElem? (i := 131) rfl) rfl
theorem iw_61 : Cond.fieldLink RX1 9 "CurveFalls$Fall" "kind" "I" ∈ gT := gT_1 (List.mem_of_getElem? (i := 134) rfl) rfl
theorem iw_62 : Cond.fieldLink RX1 15 "CurveFalls$Fall" "index" "I" ∈ gT := gT_1 (List.mem_of_getElem? (i := 136) rfl) rfl
theorem iw_63 : Cond.fieldLink RX1 18 "CurveFalls$Fall" "exponent" "I" ∈ gT := gT_1 (List.mem_of_getElem? (i := 137) rfl) rfl
theorem iw_64 : Cond.fieldLink RX1 21 "CurveFalls$Fall" "components" "I" ∈ gT := gT_1 (List.mem_of_getElem? (i := 139) rfl) rfl
theorem iw_65 : Cond.fieldLink RX1 24 "CurveFalls$Fall" "owned" "I" ∈ gT := gT_1 (List.mem_of_getElem? (i := 140) rfl) rfl
theorem iw_66 : Cond.fieldLink RX1 27 "CurveFalls$Fall" "times" "I" ∈ gT := gT_1 (List.mem_of_getElem? (i := 142) rfl) rfl
theorem iw_67 : Cond.fieldLink RX1 30 "CurveFalls$Fall" "split" "Z" ∈ gT := gT_1 (List.mem_of_getElem? (i := 143) rfl) rfl
theorem iw_68 : Cond.classLink RX1 34 RX0 ∈ gT := gT_1 (List.mem_of_getElem? (i := 132) rfl) rfl
theorem iw_69 : Cond.methodLink RX1 36 yX0_init ∈ gT := gT_1 (List.mem_of_getElem? (i := 133) rfl) rfl
theorem iw_70 : Cond.fieldLink RX1 37 "CurveFalls$Fall" "work" "LCurveFalls$Equation;" ∈ gT := gT_1 (List.mem_of_getElem? (i := 145) rfl) rfl
theorem iw_71 : Cond.fieldLink RX1 41 "CurveFalls$Fall" "p" "I" ∈ gT := gT_1 (List.mem_of_getElem? (i := 146) rfl) rfl
theorem iw_72 : Cond.methodLink RX2 1 objectInit ∈ gT := gT_1 (List.mem_of_getElem? (i := 29) rfl) rfl
theorem iw_73 : Cond.classLink RX2 7 RX0 ∈ gT := gT_1 (List.mem_of_getElem? (i := 30) rfl) rfl
theorem iw_74 : Cond.methodLink RX2 9 yX0_init ∈ gT := gT_1 (List.mem_of_getElem? (i := 32) rfl) rfl
theorem iw_75 : Cond.fieldLink RX2 10 "CurveFalls$Held" "own" "LCurveFalls$Equation;" ∈ gT := gT_1 (List.mem_of_getElem? (i := 105) rfl) rfl
theorem iw_76 : Cond.fieldLink RX2 16 "CurveFalls$Held" "least" "LCurveFalls$Equation;" ∈ gT := gT_1 (List.mem_of_getElem? (i := 107) rfl) rfl
theorem iw_77 : Cond.fieldLink RX2 19 "CurveFalls$Held" "scale" "J" ∈ gT := gT_1 (List.mem_of_getElem? (i := 109) rfl) rfl
theorem iw_78 : Cond.classLink RX2 23 RX5 ∈ gT := gT_1 (List.mem_of_getElem? (i := 90) rfl) rfl
theorem iw_79 : Cond.methodLink RX2 25 yX5_init ∈ gT := gT_1 (List.mem_of_getElem? (i := 92) rfl) rfl
theorem iw_80 : Cond.fieldLink RX2 26 "CurveFalls$Held" "primes" "LCurveFalls$Primes;" ∈ gT := gT_1 (List.mem_of_getElem? (i := 111) rfl) rfl
theorem iw_81 : Cond.fieldLink RX2 30 "CurveFalls$Held" "primesKnown" "Z" ∈ gT := gT_1 (List.mem_of_getElem? (i := 112) rfl) rfl
theorem iw_82 : Cond.methodLink RX5 3 objectInit ∈ gT := gT_1 (List.mem_of_getElem? (i := 95) rfl) rfl
theorem iw_83 : Cond.fieldLink RX5 9 "CurveFalls$Primes" "row" "[I" ∈ gT := gT_1 (List.mem_of_getElem? (i := 96) rfl) rfl
theorem iw_84 : Cond.fieldLink RX5 15 "CurveFalls$Primes" "many" "I" ∈ gT := gT_1 (List.mem_of_getElem? (i := 97) rfl) rfl
theorem iw_85 : Cond.methodLink RX6 3 objectInit ∈ gT := gT_1 (List.mem_of_getElem? (i := 171) rfl) rfl
theorem iw_86 : Cond.fieldLink RX6 11 "CurveFalls$SmallPoints" "xs" "[I" ∈ gT := gT_1 (List.mem_of_getElem? (i := 172) rfl) rfl
theorem iw_87 : Cond.fieldLink RX6 15 "CurveFalls$SmallPoints" "ys" "[I" ∈ gT := gT_1 (List.mem_of_getElem? (i := 174) rfl) rfl
theorem iw_88 : Cond.fieldLink RX6 18 "CurveFalls$SmallPoints" "many" "I" ∈ gT := gT_1 (List.mem_of_getElem? (i := 176) rfl) rfl
theorem iw_89 : Cond.classLink RL 8 RX7 ∈ gT := gT_1 (List.mem_of_getElem? (i := 15) rfl) rfl
theorem iw_90 : Cond.classLink RL 23 RX8 ∈ gT := gT_3 (List.mem_of_getElem? (i := 215) rfl) rfl
theorem iw_91 : Cond.methodLink RL 22 yX7_init ∈ gT := gT_1 (List.mem_of_getElem? (i := 17) rfl) rfl
theorem iw_92 : Cond.methodLink RL 25 yX8_init ∈ gT := gT_3 (List.mem_of_getElem? (i := 217) rfl) rfl
abbrev TTy (cI cJ cH : ClassId) : List (ClassId × FieldType) := [(cI, .int), (cJ, .long), (cH, .object "CurveFalls$Held")]
abbrev fA (h sz : Nat) : Nat → Prop := fun q => q = h ∨ sz ≤ q
abbrev AOH (U : State) : Prop := va_AO "CurveFalls$Held" U
def iPc (D : va_G) (cI cJ cH : ClassId) (e0 : va_E) (h0 sz : Nat) (U : State) : Prop := U.heap.size = sz ∧ va_at D vwCl (h0, e0) U.heap ∧ va_K D vwCl (TTy cI cJ cH) U ∧ AOH U
theorem iPc_blind (As : List Value) (D : va_G) (cI cJ cH : ClassId) (e0 : va_E) (h0 sz : Nat) : FrameBlind (va_Pc As (iPc D cI cJ cH e0 h0 sz)) := fun _ U g mk q => ⟨q.1, q.2.1, q.2.2.1, va_K.moved (u := U) (U := U.calling g mk _) (Vm.Alike.refl U.vm) q.2.2.2.1, va_AO.moved (u := U) (U := U.calling g mk _) (Vm.Alike.refl U.vm) q.2.2.2.2⟩
/-- a constructor: the object h0 comes with e0 in it; what it leaves at h0 and at new places is w h0 u -/
def IC (l : Launch) (y : MethodName) (bytes : ByteArray) (maxL : Nat) (rm : Room) (D : va_G) (cI cJ cH : ClassId) (e0 : va_E) {T : Type} (w : Nat → T → va_W) : Prop :=
  ∀ h0 sz : Nat, Met l y (pWs y bytes maxL none) rm (va_Pc [.ref h0] (iPc D cI cJ cH e0 h0 sz)) (va_Qv (fun _ : T => True) (fun u t => va_P D vwCl (w h0 u) t.heap ∧ va_D (fA h0 sz) (w h0 u)) (fA h0 sz)) rm.cells rm.slots (fA h0 sz)
def pm_Im (y : MethodName) (bytes : ByteArray) (maxL : Nat) : Prop := Cond.code y bytes maxL none ∈ gT ∧ Cond.instanceMethod y ∈ gT ∧ Cond.initialized y.cls ∈ gT ∧ (y.cls ≠ "java/lang/invoke/MethodHandle" ∧ y.cls ≠ "java/lang/invoke/VarHandle") ∧ (parseMethodDescriptor y.desc).map (fun d => d.parameters.length) = some 0 ∧ y.name = "<init>"
theorem pi_of {l : Launch} {y : MethodName} {bytes : ByteArray} {maxL : Nat} {ret : Option FieldType} {rm : Room} {Pc' : State → Prop} {Qc : Array Value → State → Outcome → State → Prop} {mc ms : Nat} {free : Addr → Prop} {As : List Value} (hy : plainName y.cls = true) (hA : (lg_sl As).length ≤ maxL)
    (body : ∀ (p : Program) (e : Env) (s : State) (m : MethodId) (below : List Frame) (meth : Method) (c : Code), CallFix p m c bytes maxL s As.toArray gT y.cls → meth.sig.returnType = ret → meth.locks = false → meth.name = y.name → Pc' s → ∀ ls : Array Slot, lv_has ls maxL (lv_args 0 As) →
      W p l e rm s m As.toArray below meth c s.heap [] 0 0 (MQ below Qc As.toArray s mc ms free) (F0 m 0 ls [])) : Met l y (pWs y bytes maxL ret) rm (va_Pc As Pc') Qc mc ms free := by
  refine Met.ofW (cc := bytes) (maxL := maxL) (ret := ret) hy rfl ?_
  intro p e s m args below meth c s₁ B hml hv
  obtain ⟨rfl, hv⟩ := hv
  have hts := atoms_spec (ws := pWs y bytes maxL ret) B.pre
  have hl := lv_entry As (n := maxL) hA
  rw [lg_entry_eq]
  exact body p e s m below meth c ⟨B.exec, B.bytes, hml, findClass_of_methodNamed B.named, fun w h => hts w (List.mem_cons_of_mem _ h)⟩ B.returns B.notSynchronized (name_of_methodNamed B.named B.method).1 hv _ hl
theorem ci_P1 {D : va_G} {a : Nat} {e0 : va_E} {H : Heap} (h : va_at D vwCl (a, e0) H) : va_P D vwCl [(a, e0)] H := fun k q hk => by
  have hz : k < 1 := (List.getElem?_eq_some_iff.mp hk).1
  rw [show k = 0 by omega] at hk
  cases hk
  exact h
theorem ci_D1 {a : Nat} {e0 : va_E} {sz : Nat} : va_D (fA a sz) [(a, e0)] := by
  refine ⟨fun i j x y hi hj _ => ?_, fun k q hk => ?_⟩
  · have h1 : i < 1 := (List.getElem?_eq_some_iff.mp hi).1
    have h2 : j < 1 := (List.getElem?_eq_some_iff.mp hj).1
    omega
  · have hz : k < 1 := (List.getElem?_eq_some_iff.mp hk).1
    rw [show k = 0 by omega] at hk
    cases hk
    exact Or.inl rfl
theorem ci_last {ws : va_W} {x : Nat × va_E} : (ws ++ [x])[ws.length]? = some x := by simp
theorem ci_left {ws w1 : va_W} {k : Nat} {x : Nat × va_E} (h : ws[k]? = some x) : (ws ++ w1)[k]? = some x := by
  rw [List.getElem?_append_left (List.getElem?_eq_some_iff.mp h).1]; exact h
theorem ci_join {D : va_G} {A0 : Nat → Prop} {ws w1 : va_W} {a : Nat} {e0 : va_E} {H H1 : Heap} (hP : va_P D vwCl (ws ++ [(a, e0)]) H) (hD : va_D A0 (ws ++ [(a, e0)])) (hk : ∀ q : Nat, q < H.size → ¬ fA a H.size q → H1[q]? = H[q]?) (hf : ∀ q, fA a H.size q → A0 q) (hP1 : va_P D vwCl w1 H1) (hD1 : va_D (fA a H.size) w1) : va_P D vwCl (ws ++ w1) H1 ∧ va_D A0 (ws ++ w1) := by
  have hne : ∀ (k : Nat) (x : Nat × va_E), ws[k]? = some x → x.1 < H.size ∧ x.1 ≠ a := fun k x hx => by
    refine ⟨vx_lt hP (ci_left hx), fun h => ?_⟩
    have h1 := hD.1 k ws.length x (a, e0) (ci_left hx) ci_last h
    have h2 := (List.getElem?_eq_some_iff.mp hx).1
    omega
  refine ⟨va_P.app (fun k x hx => (hP k x (ci_left hx)).kept (hk _ (hne k x hx).1 (fun h => ?_))) hP1, va_D.app ⟨fun i j x y hi hj h => hD.1 i j x y (ci_left hi) (ci_left hj) h, fun k x hx => hD.2 k x (ci_left hx)⟩ (hD1.weaken (fun k x hx h => hf _ h)) (fun i j x y hi hj h => ?_)⟩
  · rcases h with h | h
    · exact (hne k x hx).2 h
    · exact absurd (hne k x hx).1 (Nat.not_lt.mpr h)
  · have h1 := hne i x hi
    have h2 := hD1.2 j y hj
    rw [← h] at h2
    rcases h2 with h2 | h2
    · exact h1.2 h2
    · exact absurd h1.1 (Nat.not_lt.mpr h2)
theorem ci_setP {D : va_G} {ws : va_W} {H : Heap} (hP : va_P D vwCl ws H) {k a : Nat} {e : va_E} (he : va_at D vwCl (a, e) H) : va_P D vwCl (ws.set k (a, e)) H := by
  intro j q hj
  by_cases h : k = j
  · subst h
    rw [List.getElem?_set] at hj
    simp only [if_true] at hj
    split at hj
    · cases hj; exact he
    · cases hj
  · rw [List.getElem?_set, if_neg h] at hj
    exact hP j q hj
theorem ci_cellI {D : va_G} {a n : Nat} {cA : ClassId} {f g : Nat → Int32} {H : Heap} (h : va_at D vwCl (a, .inl (cA, n, .inl f)) H) (hfg : ∀ j, j < n → f j = g j) : va_at D vwCl (a, .inl (cA, n, .inl g)) H := by
  have h : H[a]? = some (vp_cell cA (n, .inl f)) := h
  show H[a]? = some (vp_cell cA (n, .inl g))
  rw [h]
  show some (arrV cA n fun j => Value.int (f j)) = some (arrV cA n fun j => Value.int (g j))
  have : (fun j : Fin n => Value.int (f j)) = (fun j : Fin n => Value.int (g j)) := funext (fun j => by rw [hfg j.1 j.2])
  unfold arrV
  rw [this]
theorem ci_cellH {D : va_G} {a n : Nat} {cA : ClassId} {f g : Nat → Option Nat} {H : Heap} (h : va_at D vwCl (a, .inl (cA, n, .inr (.inr (.inr (.inr f))))) H) (hfg : ∀ j, j < n → f j = g j) : va_at D vwCl (a, .inl (cA, n, .inr (.inr (.inr (.inr g))))) H := by
  have h : H[a]? = some (arrV cA n fun j => va_rf (f j)) := h
  show H[a]? = some (arrV cA n fun j => va_rf (g j))
  rw [h]
  have : (fun j : Fin n => va_rf (f j)) = (fun j : Fin n => va_rf (g j)) := funext (fun j => by rw [hfg j.1 j.2])
  unfold arrV
  rw [this]
theorem upd_tw {f : Nat → Int32} {k : Nat} {i x : Int32} (hf : ∀ j, j < k → f j = tw1 j) (hi : i.toNatClampNeg = k) (hx : x = tw1 k) : ∀ j, j < k + 1 → upd f i.toNatClampNeg x j = tw1 j := by
  intro j hj
  unfold upd
  by_cases h : j = i.toNatClampNeg
  · rw [if_pos h, hx, h, hi]
  · rw [if_neg h]
    exact hf j (by omega)
section CI
variable {p : Program} {l : Launch} {e : Env} {R : Room} {s : State} {m : MethodId} {args : Array Value} {below : List Frame} {meth : Method} {c : Code} {H H0 : Heap} {locs : List Loc} {cells slots : Nat} {Q : State → Prop} {cc : ByteArray} {pc nL : Nat} {ls : Array Slot} {rest st : List Value} {own : String} {D : va_G} {cI cJ cH : ClassId} {A : Nat → Prop} {ws : va_W}
theorem ci_newI (S : CallFix p m c cc nL s args gT own) (hK : va_K D vwCl (TTy cI cJ cH) s) (hP : va_P D vwCl ws H) (hD : va_D A ws) (hS : va_S A H0 H locs) (hA : ∀ q, H0.size ≤ q → A q) {n : Int32} {N' : Nat} (hn : ¬ n < 0) (hN : n.toNatClampNeg = N') (hbytes : N' ≤ 1000) (hc : cells + 1 ≤ R.cells) (hs : slots + N' ≤ R.slots) (hdg : decode cc pc = .ok (.newarray .int, 2))
    (kk : ∀ (q : Nat) (H1 : Heap), va_P D vwCl (ws ++ [(q, .inl (cI, N', .inl (fun _ => 0)))]) H1 → va_D A (ws ++ [(q, .inl (cI, N', .inl (fun _ => 0)))]) → va_S A H0 H1 locs → W p l e R s m args below meth c H1 locs (cells + 1) (slots + N') Q (F0 m (pc + 2) ls (.ref q :: rest))) : W p l e R s m args below meth c H locs cells slots Q (F0 m pc ls (.int n :: rest)) := by
  refine va_newa S.1 S.2.1 (atype := .int) (S.2.2.2.2 _ iw_2) (ty := .int) rfl hK hP hD hS hA (a0 := (N', .inl (fun _ => 0))) (fun cA => rfl) hn hN (by show N' * 4 ≤ 536870912; omega) hc hs hdg (fun q cA H1 hK1 hP1 hD1 hS1 => ?_)
  have e : cA = cI := Option.some.inj (((hK1.2 3 (cA, .int) rfl).2 : s.vm.findClass _ = some cA).symm.trans ((hK.2 0 (cI, .int) rfl).2 : s.vm.findClass _ = some cI))
  subst e
  exact kk q H1 hP1 hD1 hS1
theorem ci_newJ (S : CallFix p m c cc nL s args gT own) (hK : va_K D vwCl (TTy cI cJ cH) s) (hP : va_P D vwCl ws H) (hD : va_D A ws) (hS : va_S A H0 H locs) (hA : ∀ q, H0.size ≤ q → A q) {n : Int32} {N' : Nat} (hn : ¬ n < 0) (hN : n.toNatClampNeg = N') (hbytes : N' ≤ 1000) (hc : cells + 1 ≤ R.cells) (hs : slots + N' ≤ R.slots) (hdg : decode cc pc = .ok (.newarray .long, 2))
    (kk : ∀ (q : Nat) (H1 : Heap), va_P D vwCl (ws ++ [(q, .inl (cJ, N', .inr (.inl (fun _ => 0))))]) H1 → va_D A (ws ++ [(q, .inl (cJ, N', .inr (.inl (fun _ => 0))))]) → va_S A H0 H1 locs → W p l e R s m args below meth c H1 locs (cells + 1) (slots + N') Q (F0 m (pc + 2) ls (.ref q :: rest))) : W p l e R s m args below meth c H locs cells slots Q (F0 m pc ls (.int n :: rest)) := by
  refine va_newa S.1 S.2.1 (atype := .long) (S.2.2.2.2 _ iw_3) (ty := .long) rfl hK hP hD hS hA (a0 := (N', .inr (.inl (fun _ => 0)))) (fun cA => rfl) hn hN (by show N' * 8 ≤ 536870912; omega) hc hs hdg (fun q cA H1 hK1 hP1 hD1 hS1 => ?_)
  have e : cA = cJ := Option.some.inj (((hK1.2 3 (cA, .long) rfl).2 : s.vm.findClass _ = some cA).symm.trans ((hK.2 1 (cJ, .long) rfl).2 : s.vm.findClass _ = some cJ))
  subst e
  exact kk q H1 hP1 hD1 hS1
/-- 'new X; dup; invokespecial' goes on: the new object lies at the list's end -/
theorem ci_call {y : MethodName} {bytes : ByteArray} {maxL index a : Nat} {rm : Room} {e0 : va_E} {T : Type} {w : Nat → T → va_W} (S : CallFix p m c cc nL s args gT own) (hI : IC l y bytes maxL rm D cI cJ cH e0 w) (hm : pm_Im y bytes maxL) (hlink : Cond.methodLink own index y ∈ gT) (hK : va_K D vwCl (TTy cI cJ cH) s) (hX : AOH s) (hP : va_P D vwCl (ws ++ [(a, e0)]) H) (hD : va_D A (ws ++ [(a, e0)])) (hS : va_S A s.heap H locs) (hA : ∀ q, s.heap.size ≤ q → A q)
    (hR : rm.frames + 1 ≤ R.frames ∧ 8 + (maxL + 11) + rm.locals ≤ R.locals) (hsize : ls.size = nL) (hst : st = .ref a :: rest) (hW : (rest.map fun v => v.category).sum ≤ 8) (hf : cells + rm.cells ≤ R.cells ∧ slots + rm.slots ≤ R.slots) (hdg : decode cc pc = .ok (.invokespecial index, 3))
    (kk : ∀ (u : T) (H1 : Heap) (locs1 : List Loc), va_P D vwCl (ws ++ w a u) H1 → va_D A (ws ++ w a u) → va_S A s.heap H1 locs1 → W p l e R s m args below meth c H1 locs1 (cells + rm.cells) (slots + rm.slots) Q (F0 m (pc + 3) ls rest)) : W p l e R s m args below meth c H locs cells slots Q (F0 m pc ls st) := by
  have hff : ∀ q, fA a H.size q → A q := fun q h => by
    rcases h with h | h
    · rw [h]; exact hD.2 ws.length (a, e0) ci_last
    · exact hA q (Nat.le_trans hS.1 h)
  refine va_callv (va_runI (b := a) (As := []) (rest := rest) (n := 0) S (hI a H.size) ⟨⟨rfl, rfl, hR.1, hR.2, pm_words S hm.1, List.mem_cons_self, S.2.2.2.2 _ hm.1, S.2.2.2.2 _ hm.2.2.1, hm.2.2.2.1, fun sig h => by
      have h2 := hm.2.2.2.2.1
      rw [h] at h2
      exact (Option.some.inj h2).symm, S.2.2.2.2 _ hlink⟩, hm.2.2.2.2.2, S.2.2.2.2 _ hm.2.1⟩ ⟨iPc_blind _ D cI cJ cH e0 a H.size, fun U hU hW => ⟨rfl, by rw [hU], by rw [hU]; exact hP ws.length _ ci_last, va_K.moved hW.alike hK, va_AO.moved hW.alike hX⟩⟩ rfl rfl hsize hst (by simpa [JFrame.monitorRoom] using hW) hdg hf) hS (fun q _ h => hff q h) hff (fun u t H1 locs1 ht hvm hw hB hz1 hk1 hS1 => ?_)
  obtain ⟨hP1, hD1⟩ := hB
  rw [ht] at hP1
  obtain ⟨hP2, hD2⟩ := ci_join hP hD hk1 hff hP1 hD1
  exact kk u H1 locs1 hP2 hD2 hS1
theorem ci_obj {index a : Nat} (S : CallFix p m c cc nL s args gT own) (hlink : Cond.methodLink own index objectInit ∈ gT) (hsize : ls.size = nL) (hR : 1 ≤ R.frames ∧ 12 ≤ R.locals) (hdg : decode cc pc = .ok (.invokespecial index, 3)) (kk : W p l e R s m args below meth c H locs cells slots Q (F0 m (pc + 3) ls [])) : W p l e R s m args below meth c H locs cells slots Q (F0 m pc ls [.ref a]) :=
  W.objInit S.1 S.2.1 S.2.2.2.1 (S.2.2.2.2 _ hlink) (S.2.2.2.2 _ iw_0) (S.2.2.2.2 _ iw_1) rfl (hsize.trans S.2.2.1.symm) rfl hdg hR.1 hR.2 kk
end CI
theorem im_X0 : pm_Im yX0_init cX0_init 1 := ⟨iw_7, iw_6, iw_5, by decide, by decide, rfl⟩
def wX0 (cI cJ cH : ClassId) (h : Nat) (u : Unit) : va_W := [(h, .inr (0, [.long 0, .long 0, .long 0, .long 0, .long 0, .long 0, .long 0, .long 0, .long 0, .long 0, .long 0, .long 0]))]
set_option maxRecDepth 20000 in
set_option maxHeartbeats 4000000 in
theorem i_X0 (l : Launch) (D : va_G) (cI cJ cH : ClassId) : IC l yX0_init cX0_init 1 ({ frames := 1, cells := 0, slots := 0, locals := 20 } : Room) D cI cJ cH (.inr (0, [.long 0, .long 0, .long 0, .long 0, .long 0, .long 0, .long 0, .long 0, .long 0, .long 0, .long 0, .long 0])) (wX0 cI cJ cH) := by
  intro h0 sz
  refine pi_of (by decide) (Nat.le_of_ble_eq_true rfl) ?_
  intro p e s m below meth c S hr hlk hin hv ls hl
  obtain ⟨hsz, hP0, hK, hX⟩ := hv
  subst hsz
  have hP := ci_P1 hP0
  have hD : va_D (fA h0 s.heap.size) [(h0, .inr (0, [.long 0, .long 0, .long 0, .long 0, .long 0, .long 0, .long 0, .long 0, .long 0, .long 0, .long 0, .long 0]))] := ci_D1
  have hS : va_S (fA h0 s.heap.size) s.heap s.heap [] := va_S.rf
  have hA : ∀ q, s.heap.size ≤ q → fA h0 s.heap.size q := fun q h => Or.inr h
  have hl : lv_has ls 1 [(0, .ref h0)] := hl
  refine lv_aload_n S.1 S.2.1 dX0_init_0 rfl (lv_at hl 0 rfl) ?_
  refine ci_obj S iw_59 hl.1 (by decide) dX0_init_1 ?_
  exact W.vret S.1 S.2.1 hr (fun t ht _ => ⟨⟨(), rfl, trivial, by rw [ht]; exact hP, hD⟩, hS.F ht⟩) hS.2.2 dX0_init_4 hlk
theorem im_X5 : pm_Im yX5_init cX5_init 1 := ⟨iw_19, iw_18, iw_17, by decide, by decide, rfl⟩
def wX5 (cI cJ cH : ClassId) (h : Nat) (u : Nat) : va_W := [(h, .inr (3, [.ref u, .int 0])), (u, .inl (cI, 16, .inl (fun _ => 0)))]
set_option maxRecDepth 20000 in
set_option maxHeartbeats 4000000 in
theorem i_X5 (l : Launch) (D : va_G) (cI cJ cH : ClassId) : IC l yX5_init cX5_init 1 ({ frames := 1, cells := 1, slots := 16, locals := 30 } : Room) D cI cJ cH (.inr (3, [.null, .int 0])) (wX5 cI cJ cH) := by
  intro h0 sz
  refine pi_of (by decide) (Nat.le_of_ble_eq_true rfl) ?_
  intro p e s m below meth c S hr hlk hin hv ls hl
  obtain ⟨hsz, hP0, hK, hX⟩ := hv
  subst hsz
  have hP := ci_P1 hP0
  have hD : va_D (fA h0 s.heap.size) [(h0, .inr (3, [.null, .int 0]))] := ci_D1
  have hS : va_S (fA h0 s.heap.size) s.heap s.heap [] := va_S.rf
  have hA : ∀ q, s.heap.size ≤ q → fA h0 s.heap.size q := fun q h => Or.inr h
  have hl : lv_has ls 1 [(0, .ref h0)] := hl
  refine lv_aload_n S.1 S.2.1 dX5_init_0 rfl (lv_at hl 0 rfl) ?_
  refine ci_obj S iw_82 hl.1 (by decide) dX5_init_1 ?_
  refine lv_aload_n S.1 S.2.1 dX5_init_4 rfl (lv_at hl 0 rfl) ?_
  refine lv_bipush (v := 16) S.1 S.2.1 dX5_init_5 (by decide) ?_
  refine ci_newI (N' := 16) S hK hP hD hS hA (by decide) (by decide) (by decide) (by decide) (by decide) dX5_init_7 (fun q0 H hP hD hS => ?_)
  have hP : va_P D vwCl [(h0, .inr (3, [.null, .int 0])), (q0, .inl (cI, 16, .inl (fun _ => 0)))] H := hP
  have hD : va_D (fA h0 s.heap.size) [(h0, .inr (3, [.null, .int 0])), (q0, .inl (cI, 16, .inl (fun _ => 0)))] := hD
  refine W.widen (k := 1) (n := 16) (by decide) (by decide) ?_
  refine va_putF (ci := 3) (v := .ref q0) (ty := tyX5 0) (C := RX5) (T := TX5) (N := 2) S.1 S.2.1 S.2.2.2.2 gX5 tyX5 tyX5_ok nmX5 S.2.2.2.1 hK hP hD hS 0 rfl rfl 0 (by decide) (S.2.2.2.2 _ iw_83) (fun _ h9 => h9) rfl hin rfl (tyX5_ok 0 (by decide)) rfl rfl (Nat.le_of_ble_eq_true rfl) dX5_init_9 (fun H locs hP hD hS => ?_)
  have hP : va_P D vwCl [(h0, .inr (3, [.ref q0, .int 0])), (q0, .inl (cI, 16, .inl (fun _ => 0)))] H := hP
  have hD : va_D (fA h0 s.heap.size) [(h0, .inr (3, [.ref q0, .int 0])), (q0, .inl (cI, 16, .inl (fun _ => 0)))] := hD
  refine lv_aload_n S.1 S.2.1 dX5_init_12 rfl (lv_at hl 0 rfl) ?_
  refine lv_iconst (v := 0) S.1 S.2.1 dX5_init_13 (by decide) ?_
  refine va_put (ci := 3) (v := .int 0) (ty := tyX5 1) (C := RX5) (T := TX5) (N := 2) S.1 S.2.1 S.2.2.2.2 gX5 tyX5 tyX5_ok nmX5 S.2.2.2.1 hK hP hD hS 0 rfl rfl 1 (by decide) (S.2.2.2.2 _ iw_84) (fun _ h9 => h9) rfl (tyX5_ok 1 (by decide)) rfl rfl (Nat.le_of_ble_eq_true rfl) dX5_init_14 (fun H locs hP hD hS => ?_)
  have hP : va_P D vwCl [(h0, .inr (3, [.ref q0, .int 0])), (q0, .inl (cI, 16, .inl (fun _ => 0)))] H := hP
  have hD : va_D (fA h0 s.heap.size) [(h0, .inr (3, [.ref q0, .int 0])), (q0, .inl (cI, 16, .inl (fun _ => 0)))] := hD
  exact W.vret S.1 S.2.1 hr (fun t ht _ => ⟨⟨q0, rfl, trivial, by rw [ht]; exact hP, hD⟩, hS.F ht⟩) hS.2.2 dX5_init_17 hlk
theorem im_X1 : pm_Im yX1_init cX1_init 1 := ⟨iw_11, iw_10, iw_9, by decide, by decide, rfl⟩
def wX1 (cI cJ cH : ClassId) (h : Nat) (u : Nat) : va_W := [(h, .inr (1, [.int 0, .int 0, .int 0, .int 1, .int 1, .int 0, .int 0, .ref u, .int 2])), (u, .inr (0, [.long 0, .long 0, .long 0, .long 0, .long 0, .long 0, .long 0, .long 0, .long 0, .long 0, .long 0, .long 0]))]
set_option maxRecDepth 20000 in
set_option maxHeartbeats 4000000 in
theorem i_X1 (l : Launch) (D : va_G) (cI cJ cH : ClassId) : IC l yX1_init cX1_init 1 ({ frames := 2, cells := 1, slots := 12, locals := 60 } : Room) D cI cJ cH (.inr (1, [.int 0, .int 0, .int 0, .int 0, .int 0, .int 0, .int 0, .null, .int 0])) (wX1 cI cJ cH) := by
  intro h0 sz
  refine pi_of (by decide) (Nat.le_of_ble_eq_true rfl) ?_
  intro p e s m below meth c S hr hlk hin hv ls hl
  obtain ⟨hsz, hP0, hK, hX⟩ := hv
  subst hsz
  have hP := ci_P1 hP0
  have hD : va_D (fA h0 s.heap.size) [(h0, .inr (1, [.int 0, .int 0, .int 0, .int 0, .int 0, .int 0, .int 0, .null, .int 0]))] := ci_D1
  have hS : va_S (fA h0 s.heap.size) s.heap s.heap [] := va_S.rf
  have hA : ∀ q, s.heap.size ≤ q → fA h0 s.heap.size q := fun q h => Or.inr h
  have hl : lv_has ls 1 [(0, .ref h0)] := hl
  refine lv_aload_n S.1 S.2.1 dX1_init_0 rfl (lv_at hl 0 rfl) ?_
  refine ci_obj S iw_60 hl.1 (by decide) dX1_init_1 ?_
  refine lv_aload_n S.1 S.2.1 dX1_init_4 rfl (lv_at hl 0 rfl) ?_
  refine lv_iconst (v := 0) S.1 S.2.1 dX1_init_5 (by decide) ?_
  refine va_put (ci := 1) (v := .int 0) (ty := tyX1 0) (C := RX1) (T := TX1) (N := 9) S.1 S.2.1 S.2.2.2.2 gX1 tyX1 tyX1_ok nmX1 S.2.2.2.1 hK hP hD hS 0 rfl rfl 0 (by decide) (S.2.2.2.2 _ iw_61) (fun _ h9 => h9) rfl (tyX1_ok 0 (by decide)) rfl rfl (Nat.le_of_ble_eq_true rfl) dX1_init_6 (fun H locs hP hD hS => ?_)
  have hP : va_P D vwCl [(h0, .inr (1, [.int 0, .int 0, .int 0, .int 0, .int 0, .int 0, .int 0, .null, .int 0]))] H := hP
  have hD : va_D (fA h0 s.heap.size) [(h0, .inr (1, [.int 0, .int 0, .int 0, .int 0, .int 0, .int 0, .int 0, .null, .int 0]))] := hD
  refine lv_aload_n S.1 S.2.1 dX1_init_9 rfl (lv_at hl 0 rfl) ?_
  refine lv_iconst (v := 0) S.1 S.2.1 dX1_init_10 (by decide) ?_
  refine va_put (ci := 1) (v := .int 0) (ty := tyX1 1) (C := RX1) (T := TX1) (N := 9) S.1 S.2.1 S.2.2.2.2 gX1 tyX1 tyX1_ok nmX1 S.2.2.2.1 hK hP hD hS 0 rfl rfl 1 (by decide) (S.2.2.2.2 _ iw_62) (fun _ h9 => h9) rfl (tyX1_ok 1 (by decide)) rfl rfl (Nat.le_of_ble_eq_true rfl) dX1_init_11 (fun H locs hP hD hS => ?_)
  have hP : va_P D vwCl [(h0, .inr (1, [.int 0, .int 0, .int 0, .int 0, .int 0, .int 0, .int 0, .null, .int 0]))] H := hP
  have hD : va_D (fA h0 s.heap.size) [(h0, .inr (1, [.int 0, .int 0, .int 0, .int 0, .int 0, .int 0, .int 0, .null, .int 0]))] := hD
  refine lv_aload_n S.1 S.2.1 dX1_init_14 rfl (lv_at hl 0 rfl) ?_
  refine lv_iconst (v := 0) S.1 S.2.1 dX1_init_15 (by decide) ?_
  refine va_put (ci := 1) (v := .int 0) (ty := tyX1 2) (C := RX1) (T := TX1) (N := 9) S.1 S.2.1 S.2.2.2.2 gX1 tyX1 tyX1_ok nmX1 S.2.2.2.1 hK hP hD hS 0 rfl rfl 2 (by decide) (S.2.2.2.2 _ iw_63) (fun _ h9 => h9) rfl (tyX1_ok 2 (by decide)) rfl rfl (Nat.le_of_ble_eq_true rfl) dX1_init_16 (fun H locs hP hD hS => ?_)
  have hP : va_P D vwCl [(h0, .inr (1, [.int 0, .int 0, .int 0, .int 0, .int 0, .int 0, .int 0, .null, .int 0]))] H := hP
  have hD : va_D (fA h0 s.heap.size) [(h0, .inr (1, [.int 0, .int 0, .int 0, .int 0, .int 0, .int 0, .int 0, .null, .int 0]))] := hD
  refine lv_aload_n S.1 S.2.1 dX1_init_19 rfl (lv_at hl 0 rfl) ?_
  refine lv_iconst (v := 1) S.1 S.2.1 dX1_init_20 (by decide) ?_
  refine va_put (ci := 1) (v := .int 1) (ty := tyX1 3) (C := RX1) (T := TX1) (N := 9) S.1 S.2.1 S.2.2.2.2 gX1 tyX1 tyX1_ok nmX1 S.2.2.2.1 hK hP hD hS 0 rfl rfl 3 (by decide) (S.2.2.2.2 _ iw_64) (fun _ h9 => h9) rfl (tyX1_ok 3 (by decide)) rfl rfl (Nat.le_of_ble_eq_true rfl) dX1_init_21 (fun H locs hP hD hS => ?_)
  have hP : va_P D vwCl [(h0, .inr (1, [.int 0, .int 0, .int 0, .int 1, .int 0, .int 0, .int 0, .null, .int 0]))] H := hP
  have hD : va_D (fA h0 s.heap.size) [(h0, .inr (1, [.int 0, .int 0, .int 0, .int 1, .int 0, .int 0, .int 0, .null, .int 0]))] := hD
  refine lv_aload_n S.1 S.2.1 dX1_init_24 rfl (lv_at hl 0 rfl) ?_
  refine lv_iconst (v := 1) S.1 S.2.1 dX1_init_25 (by decide) ?_
  refine va_put (ci := 1) (v := .int 1) (ty := tyX1 4) (C := RX1) (T := TX1) (N := 9) S.1 S.2.1 S.2.2.2.2 gX1 tyX1 tyX1_ok nmX1 S.2.2.2.1 hK hP hD hS 0 rfl rfl 4 (by decide) (S.2.2.2.2 _ iw_65) (fun _ h9 => h9) rfl (tyX1_ok 4 (by decide)) rfl rfl (Nat.le_of_ble_eq_true rfl) dX1_init_26 (fun H locs hP hD hS => ?_)
  have hP : va_P D vwCl [(h0, .inr (1, [.int 0, .int 0, .int 0, .int 1, .int 1, .int 0, .int 0, .null, .int 0]))] H := hP
  have hD : va_D (fA h0 s.heap.size) [(h0, .inr (1, [.int 0, .int 0, .int 0, .int 1, .int 1, .int 0, .int 0, .null, .int 0]))] := hD
  refine lv_aload_n S.1 S.2.1 dX1_init_29 rfl (lv_at hl 0 rfl) ?_
  refine lv_iconst (v := 0) S.1 S.2.1 dX1_init_30 (by decide) ?_
  refine va_put (ci := 1) (v := .int 0) (ty := tyX1 5) (C := RX1) (T := TX1) (N := 9) S.1 S.2.1 S.2.2.2.2 gX1 tyX1 tyX1_ok nmX1 S.2.2.2.1 hK hP hD hS 0 rfl rfl 5 (by decide) (S.2.2.2.2 _ iw_66) (fun _ h9 => h9) rfl (tyX1_ok 5 (by decide)) rfl rfl (Nat.le_of_ble_eq_true rfl) dX1_init_31 (fun H locs hP hD hS => ?_)
  have hP : va_P D vwCl [(h0, .inr (1, [.int 0, .int 0, .int 0, .int 1, .int 1, .int 0, .int 0, .null, .int 0]))] H := hP
  have hD : va_D (fA h0 s.heap.size) [(h0, .inr (1, [.int 0, .int 0, .int 0, .int 1, .int 1, .int 0, .int 0, .null, .int 0]))] := hD
  refine lv_aload_n S.1 S.2.1 dX1_init_34 rfl (lv_at hl 0 rfl) ?_
  refine lv_iconst (v := 0) S.1 S.2.1 dX1_init_35 (by decide) ?_
  refine va_put (ci := 1) (v := .int 0) (ty := tyX1 6) (C := RX1) (T := TX1) (N := 9) S.1 S.2.1 S.2.2.2.2 gX1 tyX1 tyX1_ok nmX1 S.2.2.2.1 hK hP hD hS 0 rfl rfl 6 (by decide) (S.2.2.2.2 _ iw_67) (fun _ h9 => h9) rfl (tyX1_ok 6 (by decide)) rfl rfl (Nat.le_of_ble_eq_true rfl) dX1_init_36 (fun H locs hP hD hS => ?_)
  have hP : va_P D vwCl [(h0, .inr (1, [.int 0, .int 0, .int 0, .int 1, .int 1, .int 0, .int 0, .null, .int 0]))] H := hP
  have hD : va_D (fA h0 s.heap.size) [(h0, .inr (1, [.int 0, .int 0, .int 0, .int 1, .int 1, .int 0, .int 0, .null, .int 0]))] := hD
  refine lv_aload_n S.1 S.2.1 dX1_init_39 rfl (lv_at hl 0 rfl) ?_
  refine va_new (ci := 0) (fs := [.long 0, .long 0, .long 0, .long 0, .long 0, .long 0, .long 0, .long 0, .long 0, .long 0, .long 0, .long 0]) (C := RX0) (T := TX0) (N := 12) S.1 S.2.1 S.2.2.2.2 gX0 tyX0 tyX0_ok S.2.2.2.1 (S.2.2.2.2 _ iw_68) (S.2.2.2.2 _ iw_4) (S.2.2.2.2 _ iw_5) hK hP hD hS hA rfl (fun j hj => by rcases (show j = 0 ∨ j = 1 ∨ j = 2 ∨ j = 3 ∨ j = 4 ∨ j = 5 ∨ j = 6 ∨ j = 7 ∨ j = 8 ∨ j = 9 ∨ j = 10 ∨ j = 11 by omega) with rfl | rfl | rfl | rfl | rfl | rfl | rfl | rfl | rfl | rfl | rfl | rfl <;> rfl) (by decide) (by decide) dX1_init_40 (fun q0 H hP hD hS => ?_)
  have hP : va_P D vwCl [(h0, .inr (1, [.int 0, .int 0, .int 0, .int 1, .int 1, .int 0, .int 0, .null, .int 0])), (q0, .inr (0, [.long 0, .long 0, .long 0, .long 0, .long 0, .long 0, .long 0, .long 0, .long 0, .long 0, .long 0, .long 0]))] H := hP
  have hD : va_D (fA h0 s.heap.size) [(h0, .inr (1, [.int 0, .int 0, .int 0, .int 1, .int 1, .int 0, .int 0, .null, .int 0])), (q0, .inr (0, [.long 0, .long 0, .long 0, .long 0, .long 0, .long 0, .long 0, .long 0, .long 0, .long 0, .long 0, .long 0]))] := hD
  refine W.widen (k := 1) (n := 12) (by decide) (by decide) ?_
  refine lv_dup S.1 S.2.1 dX1_init_43 rfl ?_
  refine ci_call (ws := [(h0, .inr (1, [.int 0, .int 0, .int 0, .int 1, .int 1, .int 0, .int 0, .null, .int 0]))]) (a := q0) (rest := [.ref q0, .ref h0]) S (i_X0 l D cI cJ cH) im_X0 iw_69 hK hX hP hD hS hA (by decide) hl.1 rfl (Nat.le_of_ble_eq_true rfl) (by decide) dX1_init_44 (fun u1 H locs hP hD hS => ?_)
  have hP : va_P D vwCl [(h0, .inr (1, [.int 0, .int 0, .int 0, .int 1, .int 1, .int 0, .int 0, .null, .int 0])), (q0, .inr (0, [.long 0, .long 0, .long 0, .long 0, .long 0, .long 0, .long 0, .long 0, .long 0, .long 0, .long 0, .long 0]))] H := hP
  have hD : va_D (fA h0 s.heap.size) [(h0, .inr (1, [.int 0, .int 0, .int 0, .int 1, .int 1, .int 0, .int 0, .null, .int 0])), (q0, .inr (0, [.long 0, .long 0, .long 0, .long 0, .long 0, .long 0, .long 0, .long 0, .long 0, .long 0, .long 0, .long 0]))] := hD
  refine W.widen (k := 1) (n := 12) (by decide) (by decide) ?_
  refine va_putF (ci := 1) (v := .ref q0) (ty := tyX1 7) (C := RX1) (T := TX1) (N := 9) S.1 S.2.1 S.2.2.2.2 gX1 tyX1 tyX1_ok nmX1 S.2.2.2.1 hK hP hD hS 0 rfl rfl 7 (by decide) (S.2.2.2.2 _ iw_70) (fun _ h9 => h9) rfl hin rfl (tyX1_ok 7 (by decide)) rfl rfl (Nat.le_of_ble_eq_true rfl) dX1_init_47 (fun H locs hP hD hS => ?_)
  have hP : va_P D vwCl [(h0, .inr (1, [.int 0, .int 0, .int 0, .int 1, .int 1, .int 0, .int 0, .ref q0, .int 0])), (q0, .inr (0, [.long 0, .long 0, .long 0, .long 0, .long 0, .long 0, .long 0, .long 0, .long 0, .long 0, .long 0, .long 0]))] H := hP
  have hD : va_D (fA h0 s.heap.size) [(h0, .inr (1, [.int 0, .int 0, .int 0, .int 1, .int 1, .int 0, .int 0, .ref q0, .int 0])), (q0, .inr (0, [.long 0, .long 0, .long 0, .long 0, .long 0, .long 0, .long 0, .long 0, .long 0, .long 0, .long 0, .long 0]))] := hD
  refine lv_aload_n S.1 S.2.1 dX1_init_50 rfl (lv_at hl 0 rfl) ?_
  refine lv_iconst (v := 2) S.1 S.2.1 dX1_init_51 (by decide) ?_
  refine va_put (ci := 1) (v := .int 2) (ty := tyX1 8) (C := RX1) (T := TX1) (N := 9) S.1 S.2.1 S.2.2.2.2 gX1 tyX1 tyX1_ok nmX1 S.2.2.2.1 hK hP hD hS 0 rfl rfl 8 (by decide) (S.2.2.2.2 _ iw_71) (fun _ h9 => h9) rfl (tyX1_ok 8 (by decide)) rfl rfl (Nat.le_of_ble_eq_true rfl) dX1_init_52 (fun H locs hP hD hS => ?_)
  have hP : va_P D vwCl [(h0, .inr (1, [.int 0, .int 0, .int 0, .int 1, .int 1, .int 0, .int 0, .ref q0, .int 2])), (q0, .inr (0, [.long 0, .long 0, .long 0, .long 0, .long 0, .long 0, .long 0, .long 0, .long 0, .long 0, .long 0, .long 0]))] H := hP
  have hD : va_D (fA h0 s.heap.size) [(h0, .inr (1, [.int 0, .int 0, .int 0, .int 1, .int 1, .int 0, .int 0, .ref q0, .int 2])), (q0, .inr (0, [.long 0, .long 0, .long 0, .long 0, .long 0, .long 0, .long 0, .long 0, .long 0, .long 0, .long 0, .long 0]))] := hD
  exact W.vret S.1 S.2.1 hr (fun t ht _ => ⟨⟨q0, rfl, trivial, by rw [ht]; exact hP, hD⟩, hS.F ht⟩) hS.2.2 dX1_init_55 hlk
theorem im_X2 : pm_Im yX2_init cX2_init 1 := ⟨iw_15, iw_14, iw_13, by decide, by decide, rfl⟩
def wX2 (cI cJ cH : ClassId) (h : Nat) (u : Nat × Nat × Nat × Nat) : va_W := [(h, .inr (2, [.ref u.1, .ref u.2.1, .long 1, .ref u.2.2.1, .int 0])), (u.1, .inr (0, [.long 0, .long 0, .long 0, .long 0, .long 0, .long 0, .long 0, .long 0, .long 0, .long 0, .long 0, .long 0])), (u.2.1, .inr (0, [.long 0, .long 0, .long 0, .long 0, .long 0, .long 0, .long 0, .long 0, .long 0, .long 0, .long 0, .long 0])), (u.2.2.1, .inr (3, [.ref u.2.2.2, .int 0])), (u.2.2.2, .inl (cI, 16, .inl (fun _ => 0)))]
set_option maxRecDepth 20000 in
set_option maxHeartbeats 4000000 in
theorem i_X2 (l : Launch) (D : va_G) (cI cJ cH : ClassId) : IC l yX2_init cX2_init 1 ({ frames := 2, cells := 4, slots := 42, locals := 60 } : Room) D cI cJ cH (.inr (2, [.null, .null, .long 0, .null, .int 0])) (wX2 cI cJ cH) := by
  intro h0 sz
  refine pi_of (by decide) (Nat.le_of_ble_eq_true rfl) ?_
  intro p e s m below meth c S hr hlk hin hv ls hl
  obtain ⟨hsz, hP0, hK, hX⟩ := hv
  subst hsz
  have hP := ci_P1 hP0
  have hD : va_D (fA h0 s.heap.size) [(h0, .inr (2, [.null, .null, .long 0, .null, .int 0]))] := ci_D1
  have hS : va_S (fA h0 s.heap.size) s.heap s.heap [] := va_S.rf
  have hA : ∀ q, s.heap.size ≤ q → fA h0 s.heap.size q := fun q h => Or.inr h
  have hl : lv_has ls 1 [(0, .ref h0)] := hl
  refine lv_aload_n S.1 S.2.1 dX2_init_0 rfl (lv_at hl 0 rfl) ?_
  refine ci_obj S iw_72 hl.1 (by decide) dX2_init_1 ?_
  refine lv_aload_n S.1 S.2.1 dX2_init_4 rfl (lv_at hl 0 rfl) ?_
  refine va_new (ci := 0) (fs := [.long 0, .long 0, .long 0, .long 0, .long 0, .long 0, .long 0, .long 0, .long 0, .long 0, .long 0, .long 0]) (C := RX0) (T := TX0) (N := 12) S.1 S.2.1 S.2.2.2.2 gX0 tyX0 tyX0_ok S.2.2.2.1 (S.2.2.2.2 _ iw_73) (S.2.2.2.2 _ iw_4) (S.2.2.2.2 _ iw_5) hK hP hD hS hA rfl (fun j hj => by rcases (show j = 0 ∨ j = 1 ∨ j = 2 ∨ j = 3 ∨ j = 4 ∨ j = 5 ∨ j = 6 ∨ j = 7 ∨ j = 8 ∨ j = 9 ∨ j = 10 ∨ j = 11 by omega) with rfl | rfl | rfl | rfl | rfl | rfl | rfl | rfl | rfl | rfl | rfl | rfl <;> rfl) (by decide) (by decide) dX2_init_5 (fun q0 H hP hD hS => ?_)
  have hP : va_P D vwCl [(h0, .inr (2, [.null, .null, .long 0, .null, .int 0])), (q0, .inr (0, [.long 0, .long 0, .long 0, .long 0, .long 0, .long 0, .long 0, .long 0, .long 0, .long 0, .long 0, .long 0]))] H := hP
  have hD : va_D (fA h0 s.heap.size) [(h0, .inr (2, [.null, .null, .long 0, .null, .int 0])), (q0, .inr (0, [.long 0, .long 0, .long 0, .long 0, .long 0, .long 0, .long 0, .long 0, .long 0, .long 0, .long 0, .long 0]))] := hD
  refine W.widen (k := 1) (n := 12) (by decide) (by decide) ?_
  refine lv_dup S.1 S.2.1 dX2_init_8 rfl ?_
  refine ci_call (ws := [(h0, .inr (2, [.null, .null, .long 0, .null, .int 0]))]) (a := q0) (rest := [.ref q0, .ref h0]) S (i_X0 l D cI cJ cH) im_X0 iw_74 hK hX hP hD hS hA (by decide) hl.1 rfl (Nat.le_of_ble_eq_true rfl) (by decide) dX2_init_9 (fun u1 H locs hP hD hS => ?_)
  have hP : va_P D vwCl [(h0, .inr (2, [.null, .null, .long 0, .null, .int 0])), (q0, .inr (0, [.long 0, .long 0, .long 0, .long 0, .long 0, .long 0, .long 0, .long 0, .long 0, .long 0, .long 0, .long 0]))] H := hP
  have hD : va_D (fA h0 s.heap.size) [(h0, .inr (2, [.null, .null, .long 0, .null, .int 0])), (q0, .inr (0, [.long 0, .long 0, .long 0, .long 0, .long 0, .long 0, .long 0, .long 0, .long 0, .long 0, .long 0, .long 0]))] := hD
  refine W.widen (k := 1) (n := 12) (by decide) (by decide) ?_
  refine va_putF (ci := 2) (v := .ref q0) (ty := tyX2 0) (C := RX2) (T := TX2) (N := 5) S.1 S.2.1 S.2.2.2.2 gX2 tyX2 tyX2_ok nmX2 S.2.2.2.1 hK hP hD hS 0 rfl rfl 0 (by decide) (S.2.2.2.2 _ iw_75) (fun _ h9 => h9) rfl hin rfl (tyX2_ok 0 (by decide)) rfl rfl (Nat.le_of_ble_eq_true rfl) dX2_init_12 (fun H locs hP hD hS => ?_)
  have hP : va_P D vwCl [(h0, .inr (2, [.ref q0, .null, .long 0, .null, .int 0])), (q0, .inr (0, [.long 0, .long 0, .long 0, .long 0, .long 0, .long 0, .long 0, .long 0, .long 0, .long 0, .long 0, .long 0]))] H := hP
  have hD : va_D (fA h0 s.heap.size) [(h0, .inr (2, [.ref q0, .null, .long 0, .null, .int 0])), (q0, .inr (0, [.long 0, .long 0, .long 0, .long 0, .long 0, .long 0, .long 0, .long 0, .long 0, .long 0, .long 0, .long 0]))] := hD
  refine lv_aload_n S.1 S.2.1 dX2_init_15 rfl (lv_at hl 0 rfl) ?_
  refine va_new (ci := 0) (fs := [.long 0, .long 0, .long 0, .long 0, .long 0, .long 0, .long 0, .long 0, .long 0, .long 0, .long 0, .long 0]) (C := RX0) (T := TX0) (N := 12) S.1 S.2.1 S.2.2.2.2 gX0 tyX0 tyX0_ok S.2.2.2.1 (S.2.2.2.2 _ iw_73) (S.2.2.2.2 _ iw_4) (S.2.2.2.2 _ iw_5) hK hP hD hS hA rfl (fun j hj => by rcases (show j = 0 ∨ j = 1 ∨ j = 2 ∨ j = 3 ∨ j = 4 ∨ j = 5 ∨ j = 6 ∨ j = 7 ∨ j = 8 ∨ j = 9 ∨ j = 10 ∨ j = 11 by omega) with rfl | rfl | rfl | rfl | rfl | rfl | rfl | rfl | rfl | rfl | rfl | rfl <;> rfl) (by decide) (by decide) dX2_init_16 (fun q2 H hP hD hS => ?_)
  have hP : va_P D vwCl [(h0, .inr (2, [.ref q0, .null, .long 0, .null, .int 0])), (q0, .inr (0, [.long 0, .long 0, .long 0, .long 0, .long 0, .long 0, .long 0, .long 0, .long 0, .long 0, .long 0, .long 0])), (q2, .inr (0, [.long 0, .long 0, .long 0, .long 0, .long 0, .long 0, .long 0, .long 0, .long 0, .long 0, .long 0, .long 0]))] H := hP
  have hD : va_D (fA h0 s.heap.size) [(h0, .inr (2, [.ref q0, .null, .long 0, .null, .int 0])), (q0, .inr (0, [.long 0, .long 0, .long 0, .long 0, .long 0, .long 0, .long 0, .long 0, .long 0, .long 0, .long 0, .long 0])), (q2, .inr (0, [.long 0, .long 0, .long 0, .long 0, .long 0, .long 0, .long 0, .long 0, .long 0, .long 0, .long 0, .long 0]))] := hD
  refine W.widen (k := 2) (n := 24) (by decide) (by decide) ?_
  refine lv_dup S.1 S.2.1 dX2_init_19 rfl ?_
  refine ci_call (ws := [(h0, .inr (2, [.ref q0, .null, .long 0, .null, .int 0])), (q0, .inr (0, [.long 0, .long 0, .long 0, .long 0, .long 0, .long 0, .long 0, .long 0, .long 0, .long 0, .long 0, .long 0]))]) (a := q2) (rest := [.ref q2, .ref h0]) S (i_X0 l D cI cJ cH) im_X0 iw_74 hK hX hP hD hS hA (by decide) hl.1 rfl (Nat.le_of_ble_eq_true rfl) (by decide) dX2_init_20 (fun u3 H locs hP hD hS => ?_)
  have hP : va_P D vwCl [(h0, .inr (2, [.ref q0, .null, .long 0, .null, .int 0])), (q0, .inr (0, [.long 0, .long 0, .long 0, .long 0, .long 0, .long 0, .long 0, .long 0, .long 0, .long 0, .long 0, .long 0])), (q2, .inr (0, [.long 0, .long 0, .long 0, .long 0, .long 0, .long 0, .long 0, .long 0, .long 0, .long 0, .long 0, .long 0]))] H := hP
  have hD : va_D (fA h0 s.heap.size) [(h0, .inr (2, [.ref q0, .null, .long 0, .null, .int 0])), (q0, .inr (0, [.long 0, .long 0, .long 0, .long 0, .long 0, .long 0, .long 0, .long 0, .long 0, .long 0, .long 0, .long 0])), (q2, .inr (0, [.long 0, .long 0, .long 0, .long 0, .long 0, .long 0, .long 0, .long 0, .long 0, .long 0, .long 0, .long 0]))] := hD
  refine W.widen (k := 2) (n := 24) (by decide) (by decide) ?_
  refine va_putF (ci := 2) (v := .ref q2) (ty := tyX2 1) (C := RX2) (T := TX2) (N := 5) S.1 S.2.1 S.2.2.2.2 gX2 tyX2 tyX2_ok nmX2 S.2.2.2.1 hK hP hD hS 0 rfl rfl 1 (by decide) (S.2.2.2.2 _ iw_76) (fun _ h9 => h9) rfl hin rfl (tyX2_ok 1 (by decide)) rfl rfl (Nat.le_of_ble_eq_true rfl) dX2_init_23 (fun H locs hP hD hS => ?_)
  have hP : va_P D vwCl [(h0, .inr (2, [.ref q0, .ref q2, .long 0, .null, .int 0])), (q0, .inr (0, [.long 0, .long 0, .long 0, .long 0, .long 0, .long 0, .long 0, .long 0, .long 0, .long 0, .long 0, .long 0])), (q2, .inr (0, [.long 0, .long 0, .long 0, .long 0, .long 0, .long 0, .long 0, .long 0, .long 0, .long 0, .long 0, .long 0]))] H := hP
  have hD : va_D (fA h0 s.heap.size) [(h0, .inr (2, [.ref q0, .ref q2, .long 0, .null, .int 0])), (q0, .inr (0, [.long 0, .long 0, .long 0, .long 0, .long 0, .long 0, .long 0, .long 0, .long 0, .long 0, .long 0, .long 0])), (q2, .inr (0, [.long 0, .long 0, .long 0, .long 0, .long 0, .long 0, .long 0, .long 0, .long 0, .long 0, .long 0, .long 0]))] := hD
  refine lv_aload_n S.1 S.2.1 dX2_init_26 rfl (lv_at hl 0 rfl) ?_
  refine lv_lconst (v := 1) S.1 S.2.1 dX2_init_27 (by decide) ?_
  refine va_put (ci := 2) (v := .long 1) (ty := tyX2 2) (C := RX2) (T := TX2) (N := 5) S.1 S.2.1 S.2.2.2.2 gX2 tyX2 tyX2_ok nmX2 S.2.2.2.1 hK hP hD hS 0 rfl rfl 2 (by decide) (S.2.2.2.2 _ iw_77) (fun _ h9 => h9) rfl (tyX2_ok 2 (by decide)) rfl rfl (Nat.le_of_ble_eq_true rfl) dX2_init_28 (fun H locs hP hD hS => ?_)
  have hP : va_P D vwCl [(h0, .inr (2, [.ref q0, .ref q2, .long 1, .null, .int 0])), (q0, .inr (0, [.long 0, .long 0, .long 0, .long 0, .long 0, .long 0, .long 0, .long 0, .long 0, .long 0, .long 0, .long 0])), (q2, .inr (0, [.long 0, .long 0, .long 0, .long 0, .long 0, .long 0, .long 0, .long 0, .long 0, .long 0, .long 0, .long 0]))] H := hP
  have hD : va_D (fA h0 s.heap.size) [(h0, .inr (2, [.ref q0, .ref q2, .long 1, .null, .int 0])), (q0, .inr (0, [.long 0, .long 0, .long 0, .long 0, .long 0, .long 0, .long 0, .long 0, .long 0, .long 0, .long 0, .long 0])), (q2, .inr (0, [.long 0, .long 0, .long 0, .long 0, .long 0, .long 0, .long 0, .long 0, .long 0, .long 0, .long 0, .long 0]))] := hD
  refine lv_aload_n S.1 S.2.1 dX2_init_31 rfl (lv_at hl 0 rfl) ?_
  refine va_new (ci := 3) (fs := [.null, .int 0]) (C := RX5) (T := TX5) (N := 2) S.1 S.2.1 S.2.2.2.2 gX5 tyX5 tyX5_ok S.2.2.2.1 (S.2.2.2.2 _ iw_78) (S.2.2.2.2 _ iw_16) (S.2.2.2.2 _ iw_17) hK hP hD hS hA rfl (fun j hj => by rcases (show j = 0 ∨ j = 1 by omega) with rfl | rfl <;> rfl) (by decide) (by decide) dX2_init_32 (fun q4 H hP hD hS => ?_)
  have hP : va_P D vwCl [(h0, .inr (2, [.ref q0, .ref q2, .long 1, .null, .int 0])), (q0, .inr (0, [.long 0, .long 0, .long 0, .long 0, .long 0, .long 0, .long 0, .long 0, .long 0, .long 0, .long 0, .long 0])), (q2, .inr (0, [.long 0, .long 0, .long 0, .long 0, .long 0, .long 0, .long 0, .long 0, .long 0, .long 0, .long 0, .long 0])), (q4, .inr (3, [.null, .int 0]))] H := hP
  have hD : va_D (fA h0 s.heap.size) [(h0, .inr (2, [.ref q0, .ref q2, .long 1, .null, .int 0])), (q0, .inr (0, [.long 0, .long 0, .long 0, .long 0, .long 0, .long 0, .long 0, .long 0, .long 0, .long 0, .long 0, .long 0])), (q2, .inr (0, [.long 0, .long 0, .long 0, .long 0, .long 0, .long 0, .long 0, .long 0, .long 0, .long 0, .long 0, .long 0])), (q4, .inr (3, [.null, .int 0]))] := hD
  refine W.widen (k := 3) (n := 26) (by decide) (by decide) ?_
  refine lv_dup S.1 S.2.1 dX2_init_35 rfl ?_
  refine ci_call (ws := [(h0, .inr (2, [.ref q0, .ref q2, .long 1, .null, .int 0])), (q0, .inr (0, [.long 0, .long 0, .long 0, .long 0, .long 0, .long 0, .long 0, .long 0, .long 0, .long 0, .long 0, .long 0])), (q2, .inr (0, [.long 0, .long 0, .long 0, .long 0, .long 0, .long 0, .long 0, .long 0, .long 0, .long 0, .long 0, .long 0]))]) (a := q4) (rest := [.ref q4, .ref h0]) S (i_X5 l D cI cJ cH) im_X5 iw_79 hK hX hP hD hS hA (by decide) hl.1 rfl (Nat.le_of_ble_eq_true rfl) (by decide) dX2_init_36 (fun u5 H locs hP hD hS => ?_)
  obtain ⟨a5_0, rfl⟩ : ∃ z, z = u5 := ⟨_, rfl⟩
  have hP : va_P D vwCl [(h0, .inr (2, [.ref q0, .ref q2, .long 1, .null, .int 0])), (q0, .inr (0, [.long 0, .long 0, .long 0, .long 0, .long 0, .long 0, .long 0, .long 0, .long 0, .long 0, .long 0, .long 0])), (q2, .inr (0, [.long 0, .long 0, .long 0, .long 0, .long 0, .long 0, .long 0, .long 0, .long 0, .long 0, .long 0, .long 0])), (q4, .inr (3, [.ref a5_0, .int 0])), (a5_0, .inl (cI, 16, .inl (fun _ => 0)))] H := hP
  have hD : va_D (fA h0 s.heap.size) [(h0, .inr (2, [.ref q0, .ref q2, .long 1, .null, .int 0])), (q0, .inr (0, [.long 0, .long 0, .long 0, .long 0, .long 0, .long 0, .long 0, .long 0, .long 0, .long 0, .long 0, .long 0])), (q2, .inr (0, [.long 0, .long 0, .long 0, .long 0, .long 0, .long 0, .long 0, .long 0, .long 0, .long 0, .long 0, .long 0])), (q4, .inr (3, [.ref a5_0, .int 0])), (a5_0, .inl (cI, 16, .inl (fun _ => 0)))] := hD
  refine W.widen (k := 4) (n := 42) (by decide) (by decide) ?_
  refine va_putF (ci := 2) (v := .ref q4) (ty := tyX2 3) (C := RX2) (T := TX2) (N := 5) S.1 S.2.1 S.2.2.2.2 gX2 tyX2 tyX2_ok nmX2 S.2.2.2.1 hK hP hD hS 0 rfl rfl 3 (by decide) (S.2.2.2.2 _ iw_80) (fun _ h9 => h9) rfl hin rfl (tyX2_ok 3 (by decide)) rfl rfl (Nat.le_of_ble_eq_true rfl) dX2_init_39 (fun H locs hP hD hS => ?_)
  have hP : va_P D vwCl [(h0, .inr (2, [.ref q0, .ref q2, .long 1, .ref q4, .int 0])), (q0, .inr (0, [.long 0, .long 0, .long 0, .long 0, .long 0, .long 0, .long 0, .long 0, .long 0, .long 0, .long 0, .long 0])), (q2, .inr (0, [.long 0, .long 0, .long 0, .long 0, .long 0, .long 0, .long 0, .long 0, .long 0, .long 0, .long 0, .long 0])), (q4, .inr (3, [.ref a5_0, .int 0])), (a5_0, .inl (cI, 16, .inl (fun _ => 0)))] H := hP
  have hD : va_D (fA h0 s.heap.size) [(h0, .inr (2, [.ref q0, .ref q2, .long 1, .ref q4, .int 0])), (q0, .inr (0, [.long 0, .long 0, .long 0, .long 0, .long 0, .long 0, .long 0, .long 0, .long 0, .long 0, .long 0, .long 0])), (q2, .inr (0, [.long 0, .long 0, .long 0, .long 0, .long 0, .long 0, .long 0, .long 0, .long 0, .long 0, .long 0, .long 0])), (q4, .inr (3, [.ref a5_0, .int 0])), (a5_0, .inl (cI, 16, .inl (fun _ => 0)))] := hD
  refine lv_aload_n S.1 S.2.1 dX2_init_42 rfl (lv_at hl 0 rfl) ?_
  refine lv_iconst (v := 0) S.1 S.2.1 dX2_init_43 (by decide) ?_
  refine va_put (ci := 2) (v := .int 0) (ty := tyX2 4) (C := RX2) (T := TX2) (N := 5) S.1 S.2.1 S.2.2.2.2 gX2 tyX2 tyX2_ok nmX2 S.2.2.2.1 hK hP hD hS 0 rfl rfl 4 (by decide) (S.2.2.2.2 _ iw_81) (fun _ h9 => h9) rfl (tyX2_ok 4 (by decide)) rfl rfl (Nat.le_of_ble_eq_true rfl) dX2_init_44 (fun H locs hP hD hS => ?_)
  have hP : va_P D vwCl [(h0, .inr (2, [.ref q0, .ref q2, .long 1, .ref q4, .int 0])), (q0, .inr (0, [.long 0, .long 0, .long 0, .long 0, .long 0, .long 0, .long 0, .long 0, .long 0, .long 0, .long 0, .long 0])), (q2, .inr (0, [.long 0, .long 0, .long 0, .long 0, .long 0, .long 0, .long 0, .long 0, .long 0, .long 0, .long 0, .long 0])), (q4, .inr (3, [.ref a5_0, .int 0])), (a5_0, .inl (cI, 16, .inl (fun _ => 0)))] H := hP
  have hD : va_D (fA h0 s.heap.size) [(h0, .inr (2, [.ref q0, .ref q2, .long 1, .ref q4, .int 0])), (q0, .inr (0, [.long 0, .long 0, .long 0, .long 0, .long 0, .long 0, .long 0, .long 0, .long 0, .long 0, .long 0, .long 0])), (q2, .inr (0, [.long 0, .long 0, .long 0, .long 0, .long 0, .long 0, .long 0, .long 0, .long 0, .long 0, .long 0, .long 0])), (q4, .inr (3, [.ref a5_0, .int 0])), (a5_0, .inl (cI, 16, .inl (fun _ => 0)))] := hD
  exact W.vret S.1 S.2.1 hr (fun t ht _ => ⟨⟨⟨q0, q2, q4, a5_0⟩, rfl, trivial, by rw [ht]; exact hP, hD⟩, hS.F ht⟩) hS.2.2 dX2_init_47 hlk
theorem im_X6 : pm_Im yX6_init cX6_init 1 := ⟨iw_23, iw_22, iw_21, by decide, by decide, rfl⟩
def wX6 (cI cJ cH : ClassId) (h : Nat) (u : Nat × Nat) : va_W := [(h, .inr (4, [.ref u.1, .ref u.2, .int 0])), (u.1, .inl (cI, 242, .inl (fun _ => 0))), (u.2, .inl (cI, 242, .inl (fun _ => 0)))]
set_option maxRecDepth 20000 in
set_option maxHeartbeats 4000000 in
theorem i_X6 (l : Launch) (D : va_G) (cI cJ cH : ClassId) : IC l yX6_init cX6_init 1 ({ frames := 1, cells := 2, slots := 484, locals := 30 } : Room) D cI cJ cH (.inr (4, [.null, .null, .int 0])) (wX6 cI cJ cH) := by
  intro h0 sz
  refine pi_of (by decide) (Nat.le_of_ble_eq_true rfl) ?_
  intro p e s m below meth c S hr hlk hin hv ls hl
  obtain ⟨hsz, hP0, hK, hX⟩ := hv
  subst hsz
  have hP := ci_P1 hP0
  have hD : va_D (fA h0 s.heap.size) [(h0, .inr (4, [.null, .null, .int 0]))] := ci_D1
  have hS : va_S (fA h0 s.heap.size) s.heap s.heap [] := va_S.rf
  have hA : ∀ q, s.heap.size ≤ q → fA h0 s.heap.size q := fun q h => Or.inr h
  have hl : lv_has ls 1 [(0, .ref h0)] := hl
  refine lv_aload_n S.1 S.2.1 dX6_init_0 rfl (lv_at hl 0 rfl) ?_
  refine ci_obj S iw_85 hl.1 (by decide) dX6_init_1 ?_
  refine lv_aload_n S.1 S.2.1 dX6_init_4 rfl (lv_at hl 0 rfl) ?_
  refine lv_sipush (v := 242) S.1 S.2.1 dX6_init_5 (by decide) ?_
  refine ci_newI (N' := 242) S hK hP hD hS hA (by decide) (by decide) (by decide) (by decide) (by decide) dX6_init_8 (fun q0 H hP hD hS => ?_)
  have hP : va_P D vwCl [(h0, .inr (4, [.null, .null, .int 0])), (q0, .inl (cI, 242, .inl (fun _ => 0)))] H := hP
  have hD : va_D (fA h0 s.heap.size) [(h0, .inr (4, [.null, .null, .int 0])), (q0, .inl (cI, 242, .inl (fun _ => 0)))] := hD
  refine W.widen (k := 1) (n := 242) (by decide) (by decide) ?_
  refine va_putF (ci := 4) (v := .ref q0) (ty := tyX6 0) (C := RX6) (T := TX6) (N := 3) S.1 S.2.1 S.2.2.2.2 gX6 tyX6 tyX6_ok nmX6 S.2.2.2.1 hK hP hD hS 0 rfl rfl 0 (by decide) (S.2.2.2.2 _ iw_86) (fun _ h9 => h9) rfl hin rfl (tyX6_ok 0 (by decide)) rfl rfl (Nat.le_of_ble_eq_true rfl) dX6_init_10 (fun H locs hP hD hS => ?_)
  have hP : va_P D vwCl [(h0, .inr (4, [.ref q0, .null, .int 0])), (q0, .inl (cI, 242, .inl (fun _ => 0)))] H := hP
  have hD : va_D (fA h0 s.heap.size) [(h0, .inr (4, [.ref q0, .null, .int 0])), (q0, .inl (cI, 242, .inl (fun _ => 0)))] := hD
  refine lv_aload_n S.1 S.2.1 dX6_init_13 rfl (lv_at hl 0 rfl) ?_
  refine lv_sipush (v := 242) S.1 S.2.1 dX6_init_14 (by decide) ?_
  refine ci_newI (N' := 242) S hK hP hD hS hA (by decide) (by decide) (by decide) (by decide) (by decide) dX6_init_17 (fun q1 H hP hD hS => ?_)
  have hP : va_P D vwCl [(h0, .inr (4, [.ref q0, .null, .int 0])), (q0, .inl (cI, 242, .inl (fun _ => 0))), (q1, .inl (cI, 242, .inl (fun _ => 0)))] H := hP
  have hD : va_D (fA h0 s.heap.size) [(h0, .inr (4, [.ref q0, .null, .int 0])), (q0, .inl (cI, 242, .inl (fun _ => 0))), (q1, .inl (cI, 242, .inl (fun _ => 0)))] := hD
  refine W.widen (k := 2) (n := 484) (by decide) (by decide) ?_
  refine va_putF (ci := 4) (v := .ref q1) (ty := tyX6 1) (C := RX6) (T := TX6) (N := 3) S.1 S.2.1 S.2.2.2.2 gX6 tyX6 tyX6_ok nmX6 S.2.2.2.1 hK hP hD hS 0 rfl rfl 1 (by decide) (S.2.2.2.2 _ iw_87) (fun _ h9 => h9) rfl hin rfl (tyX6_ok 1 (by decide)) rfl rfl (Nat.le_of_ble_eq_true rfl) dX6_init_19 (fun H locs hP hD hS => ?_)
  have hP : va_P D vwCl [(h0, .inr (4, [.ref q0, .ref q1, .int 0])), (q0, .inl (cI, 242, .inl (fun _ => 0))), (q1, .inl (cI, 242, .inl (fun _ => 0)))] H := hP
  have hD : va_D (fA h0 s.heap.size) [(h0, .inr (4, [.ref q0, .ref q1, .int 0])), (q0, .inl (cI, 242, .inl (fun _ => 0))), (q1, .inl (cI, 242, .inl (fun _ => 0)))] := hD
  refine lv_aload_n S.1 S.2.1 dX6_init_22 rfl (lv_at hl 0 rfl) ?_
  refine lv_iconst (v := 0) S.1 S.2.1 dX6_init_23 (by decide) ?_
  refine va_put (ci := 4) (v := .int 0) (ty := tyX6 2) (C := RX6) (T := TX6) (N := 3) S.1 S.2.1 S.2.2.2.2 gX6 tyX6 tyX6_ok nmX6 S.2.2.2.1 hK hP hD hS 0 rfl rfl 2 (by decide) (S.2.2.2.2 _ iw_88) (fun _ h9 => h9) rfl (tyX6_ok 2 (by decide)) rfl rfl (Nat.le_of_ble_eq_true rfl) dX6_init_24 (fun H locs hP hD hS => ?_)
  have hP : va_P D vwCl [(h0, .inr (4, [.ref q0, .ref q1, .int 0])), (q0, .inl (cI, 242, .inl (fun _ => 0))), (q1, .inl (cI, 242, .inl (fun _ => 0)))] H := hP
  have hD : va_D (fA h0 s.heap.size) [(h0, .inr (4, [.ref q0, .ref q1, .int 0])), (q0, .inl (cI, 242, .inl (fun _ => 0))), (q1, .inl (cI, 242, .inl (fun _ => 0)))] := hD
  exact W.vret S.1 S.2.1 hr (fun t ht _ => ⟨⟨⟨q0, q1⟩, rfl, trivial, by rw [ht]; exact hP, hD⟩, hS.F ht⟩) hS.2.2 dX6_init_27 hlk
theorem im_X8 : pm_Im yX8_init cX8_init 1 := ⟨iw_31, iw_30, iw_29, by decide, by decide, rfl⟩
def wX8 (cI cJ cH : ClassId) (h : Nat) (u : Nat × Nat × Nat × Nat × Nat × Nat × Nat × Nat × Nat × Nat) : va_W := [(h, .inr (6, [.int 0, .int 0, .ref u.1, .ref u.2.1, .ref u.2.2.1, .ref u.2.2.2.1, .int 0, .ref u.2.2.2.2.1, .long 0, .ref u.2.2.2.2.2.1, .long 0, .ref u.2.2.2.2.2.2.1, .ref u.2.2.2.2.2.2.2.1, .ref u.2.2.2.2.2.2.2.2.1, .ref u.2.2.2.2.2.2.2.2.2, .int 0])), (u.1, .inl (cJ, 80, .inr (.inl (fun _ => 0)))), (u.2.1, .inl (cJ, 5, .inr (.inl (fun _ => 0)))), (u.2.2.1, .inl (cJ, 5, .inr (.inl (fun _ => 0)))), (u.2.2.2.1, .inl (cJ, 20, .inr (.inl (fun _ => 0)))), (u.2.2.2.2.1, .inl (cI, 8, .inl (fun _ => 0))), (u.2.2.2.2.2.1, .inl (cJ, 5, .inr (.inl (fun _ => 0)))), (u.2.2.2.2.2.2.1, .inl (cJ, 5, .inr (.inl (fun _ => 0)))), (u.2.2.2.2.2.2.2.1, .inl (cJ, 5, .inr (.inl (fun _ => 0)))), (u.2.2.2.2.2.2.2.2.1, .inl (cI, 14, .inl tw1)), (u.2.2.2.2.2.2.2.2.2, .inl (cJ, 484, .inr (.inl (fun _ => 0))))]
set_option maxRecDepth 20000 in
set_option maxHeartbeats 4000000 in
theorem i_X8 (l : Launch) (D : va_G) (cI cJ cH : ClassId) : IC l yX8_init cX8_init 1 ({ frames := 1, cells := 10, slots := 631, locals := 30 } : Room) D cI cJ cH (.inr (6, [.int 0, .int 0, .null, .null, .null, .null, .int 0, .null, .long 0, .null, .long 0, .null, .null, .null, .null, .int 0])) (wX8 cI cJ cH) := by
  intro h0 sz
  refine pi_of (by decide) (Nat.le_of_ble_eq_true rfl) ?_
  intro p e s m below meth c S hr hlk hin hv ls hl
  obtain ⟨hsz, hP0, hK, hX⟩ := hv
  subst hsz
  have hP := ci_P1 hP0
  have hD : va_D (fA h0 s.heap.size) [(h0, .inr (6, [.int 0, .int 0, .null, .null, .null, .null, .int 0, .null, .long 0, .null, .long 0, .null, .null, .null, .null, .int 0]))] := ci_D1
  have hS : va_S (fA h0 s.heap.size) s.heap s.heap [] := va_S.rf
  have hA : ∀ q, s.heap.size ≤ q → fA h0 s.heap.size q := fun q h => Or.inr h
  have hl : lv_has ls 1 [(0, .ref h0)] := hl
  have hf0 : ∀ j, j < 0 → (fun _ : Nat => (0 : Int32)) j = tw1 j := fun j h => absurd h (Nat.not_lt_zero j)
  refine lv_aload_n S.1 S.2.1 dX8_init_0 rfl (lv_at hl 0 rfl) ?_
  refine ci_obj S iw_48 hl.1 (by decide) dX8_init_1 ?_
  refine lv_aload_n S.1 S.2.1 dX8_init_4 rfl (lv_at hl 0 rfl) ?_
  refine lv_bipush (v := 80) S.1 S.2.1 dX8_init_5 (by decide) ?_
  refine ci_newJ (N' := 80) S hK hP hD hS hA (by decide) (by decide) (by decide) (by decide) (by decide) dX8_init_7 (fun q0 H hP hD hS => ?_)
  have hP : va_P D vwCl [(h0, .inr (6, [.int 0, .int 0, .null, .null, .null, .null, .int 0, .null, .long 0, .null, .long 0, .null, .null, .null, .null, .int 0])), (q0, .inl (cJ, 80, .inr (.inl (fun _ => 0))))] H := hP
  have hD : va_D (fA h0 s.heap.size) [(h0, .inr (6, [.int 0, .int 0, .null, .null, .null, .null, .int 0, .null, .long 0, .null, .long 0, .null, .null, .null, .null, .int 0])), (q0, .inl (cJ, 80, .inr (.inl (fun _ => 0))))] := hD
  refine W.widen (k := 1) (n := 80) (by decide) (by decide) ?_
  refine va_putF (ci := 6) (v := .ref q0) (ty := tyX8 2) (C := RX8) (T := TX8) (N := 16) S.1 S.2.1 S.2.2.2.2 gX8 tyX8 tyX8_ok nmX8 S.2.2.2.1 hK hP hD hS 0 rfl rfl 2 (by decide) (S.2.2.2.2 _ iw_49) (fun _ h9 => h9) rfl hin rfl (tyX8_ok 2 (by decide)) rfl rfl (Nat.le_of_ble_eq_true rfl) dX8_init_9 (fun H locs hP hD hS => ?_)
  have hP : va_P D vwCl [(h0, .inr (6, [.int 0, .int 0, .ref q0, .null, .null, .null, .int 0, .null, .long 0, .null, .long 0, .null, .null, .null, .null, .int 0])), (q0, .inl (cJ, 80, .inr (.inl (fun _ => 0))))] H := hP
  have hD : va_D (fA h0 s.heap.size) [(h0, .inr (6, [.int 0, .int 0, .ref q0, .null, .null, .null, .int 0, .null, .long 0, .null, .long 0, .null, .null, .null, .null, .int 0])), (q0, .inl (cJ, 80, .inr (.inl (fun _ => 0))))] := hD
  refine lv_aload_n S.1 S.2.1 dX8_init_12 rfl (lv_at hl 0 rfl) ?_
  refine lv_iconst (v := 5) S.1 S.2.1 dX8_init_13 (by decide) ?_
  refine ci_newJ (N' := 5) S hK hP hD hS hA (by decide) (by decide) (by decide) (by decide) (by decide) dX8_init_14 (fun q1 H hP hD hS => ?_)
  have hP : va_P D vwCl [(h0, .inr (6, [.int 0, .int 0, .ref q0, .null, .null, .null, .int 0, .null, .long 0, .null, .long 0, .null, .null, .null, .null, .int 0])), (q0, .inl (cJ, 80, .inr (.inl (fun _ => 0)))), (q1, .inl (cJ, 5, .inr (.inl (fun _ => 0))))] H := hP
  have hD : va_D (fA h0 s.heap.size) [(h0, .inr (6, [.int 0, .int 0, .ref q0, .null, .null, .null, .int 0, .null, .long 0, .null, .long 0, .null, .null, .null, .null, .int 0])), (q0, .inl (cJ, 80, .inr (.inl (fun _ => 0)))), (q1, .inl (cJ, 5, .inr (.inl (fun _ => 0))))] := hD
  refine W.widen (k := 2) (n := 85) (by decide) (by decide) ?_
  refine va_putF (ci := 6) (v := .ref q1) (ty := tyX8 3) (C := RX8) (T := TX8) (N := 16) S.1 S.2.1 S.2.2.2.2 gX8 tyX8 tyX8_ok nmX8 S.2.2.2.1 hK hP hD hS 0 rfl rfl 3 (by decide) (S.2.2.2.2 _ iw_50) (fun _ h9 => h9) rfl hin rfl (tyX8_ok 3 (by decide)) rfl rfl (Nat.le_of_ble_eq_true rfl) dX8_init_16 (fun H locs hP hD hS => ?_)
  have hP : va_P D vwCl [(h0, .inr (6, [.int 0, .int 0, .ref q0, .ref q1, .null, .null, .int 0, .null, .long 0, .null, .long 0, .null, .null, .null, .null, .int 0])), (q0, .inl (cJ, 80, .inr (.inl (fun _ => 0)))), (q1, .inl (cJ, 5, .inr (.inl (fun _ => 0))))] H := hP
  have hD : va_D (fA h0 s.heap.size) [(h0, .inr (6, [.int 0, .int 0, .ref q0, .ref q1, .null, .null, .int 0, .null, .long 0, .null, .long 0, .null, .null, .null, .null, .int 0])), (q0, .inl (cJ, 80, .inr (.inl (fun _ => 0)))), (q1, .inl (cJ, 5, .inr (.inl (fun _ => 0))))] := hD
  refine lv_aload_n S.1 S.2.1 dX8_init_19 rfl (lv_at hl 0 rfl) ?_
  refine lv_iconst (v := 5) S.1 S.2.1 dX8_init_20 (by decide) ?_
  refine ci_newJ (N' := 5) S hK hP hD hS hA (by decide) (by decide) (by decide) (by decide) (by decide) dX8_init_21 (fun q2 H hP hD hS => ?_)
  have hP : va_P D vwCl [(h0, .inr (6, [.int 0, .int 0, .ref q0, .ref q1, .null, .null, .int 0, .null, .long 0, .null, .long 0, .null, .null, .null, .null, .int 0])), (q0, .inl (cJ, 80, .inr (.inl (fun _ => 0)))), (q1, .inl (cJ, 5, .inr (.inl (fun _ => 0)))), (q2, .inl (cJ, 5, .inr (.inl (fun _ => 0))))] H := hP
  have hD : va_D (fA h0 s.heap.size) [(h0, .inr (6, [.int 0, .int 0, .ref q0, .ref q1, .null, .null, .int 0, .null, .long 0, .null, .long 0, .null, .null, .null, .null, .int 0])), (q0, .inl (cJ, 80, .inr (.inl (fun _ => 0)))), (q1, .inl (cJ, 5, .inr (.inl (fun _ => 0)))), (q2, .inl (cJ, 5, .inr (.inl (fun _ => 0))))] := hD
  refine W.widen (k := 3) (n := 90) (by decide) (by decide) ?_
  refine va_putF (ci := 6) (v := .ref q2) (ty := tyX8 4) (C := RX8) (T := TX8) (N := 16) S.1 S.2.1 S.2.2.2.2 gX8 tyX8 tyX8_ok nmX8 S.2.2.2.1 hK hP hD hS 0 rfl rfl 4 (by decide) (S.2.2.2.2 _ iw_51) (fun _ h9 => h9) rfl hin rfl (tyX8_ok 4 (by decide)) rfl rfl (Nat.le_of_ble_eq_true rfl) dX8_init_23 (fun H locs hP hD hS => ?_)
  have hP : va_P D vwCl [(h0, .inr (6, [.int 0, .int 0, .ref q0, .ref q1, .ref q2, .null, .int 0, .null, .long 0, .null, .long 0, .null, .null, .null, .null, .int 0])), (q0, .inl (cJ, 80, .inr (.inl (fun _ => 0)))), (q1, .inl (cJ, 5, .inr (.inl (fun _ => 0)))), (q2, .inl (cJ, 5, .inr (.inl (fun _ => 0))))] H := hP
  have hD : va_D (fA h0 s.heap.size) [(h0, .inr (6, [.int 0, .int 0, .ref q0, .ref q1, .ref q2, .null, .int 0, .null, .long 0, .null, .long 0, .null, .null, .null, .null, .int 0])), (q0, .inl (cJ, 80, .inr (.inl (fun _ => 0)))), (q1, .inl (cJ, 5, .inr (.inl (fun _ => 0)))), (q2, .inl (cJ, 5, .inr (.inl (fun _ => 0))))] := hD
  refine lv_aload_n S.1 S.2.1 dX8_init_26 rfl (lv_at hl 0 rfl) ?_
  refine lv_bipush (v := 20) S.1 S.2.1 dX8_init_27 (by decide) ?_
  refine ci_newJ (N' := 20) S hK hP hD hS hA (by decide) (by decide) (by decide) (by decide) (by decide) dX8_init_29 (fun q3 H hP hD hS => ?_)
  have hP : va_P D vwCl [(h0, .inr (6, [.int 0, .int 0, .ref q0, .ref q1, .ref q2, .null, .int 0, .null, .long 0, .null, .long 0, .null, .null, .null, .null, .int 0])), (q0, .inl (cJ, 80, .inr (.inl (fun _ => 0)))), (q1, .inl (cJ, 5, .inr (.inl (fun _ => 0)))), (q2, .inl (cJ, 5, .inr (.inl (fun _ => 0)))), (q3, .inl (cJ, 20, .inr (.inl (fun _ => 0))))] H := hP
  have hD : va_D (fA h0 s.heap.size) [(h0, .inr (6, [.int 0, .int 0, .ref q0, .ref q1, .ref q2, .null, .int 0, .null, .long 0, .null, .long 0, .null, .null, .null, .null, .int 0])), (q0, .inl (cJ, 80, .inr (.inl (fun _ => 0)))), (q1, .inl (cJ, 5, .inr (.inl (fun _ => 0)))), (q2, .inl (cJ, 5, .inr (.inl (fun _ => 0)))), (q3, .inl (cJ, 20, .inr (.inl (fun _ => 0))))] := hD
  refine W.widen (k := 4) (n := 110) (by decide) (by decide) ?_
  refine va_putF (ci := 6) (v := .ref q3) (ty := tyX8 5) (C := RX8) (T := TX8) (N := 16) S.1 S.2.1 S.2.2.2.2 gX8 tyX8 tyX8_ok nmX8 S.2.2.2.1 hK hP hD hS 0 rfl rfl 5 (by decide) (S.2.2.2.2 _ iw_52) (fun _ h9 => h9) rfl hin rfl (tyX8_ok 5 (by decide)) rfl rfl (Nat.le_of_ble_eq_true rfl) dX8_init_31 (fun H locs hP hD hS => ?_)
  have hP : va_P D vwCl [(h0, .inr (6, [.int 0, .int 0, .ref q0, .ref q1, .ref q2, .ref q3, .int 0, .null, .long 0, .null, .long 0, .null, .null, .null, .null, .int 0])), (q0, .inl (cJ, 80, .inr (.inl (fun _ => 0)))), (q1, .inl (cJ, 5, .inr (.inl (fun _ => 0)))), (q2, .inl (cJ, 5, .inr (.inl (fun _ => 0)))), (q3, .inl (cJ, 20, .inr (.inl (fun _ => 0))))] H := hP
  have hD : va_D (fA h0 s.heap.size) [(h0, .inr (6, [.int 0, .int 0, .ref q0, .ref q1, .ref q2, .ref q3, .int 0, .null, .long 0, .null, .long 0, .null, .null, .null, .null, .int 0])), (q0, .inl (cJ, 80, .inr (.inl (fun _ => 0)))), (q1, .inl (cJ, 5, .inr (.inl (fun _ => 0)))), (q2, .inl (cJ, 5, .inr (.inl (fun _ => 0)))), (q3, .inl (cJ, 20, .inr (.inl (fun _ => 0))))] := hD
  refine lv_aload_n S.1 S.2.1 dX8_init_34 rfl (lv_at hl 0 rfl) ?_
  refine lv_bipush (v := 8) S.1 S.2.1 dX8_init_35 (by decide) ?_
  refine ci_newI (N' := 8) S hK hP hD hS hA (by decide) (by decide) (by decide) (by decide) (by decide) dX8_init_37 (fun q4 H hP hD hS => ?_)
  have hP : va_P D vwCl [(h0, .inr (6, [.int 0, .int 0, .ref q0, .ref q1, .ref q2, .ref q3, .int 0, .null, .long 0, .null, .long 0, .null, .null, .null, .null, .int 0])), (q0, .inl (cJ, 80, .inr (.inl (fun _ => 0)))), (q1, .inl (cJ, 5, .inr (.inl (fun _ => 0)))), (q2, .inl (cJ, 5, .inr (.inl (fun _ => 0)))), (q3, .inl (cJ, 20, .inr (.inl (fun _ => 0)))), (q4, .inl (cI, 8, .inl (fun _ => 0)))] H := hP
  have hD : va_D (fA h0 s.heap.size) [(h0, .inr (6, [.int 0, .int 0, .ref q0, .ref q1, .ref q2, .ref q3, .int 0, .null, .long 0, .null, .long 0, .null, .null, .null, .null, .int 0])), (q0, .inl (cJ, 80, .inr (.inl (fun _ => 0)))), (q1, .inl (cJ, 5, .inr (.inl (fun _ => 0)))), (q2, .inl (cJ, 5, .inr (.inl (fun _ => 0)))), (q3, .inl (cJ, 20, .inr (.inl (fun _ => 0)))), (q4, .inl (cI, 8, .inl (fun _ => 0)))] := hD
  refine W.widen (k := 5) (n := 118) (by decide) (by decide) ?_
  refine va_putF (ci := 6) (v := .ref q4) (ty := tyX8 7) (C := RX8) (T := TX8) (N := 16) S.1 S.2.1 S.2.2.2.2 gX8 tyX8 tyX8_ok nmX8 S.2.2.2.1 hK hP hD hS 0 rfl rfl 7 (by decide) (S.2.2.2.2 _ iw_53) (fun _ h9 => h9) rfl hin rfl (tyX8_ok 7 (by decide)) rfl rfl (Nat.le_of_ble_eq_true rfl) dX8_init_39 (fun H locs hP hD hS => ?_)
  have hP : va_P D vwCl [(h0, .inr (6, [.int 0, .int 0, .ref q0, .ref q1, .ref q2, .ref q3, .int 0, .ref q4, .long 0, .null, .long 0, .null, .null, .null, .null, .int 0])), (q0, .inl (cJ, 80, .inr (.inl (fun _ => 0)))), (q1, .inl (cJ, 5, .inr (.inl (fun _ => 0)))), (q2, .inl (cJ, 5, .inr (.inl (fun _ => 0)))), (q3, .inl (cJ, 20, .inr (.inl (fun _ => 0)))), (q4, .inl (cI, 8, .inl (fun _ => 0)))] H := hP
  have hD : va_D (fA h0 s.heap.size) [(h0, .inr (6, [.int 0, .int 0, .ref q0, .ref q1, .ref q2, .ref q3, .int 0, .ref q4, .long 0, .null, .long 0, .null, .null, .null, .null, .int 0])), (q0, .inl (cJ, 80, .inr (.inl (fun _ => 0)))), (q1, .inl (cJ, 5, .inr (.inl (fun _ => 0)))), (q2, .inl (cJ, 5, .inr (.inl (fun _ => 0)))), (q3, .inl (cJ, 20, .inr (.inl (fun _ => 0)))), (q4, .inl (cI, 8, .inl (fun _ => 0)))] := hD
  refine lv_aload_n S.1 S.2.1 dX8_init_42 rfl (lv_at hl 0 rfl) ?_
  refine lv_iconst (v := 5) S.1 S.2.1 dX8_init_43 (by decide) ?_
  refine ci_newJ (N' := 5) S hK hP hD hS hA (by decide) (by decide) (by decide) (by decide) (by decide) dX8_init_44 (fun q5 H hP hD hS => ?_)
  have hP : va_P D vwCl [(h0, .inr (6, [.int 0, .int 0, .ref q0, .ref q1, .ref q2, .ref q3, .int 0, .ref q4, .long 0, .null, .long 0, .null, .null, .null, .null, .int 0])), (q0, .inl (cJ, 80, .inr (.inl (fun _ => 0)))), (q1, .inl (cJ, 5, .inr (.inl (fun _ => 0)))), (q2, .inl (cJ, 5, .inr (.inl (fun _ => 0)))), (q3, .inl (cJ, 20, .inr (.inl (fun _ => 0)))), (q4, .inl (cI, 8, .inl (fun _ => 0))), (q5, .inl (cJ, 5, .inr (.inl (fun _ => 0))))] H := hP
  have hD : va_D (fA h0 s.heap.size) [(h0, .inr (6, [.int 0, .int 0, .ref q0, .ref q1, .ref q2, .ref q3, .int 0, .ref q4, .long 0, .null, .long 0, .null, .null, .null, .null, .int 0])), (q0, .inl (cJ, 80, .inr (.inl (fun _ => 0)))), (q1, .inl (cJ, 5, .inr (.inl (fun _ => 0)))), (q2, .inl (cJ, 5, .inr (.inl (fun _ => 0)))), (q3, .inl (cJ, 20, .inr (.inl (fun _ => 0)))), (q4, .inl (cI, 8, .inl (fun _ => 0))), (q5, .inl (cJ, 5, .inr (.inl (fun _ => 0))))] := hD
  refine W.widen (k := 6) (n := 123) (by decide) (by decide) ?_
  refine va_putF (ci := 6) (v := .ref q5) (ty := tyX8 9) (C := RX8) (T := TX8) (N := 16) S.1 S.2.1 S.2.2.2.2 gX8 tyX8 tyX8_ok nmX8 S.2.2.2.1 hK hP hD hS 0 rfl rfl 9 (by decide) (S.2.2.2.2 _ iw_54) (fun _ h9 => h9) rfl hin rfl (tyX8_ok 9 (by decide)) rfl rfl (Nat.le_of_ble_eq_true rfl) dX8_init_46 (fun H locs hP hD hS => ?_)
  have hP : va_P D vwCl [(h0, .inr (6, [.int 0, .int 0, .ref q0, .ref q1, .ref q2, .ref q3, .int 0, .ref q4, .long 0, .ref q5, .long 0, .null, .null, .null, .null, .int 0])), (q0, .inl (cJ, 80, .inr (.inl (fun _ => 0)))), (q1, .inl (cJ, 5, .inr (.inl (fun _ => 0)))), (q2, .inl (cJ, 5, .inr (.inl (fun _ => 0)))), (q3, .inl (cJ, 20, .inr (.inl (fun _ => 0)))), (q4, .inl (cI, 8, .inl (fun _ => 0))), (q5, .inl (cJ, 5, .inr (.inl (fun _ => 0))))] H := hP
  have hD : va_D (fA h0 s.heap.size) [(h0, .inr (6, [.int 0, .int 0, .ref q0, .ref q1, .ref q2, .ref q3, .int 0, .ref q4, .long 0, .ref q5, .long 0, .null, .null, .null, .null, .int 0])), (q0, .inl (cJ, 80, .inr (.inl (fun _ => 0)))), (q1, .inl (cJ, 5, .inr (.inl (fun _ => 0)))), (q2, .inl (cJ, 5, .inr (.inl (fun _ => 0)))), (q3, .inl (cJ, 20, .inr (.inl (fun _ => 0)))), (q4, .inl (cI, 8, .inl (fun _ => 0))), (q5, .inl (cJ, 5, .inr (.inl (fun _ => 0))))] := hD
  refine lv_aload_n S.1 S.2.1 dX8_init_49 rfl (lv_at hl 0 rfl) ?_
  refine lv_iconst (v := 5) S.1 S.2.1 dX8_init_50 (by decide) ?_
  refine ci_newJ (N' := 5) S hK hP hD hS hA (by decide) (by decide) (by decide) (by decide) (by decide) dX8_init_51 (fun q6 H hP hD hS => ?_)
  have hP : va_P D vwCl [(h0, .inr (6, [.int 0, .int 0, .ref q0, .ref q1, .ref q2, .ref q3, .int 0, .ref q4, .long 0, .ref q5, .long 0, .null, .null, .null, .null, .int 0])), (q0, .inl (cJ, 80, .inr (.inl (fun _ => 0)))), (q1, .inl (cJ, 5, .inr (.inl (fun _ => 0)))), (q2, .inl (cJ, 5, .inr (.inl (fun _ => 0)))), (q3, .inl (cJ, 20, .inr (.inl (fun _ => 0)))), (q4, .inl (cI, 8, .inl (fun _ => 0))), (q5, .inl (cJ, 5, .inr (.inl (fun _ => 0)))), (q6, .inl (cJ, 5, .inr (.inl (fun _ => 0))))] H := hP
  have hD : va_D (fA h0 s.heap.size) [(h0, .inr (6, [.int 0, .int 0, .ref q0, .ref q1, .ref q2, .ref q3, .int 0, .ref q4, .long 0, .ref q5, .long 0, .null, .null, .null, .null, .int 0])), (q0, .inl (cJ, 80, .inr (.inl (fun _ => 0)))), (q1, .inl (cJ, 5, .inr (.inl (fun _ => 0)))), (q2, .inl (cJ, 5, .inr (.inl (fun _ => 0)))), (q3, .inl (cJ, 20, .inr (.inl (fun _ => 0)))), (q4, .inl (cI, 8, .inl (fun _ => 0))), (q5, .inl (cJ, 5, .inr (.inl (fun _ => 0)))), (q6, .inl (cJ, 5, .inr (.inl (fun _ => 0))))] := hD
  refine W.widen (k := 7) (n := 128) (by decide) (by decide) ?_
  refine va_putF (ci := 6) (v := .ref q6) (ty := tyX8 11) (C := RX8) (T := TX8) (N := 16) S.1 S.2.1 S.2.2.2.2 gX8 tyX8 tyX8_ok nmX8 S.2.2.2.1 hK hP hD hS 0 rfl rfl 11 (by decide) (S.2.2.2.2 _ iw_55) (fun _ h9 => h9) rfl hin rfl (tyX8_ok 11 (by decide)) rfl rfl (Nat.le_of_ble_eq_true rfl) dX8_init_53 (fun H locs hP hD hS => ?_)
  have hP : va_P D vwCl [(h0, .inr (6, [.int 0, .int 0, .ref q0, .ref q1, .ref q2, .ref q3, .int 0, .ref q4, .long 0, .ref q5, .long 0, .ref q6, .null, .null, .null, .int 0])), (q0, .inl (cJ, 80, .inr (.inl (fun _ => 0)))), (q1, .inl (cJ, 5, .inr (.inl (fun _ => 0)))), (q2, .inl (cJ, 5, .inr (.inl (fun _ => 0)))), (q3, .inl (cJ, 20, .inr (.inl (fun _ => 0)))), (q4, .inl (cI, 8, .inl (fun _ => 0))), (q5, .inl (cJ, 5, .inr (.inl (fun _ => 0)))), (q6, .inl (cJ, 5, .inr (.inl (fun _ => 0))))] H := hP
  have hD : va_D (fA h0 s.heap.size) [(h0, .inr (6, [.int 0, .int 0, .ref q0, .ref q1, .ref q2, .ref q3, .int 0, .ref q4, .long 0, .ref q5, .long 0, .ref q6, .null, .null, .null, .int 0])), (q0, .inl (cJ, 80, .inr (.inl (fun _ => 0)))), (q1, .inl (cJ, 5, .inr (.inl (fun _ => 0)))), (q2, .inl (cJ, 5, .inr (.inl (fun _ => 0)))), (q3, .inl (cJ, 20, .inr (.inl (fun _ => 0)))), (q4, .inl (cI, 8, .inl (fun _ => 0))), (q5, .inl (cJ, 5, .inr (.inl (fun _ => 0)))), (q6, .inl (cJ, 5, .inr (.inl (fun _ => 0))))] := hD
  refine lv_aload_n S.1 S.2.1 dX8_init_56 rfl (lv_at hl 0 rfl) ?_
  refine lv_iconst (v := 5) S.1 S.2.1 dX8_init_57 (by decide) ?_
  refine ci_newJ (N' := 5) S hK hP hD hS hA (by decide) (by decide) (by decide) (by decide) (by decide) dX8_init_58 (fun q7 H hP hD hS => ?_)
  have hP : va_P D vwCl [(h0, .inr (6, [.int 0, .int 0, .ref q0, .ref q1, .ref q2, .ref q3, .int 0, .ref q4, .long 0, .ref q5, .long 0, .ref q6, .null, .null, .null, .int 0])), (q0, .inl (cJ, 80, .inr (.inl (fun _ => 0)))), (q1, .inl (cJ, 5, .inr (.inl (fun _ => 0)))), (q2, .inl (cJ, 5, .inr (.inl (fun _ => 0)))), (q3, .inl (cJ, 20, .inr (.inl (fun _ => 0)))), (q4, .inl (cI, 8, .inl (fun _ => 0))), (q5, .inl (cJ, 5, .inr (.inl (fun _ => 0)))), (q6, .inl (cJ, 5, .inr (.inl (fun _ => 0)))), (q7, .inl (cJ, 5, .inr (.inl (fun _ => 0))))] H := hP
  have hD : va_D (fA h0 s.heap.size) [(h0, .inr (6, [.int 0, .int 0, .ref q0, .ref q1, .ref q2, .ref q3, .int 0, .ref q4, .long 0, .ref q5, .long 0, .ref q6, .null, .null, .null, .int 0])), (q0, .inl (cJ, 80, .inr (.inl (fun _ => 0)))), (q1, .inl (cJ, 5, .inr (.inl (fun _ => 0)))), (q2, .inl (cJ, 5, .inr (.inl (fun _ => 0)))), (q3, .inl (cJ, 20, .inr (.inl (fun _ => 0)))), (q4, .inl (cI, 8, .inl (fun _ => 0))), (q5, .inl (cJ, 5, .inr (.inl (fun _ => 0)))), (q6, .inl (cJ, 5, .inr (.inl (fun _ => 0)))), (q7, .inl (cJ, 5, .inr (.inl (fun _ => 0))))] := hD
  refine W.widen (k := 8) (n := 133) (by decide) (by decide) ?_
  refine va_putF (ci := 6) (v := .ref q7) (ty := tyX8 12) (C := RX8) (T := TX8) (N := 16) S.1 S.2.1 S.2.2.2.2 gX8 tyX8 tyX8_ok nmX8 S.2.2.2.1 hK hP hD hS 0 rfl rfl 12 (by decide) (S.2.2.2.2 _ iw_56) (fun _ h9 => h9) rfl hin rfl (tyX8_ok 12 (by decide)) rfl rfl (Nat.le_of_ble_eq_true rfl) dX8_init_60 (fun H locs hP hD hS => ?_)
  have hP : va_P D vwCl [(h0, .inr (6, [.int 0, .int 0, .ref q0, .ref q1, .ref q2, .ref q3, .int 0, .ref q4, .long 0, .ref q5, .long 0, .ref q6, .ref q7, .null, .null, .int 0])), (q0, .inl (cJ, 80, .inr (.inl (fun _ => 0)))), (q1, .inl (cJ, 5, .inr (.inl (fun _ => 0)))), (q2, .inl (cJ, 5, .inr (.inl (fun _ => 0)))), (q3, .inl (cJ, 20, .inr (.inl (fun _ => 0)))), (q4, .inl (cI, 8, .inl (fun _ => 0))), (q5, .inl (cJ, 5, .inr (.inl (fun _ => 0)))), (q6, .inl (cJ, 5, .inr (.inl (fun _ => 0)))), (q7, .inl (cJ, 5, .inr (.inl (fun _ => 0))))] H := hP
  have hD : va_D (fA h0 s.heap.size) [(h0, .inr (6, [.int 0, .int 0, .ref q0, .ref q1, .ref q2, .ref q3, .int 0, .ref q4, .long 0, .ref q5, .long 0, .ref q6, .ref q7, .null, .null, .int 0])), (q0, .inl (cJ, 80, .inr (.inl (fun _ => 0)))), (q1, .inl (cJ, 5, .inr (.inl (fun _ => 0)))), (q2, .inl (cJ, 5, .inr (.inl (fun _ => 0)))), (q3, .inl (cJ, 20, .inr (.inl (fun _ => 0)))), (q4, .inl (cI, 8, .inl (fun _ => 0))), (q5, .inl (cJ, 5, .inr (.inl (fun _ => 0)))), (q6, .inl (cJ, 5, .inr (.inl (fun _ => 0)))), (q7, .inl (cJ, 5, .inr (.inl (fun _ => 0))))] := hD
  refine lv_aload_n S.1 S.2.1 dX8_init_63 rfl (lv_at hl 0 rfl) ?_
  refine lv_bipush (v := 14) S.1 S.2.1 dX8_init_64 (by decide) ?_
  refine ci_newI (N' := 14) S hK hP hD hS hA (by decide) (by decide) (by decide) (by decide) (by decide) dX8_init_66 (fun q8 H hP hD hS => ?_)
  have hP : va_P D vwCl [(h0, .inr (6, [.int 0, .int 0, .ref q0, .ref q1, .ref q2, .ref q3, .int 0, .ref q4, .long 0, .ref q5, .long 0, .ref q6, .ref q7, .null, .null, .int 0])), (q0, .inl (cJ, 80, .inr (.inl (fun _ => 0)))), (q1, .inl (cJ, 5, .inr (.inl (fun _ => 0)))), (q2, .inl (cJ, 5, .inr (.inl (fun _ => 0)))), (q3, .inl (cJ, 20, .inr (.inl (fun _ => 0)))), (q4, .inl (cI, 8, .inl (fun _ => 0))), (q5, .inl (cJ, 5, .inr (.inl (fun _ => 0)))), (q6, .inl (cJ, 5, .inr (.inl (fun _ => 0)))), (q7, .inl (cJ, 5, .inr (.inl (fun _ => 0)))), (q8, .inl (cI, 14, .inl (fun _ => 0)))] H := hP
  have hD : va_D (fA h0 s.heap.size) [(h0, .inr (6, [.int 0, .int 0, .ref q0, .ref q1, .ref q2, .ref q3, .int 0, .ref q4, .long 0, .ref q5, .long 0, .ref q6, .ref q7, .null, .null, .int 0])), (q0, .inl (cJ, 80, .inr (.inl (fun _ => 0)))), (q1, .inl (cJ, 5, .inr (.inl (fun _ => 0)))), (q2, .inl (cJ, 5, .inr (.inl (fun _ => 0)))), (q3, .inl (cJ, 20, .inr (.inl (fun _ => 0)))), (q4, .inl (cI, 8, .inl (fun _ => 0))), (q5, .inl (cJ, 5, .inr (.inl (fun _ => 0)))), (q6, .inl (cJ, 5, .inr (.inl (fun _ => 0)))), (q7, .inl (cJ, 5, .inr (.inl (fun _ => 0)))), (q8, .inl (cI, 14, .inl (fun _ => 0)))] := hD
  refine W.widen (k := 9) (n := 147) (by decide) (by decide) ?_
  refine lv_dup S.1 S.2.1 dX8_init_68 rfl ?_
  refine lv_iconst (v := 0) S.1 S.2.1 dX8_init_69 (by decide) ?_
  refine lv_iconst (v := 1) S.1 S.2.1 dX8_init_70 (by decide) ?_
  refine va_iast S.1 S.2.1 hK hP hD hS 9 0 rfl rfl (by unfold vp_in; decide) dX8_init_71 (fun H locs hP hD hS => ?_)
  obtain ⟨f1, hf1, ef1⟩ : ∃ g, (∀ j, j < 0 + 1 → g j = tw1 j) ∧ upd (fun _ => 0) (0 : Int32).toNatClampNeg (1) = g := ⟨_, upd_tw hf0 (by decide) (by decide), rfl⟩
  rw [ef1] at hP hD
  have hP : va_P D vwCl [(h0, .inr (6, [.int 0, .int 0, .ref q0, .ref q1, .ref q2, .ref q3, .int 0, .ref q4, .long 0, .ref q5, .long 0, .ref q6, .ref q7, .null, .null, .int 0])), (q0, .inl (cJ, 80, .inr (.inl (fun _ => 0)))), (q1, .inl (cJ, 5, .inr (.inl (fun _ => 0)))), (q2, .inl (cJ, 5, .inr (.inl (fun _ => 0)))), (q3, .inl (cJ, 20, .inr (.inl (fun _ => 0)))), (q4, .inl (cI, 8, .inl (fun _ => 0))), (q5, .inl (cJ, 5, .inr (.inl (fun _ => 0)))), (q6, .inl (cJ, 5, .inr (.inl (fun _ => 0)))), (q7, .inl (cJ, 5, .inr (.inl (fun _ => 0)))), (q8, .inl (cI, 14, .inl f1))] H := hP
  have hD : va_D (fA h0 s.heap.size) [(h0, .inr (6, [.int 0, .int 0, .ref q0, .ref q1, .ref q2, .ref q3, .int 0, .ref q4, .long 0, .ref q5, .long 0, .ref q6, .ref q7, .null, .null, .int 0])), (q0, .inl (cJ, 80, .inr (.inl (fun _ => 0)))), (q1, .inl (cJ, 5, .inr (.inl (fun _ => 0)))), (q2, .inl (cJ, 5, .inr (.inl (fun _ => 0)))), (q3, .inl (cJ, 20, .inr (.inl (fun _ => 0)))), (q4, .inl (cI, 8, .inl (fun _ => 0))), (q5, .inl (cJ, 5, .inr (.inl (fun _ => 0)))), (q6, .inl (cJ, 5, .inr (.inl (fun _ => 0)))), (q7, .inl (cJ, 5, .inr (.inl (fun _ => 0)))), (q8, .inl (cI, 14, .inl f1))] := hD
  refine lv_dup S.1 S.2.1 dX8_init_72 rfl ?_
  refine lv_iconst (v := 1) S.1 S.2.1 dX8_init_73 (by decide) ?_
  refine lv_iconst (v := -1) S.1 S.2.1 dX8_init_74 (by decide) ?_
  refine va_iast S.1 S.2.1 hK hP hD hS 9 0 rfl rfl (by unfold vp_in; decide) dX8_init_75 (fun H locs hP hD hS => ?_)
  obtain ⟨f2, hf2, ef2⟩ : ∃ g, (∀ j, j < 1 + 1 → g j = tw1 j) ∧ upd f1 (1 : Int32).toNatClampNeg ((-1)) = g := ⟨_, upd_tw hf1 (by decide) (by decide), rfl⟩
  rw [ef2] at hP hD
  have hP : va_P D vwCl [(h0, .inr (6, [.int 0, .int 0, .ref q0, .ref q1, .ref q2, .ref q3, .int 0, .ref q4, .long 0, .ref q5, .long 0, .ref q6, .ref q7, .null, .null, .int 0])), (q0, .inl (cJ, 80, .inr (.inl (fun _ => 0)))), (q1, .inl (cJ, 5, .inr (.inl (fun _ => 0)))), (q2, .inl (cJ, 5, .inr (.inl (fun _ => 0)))), (q3, .inl (cJ, 20, .inr (.inl (fun _ => 0)))), (q4, .inl (cI, 8, .inl (fun _ => 0))), (q5, .inl (cJ, 5, .inr (.inl (fun _ => 0)))), (q6, .inl (cJ, 5, .inr (.inl (fun _ => 0)))), (q7, .inl (cJ, 5, .inr (.inl (fun _ => 0)))), (q8, .inl (cI, 14, .inl f2))] H := hP
  have hD : va_D (fA h0 s.heap.size) [(h0, .inr (6, [.int 0, .int 0, .ref q0, .ref q1, .ref q2, .ref q3, .int 0, .ref q4, .long 0, .ref q5, .long 0, .ref q6, .ref q7, .null, .null, .int 0])), (q0, .inl (cJ, 80, .inr (.inl (fun _ => 0)))), (q1, .inl (cJ, 5, .inr (.inl (fun _ => 0)))), (q2, .inl (cJ, 5, .inr (.inl (fun _ => 0)))), (q3, .inl (cJ, 20, .inr (.inl (fun _ => 0)))), (q4, .inl (cI, 8, .inl (fun _ => 0))), (q5, .inl (cJ, 5, .inr (.inl (fun _ => 0)))), (q6, .inl (cJ, 5, .inr (.inl (fun _ => 0)))), (q7, .inl (cJ, 5, .inr (.inl (fun _ => 0)))), (q8, .inl (cI, 14, .inl f2))] := hD
  refine lv_dup S.1 S.2.1 dX8_init_76 rfl ?_
  refine lv_iconst (v := 2) S.1 S.2.1 dX8_init_77 (by decide) ?_
  refine lv_iconst (v := 2) S.1 S.2.1 dX8_init_78 (by decide) ?_
  refine va_iast S.1 S.2.1 hK hP hD hS 9 0 rfl rfl (by unfold vp_in; decide) dX8_init_79 (fun H locs hP hD hS => ?_)
  obtain ⟨f3, hf3, ef3⟩ : ∃ g, (∀ j, j < 2 + 1 → g j = tw1 j) ∧ upd f2 (2 : Int32).toNatClampNeg (2) = g := ⟨_, upd_tw hf2 (by decide) (by decide), rfl⟩
  rw [ef3] at hP hD
  have hP : va_P D vwCl [(h0, .inr (6, [.int 0, .int 0, .ref q0, .ref q1, .ref q2, .ref q3, .int 0, .ref q4, .long 0, .ref q5, .long 0, .ref q6, .ref q7, .null, .null, .int 0])), (q0, .inl (cJ, 80, .inr (.inl (fun _ => 0)))), (q1, .inl (cJ, 5, .inr (.inl (fun _ => 0)))), (q2, .inl (cJ, 5, .inr (.inl (fun _ => 0)))), (q3, .inl (cJ, 20, .inr (.inl (fun _ => 0)))), (q4, .inl (cI, 8, .inl (fun _ => 0))), (q5, .inl (cJ, 5, .inr (.inl (fun _ => 0)))), (q6, .inl (cJ, 5, .inr (.inl (fun _ => 0)))), (q7, .inl (cJ, 5, .inr (.inl (fun _ => 0)))), (q8, .inl (cI, 14, .inl f3))] H := hP
  have hD : va_D (fA h0 s.heap.size) [(h0, .inr (6, [.int 0, .int 0, .ref q0, .ref q1, .ref q2, .ref q3, .int 0, .ref q4, .long 0, .ref q5, .long 0, .ref q6, .ref q7, .null, .null, .int 0])), (q0, .inl (cJ, 80, .inr (.inl (fun _ => 0)))), (q1, .inl (cJ, 5, .inr (.inl (fun _ => 0)))), (q2, .inl (cJ, 5, .inr (.inl (fun _ => 0)))), (q3, .inl (cJ, 20, .inr (.inl (fun _ => 0)))), (q4, .inl (cI, 8, .inl (fun _ => 0))), (q5, .inl (cJ, 5, .inr (.inl (fun _ => 0)))), (q6, .inl (cJ, 5, .inr (.inl (fun _ => 0)))), (q7, .inl (cJ, 5, .inr (.inl (fun _ => 0)))), (q8, .inl (cI, 14, .inl f3))] := hD
  refine lv_dup S.1 S.2.1 dX8_init_80 rfl ?_
  refine lv_iconst (v := 3) S.1 S.2.1 dX8_init_81 (by decide) ?_
  refine lv_bipush (v := (-2)) S.1 S.2.1 dX8_init_82 (by decide) ?_
  refine va_iast S.1 S.2.1 hK hP hD hS 9 0 rfl rfl (by unfold vp_in; decide) dX8_init_84 (fun H locs hP hD hS => ?_)
  obtain ⟨f4, hf4, ef4⟩ : ∃ g, (∀ j, j < 3 + 1 → g j = tw1 j) ∧ upd f3 (3 : Int32).toNatClampNeg ((-2)) = g := ⟨_, upd_tw hf3 (by decide) (by decide), rfl⟩
  rw [ef4] at hP hD
  have hP : va_P D vwCl [(h0, .inr (6, [.int 0, .int 0, .ref q0, .ref q1, .ref q2, .ref q3, .int 0, .ref q4, .long 0, .ref q5, .long 0, .ref q6, .ref q7, .null, .null, .int 0])), (q0, .inl (cJ, 80, .inr (.inl (fun _ => 0)))), (q1, .inl (cJ, 5, .inr (.inl (fun _ => 0)))), (q2, .inl (cJ, 5, .inr (.inl (fun _ => 0)))), (q3, .inl (cJ, 20, .inr (.inl (fun _ => 0)))), (q4, .inl (cI, 8, .inl (fun _ => 0))), (q5, .inl (cJ, 5, .inr (.inl (fun _ => 0)))), (q6, .inl (cJ, 5, .inr (.inl (fun _ => 0)))), (q7, .inl (cJ, 5, .inr (.inl (fun _ => 0)))), (q8, .inl (cI, 14, .inl f4))] H := hP
  have hD : va_D (fA h0 s.heap.size) [(h0, .inr (6, [.int 0, .int 0, .ref q0, .ref q1, .ref q2, .ref q3, .int 0, .ref q4, .long 0, .ref q5, .long 0, .ref q6, .ref q7, .null, .null, .int 0])), (q0, .inl (cJ, 80, .inr (.inl (fun _ => 0)))), (q1, .inl (cJ, 5, .inr (.inl (fun _ => 0)))), (q2, .inl (cJ, 5, .inr (.inl (fun _ => 0)))), (q3, .inl (cJ, 20, .inr (.inl (fun _ => 0)))), (q4, .inl (cI, 8, .inl (fun _ => 0))), (q5, .inl (cJ, 5, .inr (.inl (fun _ => 0)))), (q6, .inl (cJ, 5, .inr (.inl (fun _ => 0)))), (q7, .inl (cJ, 5, .inr (.inl (fun _ => 0)))), (q8, .inl (cI, 14, .inl f4))] := hD
  refine lv_dup S.1 S.2.1 dX8_init_85 rfl ?_
  refine lv_iconst (v := 4) S.1 S.2.1 dX8_init_86 (by decide) ?_
  refine lv_iconst (v := 3) S.1 S.2.1 dX8_init_87 (by decide) ?_
  refine va_iast S.1 S.2.1 hK hP hD hS 9 0 rfl rfl (by unfold vp_in; decide) dX8_init_88 (fun H locs hP hD hS => ?_)
  obtain ⟨f5, hf5, ef5⟩ : ∃ g, (∀ j, j < 4 + 1 → g j = tw1 j) ∧ upd f4 (4 : Int32).toNatClampNeg (3) = g := ⟨_, upd_tw hf4 (by decide) (by decide), rfl⟩
  rw [ef5] at hP hD
  have hP : va_P D vwCl [(h0, .inr (6, [.int 0, .int 0, .ref q0, .ref q1, .ref q2, .ref q3, .int 0, .ref q4, .long 0, .ref q5, .long 0, .ref q6, .ref q7, .null, .null, .int 0])), (q0, .inl (cJ, 80, .inr (.inl (fun _ => 0)))), (q1, .inl (cJ, 5, .inr (.inl (fun _ => 0)))), (q2, .inl (cJ, 5, .inr (.inl (fun _ => 0)))), (q3, .inl (cJ, 20, .inr (.inl (fun _ => 0)))), (q4, .inl (cI, 8, .inl (fun _ => 0))), (q5, .inl (cJ, 5, .inr (.inl (fun _ => 0)))), (q6, .inl (cJ, 5, .inr (.inl (fun _ => 0)))), (q7, .inl (cJ, 5, .inr (.inl (fun _ => 0)))), (q8, .inl (cI, 14, .inl f5))] H := hP
  have hD : va_D (fA h0 s.heap.size) [(h0, .inr (6, [.int 0, .int 0, .ref q0, .ref q1, .ref q2, .ref q3, .int 0, .ref q4, .long 0, .ref q5, .long 0, .ref q6, .ref q7, .null, .null, .int 0])), (q0, .inl (cJ, 80, .inr (.inl (fun _ => 0)))), (q1, .inl (cJ, 5, .inr (.inl (fun _ => 0)))), (q2, .inl (cJ, 5, .inr (.inl (fun _ => 0)))), (q3, .inl (cJ, 20, .inr (.inl (fun _ => 0)))), (q4, .inl (cI, 8, .inl (fun _ => 0))), (q5, .inl (cJ, 5, .inr (.inl (fun _ => 0)))), (q6, .inl (cJ, 5, .inr (.inl (fun _ => 0)))), (q7, .inl (cJ, 5, .inr (.inl (fun _ => 0)))), (q8, .inl (cI, 14, .inl f5))] := hD
  refine lv_dup S.1 S.2.1 dX8_init_89 rfl ?_
  refine lv_iconst (v := 5) S.1 S.2.1 dX8_init_90 (by decide) ?_
  refine lv_bipush (v := (-3)) S.1 S.2.1 dX8_init_91 (by decide) ?_
  refine va_iast S.1 S.2.1 hK hP hD hS 9 0 rfl rfl (by unfold vp_in; decide) dX8_init_93 (fun H locs hP hD hS => ?_)
  obtain ⟨f6, hf6, ef6⟩ : ∃ g, (∀ j, j < 5 + 1 → g j = tw1 j) ∧ upd f5 (5 : Int32).toNatClampNeg ((-3)) = g := ⟨_, upd_tw hf5 (by decide) (by decide), rfl⟩
  rw [ef6] at hP hD
  have hP : va_P D vwCl [(h0, .inr (6, [.int 0, .int 0, .ref q0, .ref q1, .ref q2, .ref q3, .int 0, .ref q4, .long 0, .ref q5, .long 0, .ref q6, .ref q7, .null, .null, .int 0])), (q0, .inl (cJ, 80, .inr (.inl (fun _ => 0)))), (q1, .inl (cJ, 5, .inr (.inl (fun _ => 0)))), (q2, .inl (cJ, 5, .inr (.inl (fun _ => 0)))), (q3, .inl (cJ, 20, .inr (.inl (fun _ => 0)))), (q4, .inl (cI, 8, .inl (fun _ => 0))), (q5, .inl (cJ, 5, .inr (.inl (fun _ => 0)))), (q6, .inl (cJ, 5, .inr (.inl (fun _ => 0)))), (q7, .inl (cJ, 5, .inr (.inl (fun _ => 0)))), (q8, .inl (cI, 14, .inl f6))] H := hP
  have hD : va_D (fA h0 s.heap.size) [(h0, .inr (6, [.int 0, .int 0, .ref q0, .ref q1, .ref q2, .ref q3, .int 0, .ref q4, .long 0, .ref q5, .long 0, .ref q6, .ref q7, .null, .null, .int 0])), (q0, .inl (cJ, 80, .inr (.inl (fun _ => 0)))), (q1, .inl (cJ, 5, .inr (.inl (fun _ => 0)))), (q2, .inl (cJ, 5, .inr (.inl (fun _ => 0)))), (q3, .inl (cJ, 20, .inr (.inl (fun _ => 0)))), (q4, .inl (cI, 8, .inl (fun _ => 0))), (q5, .inl (cJ, 5, .inr (.inl (fun _ => 0)))), (q6, .inl (cJ, 5, .inr (.inl (fun _ => 0)))), (q7, .inl (cJ, 5, .inr (.inl (fun _ => 0)))), (q8, .inl (cI, 14, .inl f6))] := hD
  refine lv_dup S.1 S.2.1 dX8_init_94 rfl ?_
  refine lv_bipush (v := 6) S.1 S.2.1 dX8_init_95 (by decide) ?_
  refine lv_iconst (v := 5) S.1 S.2.1 dX8_init_97 (by decide) ?_
  refine va_iast S.1 S.2.1 hK hP hD hS 9 0 rfl rfl (by unfold vp_in; decide) dX8_init_98 (fun H locs hP hD hS => ?_)
  obtain ⟨f7, hf7, ef7⟩ : ∃ g, (∀ j, j < 6 + 1 → g j = tw1 j) ∧ upd f6 (6 : Int32).toNatClampNeg (5) = g := ⟨_, upd_tw hf6 (by decide) (by decide), rfl⟩
  rw [ef7] at hP hD
  have hP : va_P D vwCl [(h0, .inr (6, [.int 0, .int 0, .ref q0, .ref q1, .ref q2, .ref q3, .int 0, .ref q4, .long 0, .ref q5, .long 0, .ref q6, .ref q7, .null, .null, .int 0])), (q0, .inl (cJ, 80, .inr (.inl (fun _ => 0)))), (q1, .inl (cJ, 5, .inr (.inl (fun _ => 0)))), (q2, .inl (cJ, 5, .inr (.inl (fun _ => 0)))), (q3, .inl (cJ, 20, .inr (.inl (fun _ => 0)))), (q4, .inl (cI, 8, .inl (fun _ => 0))), (q5, .inl (cJ, 5, .inr (.inl (fun _ => 0)))), (q6, .inl (cJ, 5, .inr (.inl (fun _ => 0)))), (q7, .inl (cJ, 5, .inr (.inl (fun _ => 0)))), (q8, .inl (cI, 14, .inl f7))] H := hP
  have hD : va_D (fA h0 s.heap.size) [(h0, .inr (6, [.int 0, .int 0, .ref q0, .ref q1, .ref q2, .ref q3, .int 0, .ref q4, .long 0, .ref q5, .long 0, .ref q6, .ref q7, .null, .null, .int 0])), (q0, .inl (cJ, 80, .inr (.inl (fun _ => 0)))), (q1, .inl (cJ, 5, .inr (.inl (fun _ => 0)))), (q2, .inl (cJ, 5, .inr (.inl (fun _ => 0)))), (q3, .inl (cJ, 20, .inr (.inl (fun _ => 0)))), (q4, .inl (cI, 8, .inl (fun _ => 0))), (q5, .inl (cJ, 5, .inr (.inl (fun _ => 0)))), (q6, .inl (cJ, 5, .inr (.inl (fun _ => 0)))), (q7, .inl (cJ, 5, .inr (.inl (fun _ => 0)))), (q8, .inl (cI, 14, .inl f7))] := hD
  refine lv_dup S.1 S.2.1 dX8_init_99 rfl ?_
  refine lv_bipush (v := 7) S.1 S.2.1 dX8_init_100 (by decide) ?_
  refine lv_bipush (v := (-5)) S.1 S.2.1 dX8_init_102 (by decide) ?_
  refine va_iast S.1 S.2.1 hK hP hD hS 9 0 rfl rfl (by unfold vp_in; decide) dX8_init_104 (fun H locs hP hD hS => ?_)
  obtain ⟨f8, hf8, ef8⟩ : ∃ g, (∀ j, j < 7 + 1 → g j = tw1 j) ∧ upd f7 (7 : Int32).toNatClampNeg ((-5)) = g := ⟨_, upd_tw hf7 (by decide) (by decide), rfl⟩
  rw [ef8] at hP hD
  have hP : va_P D vwCl [(h0, .inr (6, [.int 0, .int 0, .ref q0, .ref q1, .ref q2, .ref q3, .int 0, .ref q4, .long 0, .ref q5, .long 0, .ref q6, .ref q7, .null, .null, .int 0])), (q0, .inl (cJ, 80, .inr (.inl (fun _ => 0)))), (q1, .inl (cJ, 5, .inr (.inl (fun _ => 0)))), (q2, .inl (cJ, 5, .inr (.inl (fun _ => 0)))), (q3, .inl (cJ, 20, .inr (.inl (fun _ => 0)))), (q4, .inl (cI, 8, .inl (fun _ => 0))), (q5, .inl (cJ, 5, .inr (.inl (fun _ => 0)))), (q6, .inl (cJ, 5, .inr (.inl (fun _ => 0)))), (q7, .inl (cJ, 5, .inr (.inl (fun _ => 0)))), (q8, .inl (cI, 14, .inl f8))] H := hP
  have hD : va_D (fA h0 s.heap.size) [(h0, .inr (6, [.int 0, .int 0, .ref q0, .ref q1, .ref q2, .ref q3, .int 0, .ref q4, .long 0, .ref q5, .long 0, .ref q6, .ref q7, .null, .null, .int 0])), (q0, .inl (cJ, 80, .inr (.inl (fun _ => 0)))), (q1, .inl (cJ, 5, .inr (.inl (fun _ => 0)))), (q2, .inl (cJ, 5, .inr (.inl (fun _ => 0)))), (q3, .inl (cJ, 20, .inr (.inl (fun _ => 0)))), (q4, .inl (cI, 8, .inl (fun _ => 0))), (q5, .inl (cJ, 5, .inr (.inl (fun _ => 0)))), (q6, .inl (cJ, 5, .inr (.inl (fun _ => 0)))), (q7, .inl (cJ, 5, .inr (.inl (fun _ => 0)))), (q8, .inl (cI, 14, .inl f8))] := hD
  refine lv_dup S.1 S.2.1 dX8_init_105 rfl ?_
  refine lv_bipush (v := 8) S.1 S.2.1 dX8_init_106 (by decide) ?_
  refine lv_bipush (v := 6) S.1 S.2.1 dX8_init_108 (by decide) ?_
  refine va_iast S.1 S.2.1 hK hP hD hS 9 0 rfl rfl (by unfold vp_in; decide) dX8_init_110 (fun H locs hP hD hS => ?_)
  obtain ⟨f9, hf9, ef9⟩ : ∃ g, (∀ j, j < 8 + 1 → g j = tw1 j) ∧ upd f8 (8 : Int32).toNatClampNeg (6) = g := ⟨_, upd_tw hf8 (by decide) (by decide), rfl⟩
  rw [ef9] at hP hD
  have hP : va_P D vwCl [(h0, .inr (6, [.int 0, .int 0, .ref q0, .ref q1, .ref q2, .ref q3, .int 0, .ref q4, .long 0, .ref q5, .long 0, .ref q6, .ref q7, .null, .null, .int 0])), (q0, .inl (cJ, 80, .inr (.inl (fun _ => 0)))), (q1, .inl (cJ, 5, .inr (.inl (fun _ => 0)))), (q2, .inl (cJ, 5, .inr (.inl (fun _ => 0)))), (q3, .inl (cJ, 20, .inr (.inl (fun _ => 0)))), (q4, .inl (cI, 8, .inl (fun _ => 0))), (q5, .inl (cJ, 5, .inr (.inl (fun _ => 0)))), (q6, .inl (cJ, 5, .inr (.inl (fun _ => 0)))), (q7, .inl (cJ, 5, .inr (.inl (fun _ => 0)))), (q8, .inl (cI, 14, .inl f9))] H := hP
  have hD : va_D (fA h0 s.heap.size) [(h0, .inr (6, [.int 0, .int 0, .ref q0, .ref q1, .ref q2, .ref q3, .int 0, .ref q4, .long 0, .ref q5, .long 0, .ref q6, .ref q7, .null, .null, .int 0])), (q0, .inl (cJ, 80, .inr (.inl (fun _ => 0)))), (q1, .inl (cJ, 5, .inr (.inl (fun _ => 0)))), (q2, .inl (cJ, 5, .inr (.inl (fun _ => 0)))), (q3, .inl (cJ, 20, .inr (.inl (fun _ => 0)))), (q4, .inl (cI, 8, .inl (fun _ => 0))), (q5, .inl (cJ, 5, .inr (.inl (fun _ => 0)))), (q6, .inl (cJ, 5, .inr (.inl (fun _ => 0)))), (q7, .inl (cJ, 5, .inr (.inl (fun _ => 0)))), (q8, .inl (cI, 14, .inl f9))] := hD
  refine lv_dup S.1 S.2.1 dX8_init_111 rfl ?_
  refine lv_bipush (v := 9) S.1 S.2.1 dX8_init_112 (by decide) ?_
  refine lv_bipush (v := (-6)) S.1 S.2.1 dX8_init_114 (by decide) ?_
  refine va_iast S.1 S.2.1 hK hP hD hS 9 0 rfl rfl (by unfold vp_in; decide) dX8_init_116 (fun H locs hP hD hS => ?_)
  obtain ⟨f10, hf10, ef10⟩ : ∃ g, (∀ j, j < 9 + 1 → g j = tw1 j) ∧ upd f9 (9 : Int32).toNatClampNeg ((-6)) = g := ⟨_, upd_tw hf9 (by decide) (by decide), rfl⟩
  rw [ef10] at hP hD
  have hP : va_P D vwCl [(h0, .inr (6, [.int 0, .int 0, .ref q0, .ref q1, .ref q2, .ref q3, .int 0, .ref q4, .long 0, .ref q5, .long 0, .ref q6, .ref q7, .null, .null, .int 0])), (q0, .inl (cJ, 80, .inr (.inl (fun _ => 0)))), (q1, .inl (cJ, 5, .inr (.inl (fun _ => 0)))), (q2, .inl (cJ, 5, .inr (.inl (fun _ => 0)))), (q3, .inl (cJ, 20, .inr (.inl (fun _ => 0)))), (q4, .inl (cI, 8, .inl (fun _ => 0))), (q5, .inl (cJ, 5, .inr (.inl (fun _ => 0)))), (q6, .inl (cJ, 5, .inr (.inl (fun _ => 0)))), (q7, .inl (cJ, 5, .inr (.inl (fun _ => 0)))), (q8, .inl (cI, 14, .inl f10))] H := hP
  have hD : va_D (fA h0 s.heap.size) [(h0, .inr (6, [.int 0, .int 0, .ref q0, .ref q1, .ref q2, .ref q3, .int 0, .ref q4, .long 0, .ref q5, .long 0, .ref q6, .ref q7, .null, .null, .int 0])), (q0, .inl (cJ, 80, .inr (.inl (fun _ => 0)))), (q1, .inl (cJ, 5, .inr (.inl (fun _ => 0)))), (q2, .inl (cJ, 5, .inr (.inl (fun _ => 0)))), (q3, .inl (cJ, 20, .inr (.inl (fun _ => 0)))), (q4, .inl (cI, 8, .inl (fun _ => 0))), (q5, .inl (cJ, 5, .inr (.inl (fun _ => 0)))), (q6, .inl (cJ, 5, .inr (.inl (fun _ => 0)))), (q7, .inl (cJ, 5, .inr (.inl (fun _ => 0)))), (q8, .inl (cI, 14, .inl f10))] := hD
  refine lv_dup S.1 S.2.1 dX8_init_117 rfl ?_
  refine lv_bipush (v := 10) S.1 S.2.1 dX8_init_118 (by decide) ?_
  refine lv_bipush (v := 7) S.1 S.2.1 dX8_init_120 (by decide) ?_
  refine va_iast S.1 S.2.1 hK hP hD hS 9 0 rfl rfl (by unfold vp_in; decide) dX8_init_122 (fun H locs hP hD hS => ?_)
  obtain ⟨f11, hf11, ef11⟩ : ∃ g, (∀ j, j < 10 + 1 → g j = tw1 j) ∧ upd f10 (10 : Int32).toNatClampNeg (7) = g := ⟨_, upd_tw hf10 (by decide) (by decide), rfl⟩
  rw [ef11] at hP hD
  have hP : va_P D vwCl [(h0, .inr (6, [.int 0, .int 0, .ref q0, .ref q1, .ref q2, .ref q3, .int 0, .ref q4, .long 0, .ref q5, .long 0, .ref q6, .ref q7, .null, .null, .int 0])), (q0, .inl (cJ, 80, .inr (.inl (fun _ => 0)))), (q1, .inl (cJ, 5, .inr (.inl (fun _ => 0)))), (q2, .inl (cJ, 5, .inr (.inl (fun _ => 0)))), (q3, .inl (cJ, 20, .inr (.inl (fun _ => 0)))), (q4, .inl (cI, 8, .inl (fun _ => 0))), (q5, .inl (cJ, 5, .inr (.inl (fun _ => 0)))), (q6, .inl (cJ, 5, .inr (.inl (fun _ => 0)))), (q7, .inl (cJ, 5, .inr (.inl (fun _ => 0)))), (q8, .inl (cI, 14, .inl f11))] H := hP
  have hD : va_D (fA h0 s.heap.size) [(h0, .inr (6, [.int 0, .int 0, .ref q0, .ref q1, .ref q2, .ref q3, .int 0, .ref q4, .long 0, .ref q5, .long 0, .ref q6, .ref q7, .null, .null, .int 0])), (q0, .inl (cJ, 80, .inr (.inl (fun _ => 0)))), (q1, .inl (cJ, 5, .inr (.inl (fun _ => 0)))), (q2, .inl (cJ, 5, .inr (.inl (fun _ => 0)))), (q3, .inl (cJ, 20, .inr (.inl (fun _ => 0)))), (q4, .inl (cI, 8, .inl (fun _ => 0))), (q5, .inl (cJ, 5, .inr (.inl (fun _ => 0)))), (q6, .inl (cJ, 5, .inr (.inl (fun _ => 0)))), (q7, .inl (cJ, 5, .inr (.inl (fun _ => 0)))), (q8, .inl (cI, 14, .inl f11))] := hD
  refine lv_dup S.1 S.2.1 dX8_init_123 rfl ?_
  refine lv_bipush (v := 11) S.1 S.2.1 dX8_init_124 (by decide) ?_
  refine lv_bipush (v := (-7)) S.1 S.2.1 dX8_init_126 (by decide) ?_
  refine va_iast S.1 S.2.1 hK hP hD hS 9 0 rfl rfl (by unfold vp_in; decide) dX8_init_128 (fun H locs hP hD hS => ?_)
  obtain ⟨f12, hf12, ef12⟩ : ∃ g, (∀ j, j < 11 + 1 → g j = tw1 j) ∧ upd f11 (11 : Int32).toNatClampNeg ((-7)) = g := ⟨_, upd_tw hf11 (by decide) (by decide), rfl⟩
  rw [ef12] at hP hD
  have hP : va_P D vwCl [(h0, .inr (6, [.int 0, .int 0, .ref q0, .ref q1, .ref q2, .ref q3, .int 0, .ref q4, .long 0, .ref q5, .long 0, .ref q6, .ref q7, .null, .null, .int 0])), (q0, .inl (cJ, 80, .inr (.inl (fun _ => 0)))), (q1, .inl (cJ, 5, .inr (.inl (fun _ => 0)))), (q2, .inl (cJ, 5, .inr (.inl (fun _ => 0)))), (q3, .inl (cJ, 20, .inr (.inl (fun _ => 0)))), (q4, .inl (cI, 8, .inl (fun _ => 0))), (q5, .inl (cJ, 5, .inr (.inl (fun _ => 0)))), (q6, .inl (cJ, 5, .inr (.inl (fun _ => 0)))), (q7, .inl (cJ, 5, .inr (.inl (fun _ => 0)))), (q8, .inl (cI, 14, .inl f12))] H := hP
  have hD : va_D (fA h0 s.heap.size) [(h0, .inr (6, [.int 0, .int 0, .ref q0, .ref q1, .ref q2, .ref q3, .int 0, .ref q4, .long 0, .ref q5, .long 0, .ref q6, .ref q7, .null, .null, .int 0])), (q0, .inl (cJ, 80, .inr (.inl (fun _ => 0)))), (q1, .inl (cJ, 5, .inr (.inl (fun _ => 0)))), (q2, .inl (cJ, 5, .inr (.inl (fun _ => 0)))), (q3, .inl (cJ, 20, .inr (.inl (fun _ => 0)))), (q4, .inl (cI, 8, .inl (fun _ => 0))), (q5, .inl (cJ, 5, .inr (.inl (fun _ => 0)))), (q6, .inl (cJ, 5, .inr (.inl (fun _ => 0)))), (q7, .inl (cJ, 5, .inr (.inl (fun _ => 0)))), (q8, .inl (cI, 14, .inl f12))] := hD
  refine lv_dup S.1 S.2.1 dX8_init_129 rfl ?_
  refine lv_bipush (v := 12) S.1 S.2.1 dX8_init_130 (by decide) ?_
  refine lv_bipush (v := 10) S.1 S.2.1 dX8_init_132 (by decide) ?_
  refine va_iast S.1 S.2.1 hK hP hD hS 9 0 rfl rfl (by unfold vp_in; decide) dX8_init_134 (fun H locs hP hD hS => ?_)
  obtain ⟨f13, hf13, ef13⟩ : ∃ g, (∀ j, j < 12 + 1 → g j = tw1 j) ∧ upd f12 (12 : Int32).toNatClampNeg (10) = g := ⟨_, upd_tw hf12 (by decide) (by decide), rfl⟩
  rw [ef13] at hP hD
  have hP : va_P D vwCl [(h0, .inr (6, [.int 0, .int 0, .ref q0, .ref q1, .ref q2, .ref q3, .int 0, .ref q4, .long 0, .ref q5, .long 0, .ref q6, .ref q7, .null, .null, .int 0])), (q0, .inl (cJ, 80, .inr (.inl (fun _ => 0)))), (q1, .inl (cJ, 5, .inr (.inl (fun _ => 0)))), (q2, .inl (cJ, 5, .inr (.inl (fun _ => 0)))), (q3, .inl (cJ, 20, .inr (.inl (fun _ => 0)))), (q4, .inl (cI, 8, .inl (fun _ => 0))), (q5, .inl (cJ, 5, .inr (.inl (fun _ => 0)))), (q6, .inl (cJ, 5, .inr (.inl (fun _ => 0)))), (q7, .inl (cJ, 5, .inr (.inl (fun _ => 0)))), (q8, .inl (cI, 14, .inl f13))] H := hP
  have hD : va_D (fA h0 s.heap.size) [(h0, .inr (6, [.int 0, .int 0, .ref q0, .ref q1, .ref q2, .ref q3, .int 0, .ref q4, .long 0, .ref q5, .long 0, .ref q6, .ref q7, .null, .null, .int 0])), (q0, .inl (cJ, 80, .inr (.inl (fun _ => 0)))), (q1, .inl (cJ, 5, .inr (.inl (fun _ => 0)))), (q2, .inl (cJ, 5, .inr (.inl (fun _ => 0)))), (q3, .inl (cJ, 20, .inr (.inl (fun _ => 0)))), (q4, .inl (cI, 8, .inl (fun _ => 0))), (q5, .inl (cJ, 5, .inr (.inl (fun _ => 0)))), (q6, .inl (cJ, 5, .inr (.inl (fun _ => 0)))), (q7, .inl (cJ, 5, .inr (.inl (fun _ => 0)))), (q8, .inl (cI, 14, .inl f13))] := hD
  refine lv_dup S.1 S.2.1 dX8_init_135 rfl ?_
  refine lv_bipush (v := 13) S.1 S.2.1 dX8_init_136 (by decide) ?_
  refine lv_bipush (v := (-10)) S.1 S.2.1 dX8_init_138 (by decide) ?_
  refine va_iast S.1 S.2.1 hK hP hD hS 9 0 rfl rfl (by unfold vp_in; decide) dX8_init_140 (fun H locs hP hD hS => ?_)
  obtain ⟨f14, hf14, ef14⟩ : ∃ g, (∀ j, j < 13 + 1 → g j = tw1 j) ∧ upd f13 (13 : Int32).toNatClampNeg ((-10)) = g := ⟨_, upd_tw hf13 (by decide) (by decide), rfl⟩
  rw [ef14] at hP hD
  have hP : va_P D vwCl [(h0, .inr (6, [.int 0, .int 0, .ref q0, .ref q1, .ref q2, .ref q3, .int 0, .ref q4, .long 0, .ref q5, .long 0, .ref q6, .ref q7, .null, .null, .int 0])), (q0, .inl (cJ, 80, .inr (.inl (fun _ => 0)))), (q1, .inl (cJ, 5, .inr (.inl (fun _ => 0)))), (q2, .inl (cJ, 5, .inr (.inl (fun _ => 0)))), (q3, .inl (cJ, 20, .inr (.inl (fun _ => 0)))), (q4, .inl (cI, 8, .inl (fun _ => 0))), (q5, .inl (cJ, 5, .inr (.inl (fun _ => 0)))), (q6, .inl (cJ, 5, .inr (.inl (fun _ => 0)))), (q7, .inl (cJ, 5, .inr (.inl (fun _ => 0)))), (q8, .inl (cI, 14, .inl f14))] H := hP
  have hD : va_D (fA h0 s.heap.size) [(h0, .inr (6, [.int 0, .int 0, .ref q0, .ref q1, .ref q2, .ref q3, .int 0, .ref q4, .long 0, .ref q5, .long 0, .ref q6, .ref q7, .null, .null, .int 0])), (q0, .inl (cJ, 80, .inr (.inl (fun _ => 0)))), (q1, .inl (cJ, 5, .inr (.inl (fun _ => 0)))), (q2, .inl (cJ, 5, .inr (.inl (fun _ => 0)))), (q3, .inl (cJ, 20, .inr (.inl (fun _ => 0)))), (q4, .inl (cI, 8, .inl (fun _ => 0))), (q5, .inl (cJ, 5, .inr (.inl (fun _ => 0)))), (q6, .inl (cJ, 5, .inr (.inl (fun _ => 0)))), (q7, .inl (cJ, 5, .inr (.inl (fun _ => 0)))), (q8, .inl (cI, 14, .inl f14))] := hD
  refine va_putF (ci := 6) (v := .ref q8) (ty := tyX8 13) (C := RX8) (T := TX8) (N := 16) S.1 S.2.1 S.2.2.2.2 gX8 tyX8 tyX8_ok nmX8 S.2.2.2.1 hK hP hD hS 0 rfl rfl 13 (by decide) (S.2.2.2.2 _ iw_57) (fun _ h9 => h9) rfl hin rfl (tyX8_ok 13 (by decide)) rfl rfl (Nat.le_of_ble_eq_true rfl) dX8_init_141 (fun H locs hP hD hS => ?_)
  have hP : va_P D vwCl [(h0, .inr (6, [.int 0, .int 0, .ref q0, .ref q1, .ref q2, .ref q3, .int 0, .ref q4, .long 0, .ref q5, .long 0, .ref q6, .ref q7, .ref q8, .null, .int 0])), (q0, .inl (cJ, 80, .inr (.inl (fun _ => 0)))), (q1, .inl (cJ, 5, .inr (.inl (fun _ => 0)))), (q2, .inl (cJ, 5, .inr (.inl (fun _ => 0)))), (q3, .inl (cJ, 20, .inr (.inl (fun _ => 0)))), (q4, .inl (cI, 8, .inl (fun _ => 0))), (q5, .inl (cJ, 5, .inr (.inl (fun _ => 0)))), (q6, .inl (cJ, 5, .inr (.inl (fun _ => 0)))), (q7, .inl (cJ, 5, .inr (.inl (fun _ => 0)))), (q8, .inl (cI, 14, .inl f14))] H := hP
  have hD : va_D (fA h0 s.heap.size) [(h0, .inr (6, [.int 0, .int 0, .ref q0, .ref q1, .ref q2, .ref q3, .int 0, .ref q4, .long 0, .ref q5, .long 0, .ref q6, .ref q7, .ref q8, .null, .int 0])), (q0, .inl (cJ, 80, .inr (.inl (fun _ => 0)))), (q1, .inl (cJ, 5, .inr (.inl (fun _ => 0)))), (q2, .inl (cJ, 5, .inr (.inl (fun _ => 0)))), (q3, .inl (cJ, 20, .inr (.inl (fun _ => 0)))), (q4, .inl (cI, 8, .inl (fun _ => 0))), (q5, .inl (cJ, 5, .inr (.inl (fun _ => 0)))), (q6, .inl (cJ, 5, .inr (.inl (fun _ => 0)))), (q7, .inl (cJ, 5, .inr (.inl (fun _ => 0)))), (q8, .inl (cI, 14, .inl f14))] := hD
  refine lv_aload_n S.1 S.2.1 dX8_init_144 rfl (lv_at hl 0 rfl) ?_
  refine lv_sipush (v := 484) S.1 S.2.1 dX8_init_145 (by decide) ?_
  refine ci_newJ (N' := 484) S hK hP hD hS hA (by decide) (by decide) (by decide) (by decide) (by decide) dX8_init_148 (fun q9 H hP hD hS => ?_)
  have hP : va_P D vwCl [(h0, .inr (6, [.int 0, .int 0, .ref q0, .ref q1, .ref q2, .ref q3, .int 0, .ref q4, .long 0, .ref q5, .long 0, .ref q6, .ref q7, .ref q8, .null, .int 0])), (q0, .inl (cJ, 80, .inr (.inl (fun _ => 0)))), (q1, .inl (cJ, 5, .inr (.inl (fun _ => 0)))), (q2, .inl (cJ, 5, .inr (.inl (fun _ => 0)))), (q3, .inl (cJ, 20, .inr (.inl (fun _ => 0)))), (q4, .inl (cI, 8, .inl (fun _ => 0))), (q5, .inl (cJ, 5, .inr (.inl (fun _ => 0)))), (q6, .inl (cJ, 5, .inr (.inl (fun _ => 0)))), (q7, .inl (cJ, 5, .inr (.inl (fun _ => 0)))), (q8, .inl (cI, 14, .inl f14)), (q9, .inl (cJ, 484, .inr (.inl (fun _ => 0))))] H := hP
  have hD : va_D (fA h0 s.heap.size) [(h0, .inr (6, [.int 0, .int 0, .ref q0, .ref q1, .ref q2, .ref q3, .int 0, .ref q4, .long 0, .ref q5, .long 0, .ref q6, .ref q7, .ref q8, .null, .int 0])), (q0, .inl (cJ, 80, .inr (.inl (fun _ => 0)))), (q1, .inl (cJ, 5, .inr (.inl (fun _ => 0)))), (q2, .inl (cJ, 5, .inr (.inl (fun _ => 0)))), (q3, .inl (cJ, 20, .inr (.inl (fun _ => 0)))), (q4, .inl (cI, 8, .inl (fun _ => 0))), (q5, .inl (cJ, 5, .inr (.inl (fun _ => 0)))), (q6, .inl (cJ, 5, .inr (.inl (fun _ => 0)))), (q7, .inl (cJ, 5, .inr (.inl (fun _ => 0)))), (q8, .inl (cI, 14, .inl f14)), (q9, .inl (cJ, 484, .inr (.inl (fun _ => 0))))] := hD
  refine W.widen (k := 10) (n := 631) (by decide) (by decide) ?_
  refine va_putF (ci := 6) (v := .ref q9) (ty := tyX8 14) (C := RX8) (T := TX8) (N := 16) S.1 S.2.1 S.2.2.2.2 gX8 tyX8 tyX8_ok nmX8 S.2.2.2.1 hK hP hD hS 0 rfl rfl 14 (by decide) (S.2.2.2.2 _ iw_58) (fun _ h9 => h9) rfl hin rfl (tyX8_ok 14 (by decide)) rfl rfl (Nat.le_of_ble_eq_true rfl) dX8_init_150 (fun H locs hP hD hS => ?_)
  have hP : va_P D vwCl [(h0, .inr (6, [.int 0, .int 0, .ref q0, .ref q1, .ref q2, .ref q3, .int 0, .ref q4, .long 0, .ref q5, .long 0, .ref q6, .ref q7, .ref q8, .ref q9, .int 0])), (q0, .inl (cJ, 80, .inr (.inl (fun _ => 0)))), (q1, .inl (cJ, 5, .inr (.inl (fun _ => 0)))), (q2, .inl (cJ, 5, .inr (.inl (fun _ => 0)))), (q3, .inl (cJ, 20, .inr (.inl (fun _ => 0)))), (q4, .inl (cI, 8, .inl (fun _ => 0))), (q5, .inl (cJ, 5, .inr (.inl (fun _ => 0)))), (q6, .inl (cJ, 5, .inr (.inl (fun _ => 0)))), (q7, .inl (cJ, 5, .inr (.inl (fun _ => 0)))), (q8, .inl (cI, 14, .inl f14)), (q9, .inl (cJ, 484, .inr (.inl (fun _ => 0))))] H := hP
  have hD : va_D (fA h0 s.heap.size) [(h0, .inr (6, [.int 0, .int 0, .ref q0, .ref q1, .ref q2, .ref q3, .int 0, .ref q4, .long 0, .ref q5, .long 0, .ref q6, .ref q7, .ref q8, .ref q9, .int 0])), (q0, .inl (cJ, 80, .inr (.inl (fun _ => 0)))), (q1, .inl (cJ, 5, .inr (.inl (fun _ => 0)))), (q2, .inl (cJ, 5, .inr (.inl (fun _ => 0)))), (q3, .inl (cJ, 20, .inr (.inl (fun _ => 0)))), (q4, .inl (cI, 8, .inl (fun _ => 0))), (q5, .inl (cJ, 5, .inr (.inl (fun _ => 0)))), (q6, .inl (cJ, 5, .inr (.inl (fun _ => 0)))), (q7, .inl (cJ, 5, .inr (.inl (fun _ => 0)))), (q8, .inl (cI, 14, .inl f14)), (q9, .inl (cJ, 484, .inr (.inl (fun _ => 0))))] := hD
  have hP : va_P D vwCl (wX8 cI cJ cH h0 ⟨q0, q1, q2, q3, q4, q5, q6, q7, q8, q9⟩) H := ci_setP (k := 9) hP (ci_cellI (hP 9 _ rfl) hf14)
  have hD : va_D (fA h0 s.heap.size) (wX8 cI cJ cH h0 ⟨q0, q1, q2, q3, q4, q5, q6, q7, q8, q9⟩) := va_D.set (p := 9) hD rfl
  exact W.vret S.1 S.2.1 hr (fun t ht _ => ⟨⟨⟨q0, q1, q2, q3, q4, q5, q6, q7, q8, q9⟩, rfl, trivial, by rw [ht]; exact hP, hD⟩, hS.F ht⟩) hS.2.2 dX8_init_153 hlk
