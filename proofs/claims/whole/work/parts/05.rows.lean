/-! the memory of the worlds: addresses L, what lies at each by f; a contract's world is va_pl L f -/
theorem pm_D {L : List Nat} (hn : L.Nodup) (f : Nat → va_E) : va_D (fun q => q ∈ L) (va_pl L f) := by
  refine ⟨fun i j x y hi hj h => ?_, fun k q hk => ?_⟩
  · simp only [va_pl, List.getElem?_map, Option.map_eq_some_iff] at hi hj
    obtain ⟨a, ha, rfl⟩ := hi
    obtain ⟨b, hb, rfl⟩ := hj
    dsimp only at h
    subst h
    exact (List.getElem?_inj (List.getElem?_eq_some_iff.mp ha).1 hn).mp (ha.trans hb.symm)
  · simp only [va_pl, List.getElem?_map, Option.map_eq_some_iff] at hk
    obtain ⟨a, ha, rfl⟩ := hk
    exact List.mem_of_getElem? ha
/-- at a of L lies x -/
def pH (L : List Nat) (f : Nat → va_E) (a : Nat) (x : va_E) : Prop := a ∈ L ∧ f a = x
theorem pH.up {L : List Nat} {f : Nat → va_E} {a : Nat} {x y : va_E} (h : pH L f a x) : pH L (va_up f a y) a y := ⟨h.1, va_up_self f a y⟩
theorem pH.ne {L : List Nat} {f : Nat → va_E} {a b : Nat} {x y : va_E} (h : pH L f a x) (n : a ≠ b) : pH L (va_up f b y) a x := ⟨h.1, (va_up_ne f y n).trans h.2⟩
theorem pm_at {L : List Nat} {f : Nat → va_E} {a : Nat} {x : va_E} (h : pH L f a x) : ∃ k : Nat, (va_pl L f)[k]? = some (a, f a) ∧ (va_pl L f)[k]? = some (a, x) := by
  obtain ⟨k, hk⟩ := va_pl_get (X := []) (f := f) h.1
  exact ⟨k, hk, hk.trans (by rw [h.2])⟩
theorem pm_set {L : List Nat} {f : Nat → va_E} {a k : Nat} {x : va_E} (hn : L.Nodup) (h : a ∈ L) (hk : (va_pl L f)[k]? = some (a, f a)) : (va_pl L f).set k (a, x) = va_pl L (va_up f a x) :=
  va_pl_set (X := []) (pm_D hn f) h hk


theorem pm_cell {D : va_G} {L : List Nat} {f : Nat → va_E} {H : Heap} {tys : List (ClassId × FieldType)} {s : State} {a ci : Nat} {q : vw_C} {fs : List Value} (hK : va_K D vwCl tys s) (hP : va_P D vwCl (va_pl L f) H) (hM : pH L f a (.inr (ci, fs))) (hc : vwCl[ci]? = some q) : ∃ cell : Cell, H[a]? = some cell ∧ cell.vm.isStatics = false ∧ s.vm.findClass q.1 = some cell.cls := by
  obtain ⟨k, hk, hk2⟩ := pm_at hM
  exact va_recv hK hP hc hk2
section PMR
variable {p : Program} {l : Launch} {e : Env} {R : Room} {s : State} {m : MethodId} {args : Array Value} {below : List Frame} {meth : Method} {c : Code} {H : Heap} {locs : List Loc} {cells slots : Nat} {Q : State → Prop} {cc : ByteArray} {pc nL : Nat} {ls : Array Slot} {rest : List Value} {own : String}
/-- a long constant -/
theorem pm_ldc2 (S : CallFix p m c cc nL s args gT own) {index : Nat} {v : Int64} (hw : Cond.constantLong own index v ∈ gT) (hdg : decode cc pc = .ok (.ldc2_w index, 3)) (kk : W p l e R s m args below meth c H locs cells slots Q (F0 m (pc + 3) ls (.long v :: rest))) : W p l e R s m args below meth c H locs cells slots Q (F0 m pc ls rest) :=
  W.ldc2 S.1 S.2.1 S.2.2.2.1 (S.2.2.2.2 _ hw) rfl hdg kk
/-- an int constant -/
theorem pm_ldc (S : CallFix p m c cc nL s args gT own) {index : Nat} {v : Int32} (hw : Cond.constant own index v ∈ gT) (hdg : decode cc pc = .ok (.ldc index, 2)) (kk : W p l e R s m args below meth c H locs cells slots Q (F0 m (pc + 2) ls (.int v :: rest))) : W p l e R s m args below meth c H locs cells slots Q (F0 m pc ls rest) :=
  W.ldc S.1 S.2.1 S.2.2.2.1 (S.2.2.2.2 _ hw) rfl hdg kk
/-- lcmp and the branch behind it -/
theorem pm_lge (S : CallFix p m c cc nL s args gT own) {x y : Int64} {off : Int} {tgt : Nat} (hdg : decode cc pc = .ok (.lcmp, 1)) (hd2 : decode cc (pc + 1) = .ok (.ifCond .ge off, 3)) (ht : ((pc + 1 : Nat) : Int) + off = (tgt : Int)) (k1 : y ≤ x → W p l e R s m args below meth c H locs cells slots Q (F0 m tgt ls rest)) (k2 : ¬ y ≤ x → W p l e R s m args below meth c H locs cells slots Q (F0 m (pc + 1 + 3) ls rest)) : W p l e R s m args below meth c H locs cells slots Q (F0 m pc ls (.long y :: .long x :: rest)) :=
  W.lcmp S.1 S.2.1 hdg (lv_if_ge S.1 S.2.1 hd2 ht (fun h => k1 ((lg_cmp_ge x y).mp h)) (fun h => k2 (fun q => h ((lg_cmp_ge x y).mpr q))))
theorem pm_lle (S : CallFix p m c cc nL s args gT own) {x y : Int64} {off : Int} {tgt : Nat} (hdg : decode cc pc = .ok (.lcmp, 1)) (hd2 : decode cc (pc + 1) = .ok (.ifCond .le off, 3)) (ht : ((pc + 1 : Nat) : Int) + off = (tgt : Int)) (k1 : x ≤ y → W p l e R s m args below meth c H locs cells slots Q (F0 m tgt ls rest)) (k2 : ¬ x ≤ y → W p l e R s m args below meth c H locs cells slots Q (F0 m (pc + 1 + 3) ls rest)) : W p l e R s m args below meth c H locs cells slots Q (F0 m pc ls (.long y :: .long x :: rest)) :=
  W.lcmp S.1 S.2.1 hdg (lv_if_le S.1 S.2.1 hd2 ht (fun h => k1 ((lg_cmp_le x y).mp h)) (fun h => k2 (fun q => h ((lg_cmp_le x y).mpr q))))
theorem pm_lgt (S : CallFix p m c cc nL s args gT own) {x y : Int64} {off : Int} {tgt : Nat} (hdg : decode cc pc = .ok (.lcmp, 1)) (hd2 : decode cc (pc + 1) = .ok (.ifCond .gt off, 3)) (ht : ((pc + 1 : Nat) : Int) + off = (tgt : Int)) (k1 : y < x → W p l e R s m args below meth c H locs cells slots Q (F0 m tgt ls rest)) (k2 : ¬ y < x → W p l e R s m args below meth c H locs cells slots Q (F0 m (pc + 1 + 3) ls rest)) : W p l e R s m args below meth c H locs cells slots Q (F0 m pc ls (.long y :: .long x :: rest)) :=
  W.lcmp S.1 S.2.1 hdg (lv_if_gt S.1 S.2.1 hd2 ht (fun h => k1 ((lg_cmp_gt x y).mp h)) (fun h => k2 (fun q => h ((lg_cmp_gt x y).mpr q))))
theorem pm_llt (S : CallFix p m c cc nL s args gT own) {x y : Int64} {off : Int} {tgt : Nat} (hdg : decode cc pc = .ok (.lcmp, 1)) (hd2 : decode cc (pc + 1) = .ok (.ifCond .lt off, 3)) (ht : ((pc + 1 : Nat) : Int) + off = (tgt : Int)) (k1 : x < y → W p l e R s m args below meth c H locs cells slots Q (F0 m tgt ls rest)) (k2 : ¬ x < y → W p l e R s m args below meth c H locs cells slots Q (F0 m (pc + 1 + 3) ls rest)) : W p l e R s m args below meth c H locs cells slots Q (F0 m pc ls (.long y :: .long x :: rest)) :=
  W.lcmp S.1 S.2.1 hdg (lv_if_lt S.1 S.2.1 hd2 ht (fun h => k1 ((lg_cmp_lt x y).mp h)) (fun h => k2 (fun q => h ((lg_cmp_lt x y).mpr q))))
theorem pm_leq (S : CallFix p m c cc nL s args gT own) {x y : Int64} {off : Int} {tgt : Nat} (hdg : decode cc pc = .ok (.lcmp, 1)) (hd2 : decode cc (pc + 1) = .ok (.ifCond .eq off, 3)) (ht : ((pc + 1 : Nat) : Int) + off = (tgt : Int)) (k1 : x = y → W p l e R s m args below meth c H locs cells slots Q (F0 m tgt ls rest)) (k2 : ¬ x = y → W p l e R s m args below meth c H locs cells slots Q (F0 m (pc + 1 + 3) ls rest)) : W p l e R s m args below meth c H locs cells slots Q (F0 m pc ls (.long y :: .long x :: rest)) :=
  W.lcmp S.1 S.2.1 hdg (lv_if_eq S.1 S.2.1 hd2 ht (fun h => k1 ((lg_cmp_eq x y).mp h)) (fun h => k2 (fun q => h ((lg_cmp_eq x y).mpr q))))
theorem pm_lne (S : CallFix p m c cc nL s args gT own) {x y : Int64} {off : Int} {tgt : Nat} (hdg : decode cc pc = .ok (.lcmp, 1)) (hd2 : decode cc (pc + 1) = .ok (.ifCond .ne off, 3)) (ht : ((pc + 1 : Nat) : Int) + off = (tgt : Int)) (k1 : x ≠ y → W p l e R s m args below meth c H locs cells slots Q (F0 m tgt ls rest)) (k2 : x = y → W p l e R s m args below meth c H locs cells slots Q (F0 m (pc + 1 + 3) ls rest)) : W p l e R s m args below meth c H locs cells slots Q (F0 m pc ls (.long y :: .long x :: rest)) :=
  W.lcmp S.1 S.2.1 hdg (lv_if_ne S.1 S.2.1 hd2 ht (fun h => k1 (fun q => h ((lg_cmp_eq x y).mpr q))) (fun h => k2 ((lg_cmp_eq x y).mp h)))
/-- a field is read -/
theorem pm_get (S : CallFix p m c cc nL s args gT own) {D : va_G} {tys : List (ClassId × FieldType)} {L : List Nat} {f : Nat → va_E} (hK : va_K D vwCl tys s) (hP : va_P D vwCl (va_pl L f) H) {a ci N index k : Nat} {C ref : String} {T : u_T} {fs : List Value} (hM : pH L f a (.inr (ci, fs))) (hin : ∀ w ∈ u_ws C T N, w ∈ gT) (hc : vwCl[ci]? = some (C, T, N)) (hk : k < N) (hlink : Cond.fieldLink own index ref (T k).2.1 (T k).2.2.1 ∈ gT) (href : (T k).1 = ref) {v : Value} (hv : fs[k]? = some v) (hdg : decode cc pc = .ok (.getfield index, 3))
    (kk : W p l e R s m args below meth c H locs cells slots Q (F0 m (pc + 3) ls (v :: rest))) : W p l e R s m args below meth c H locs cells slots Q (F0 m pc ls (.ref a :: rest)) := by
  obtain ⟨q, hq, hq2⟩ := pm_at hM
  exact va_get S.1 S.2.1 S.2.2.2.2 hin S.2.2.2.1 hK hP q hq2 hc k hk (S.2.2.2.2 _ hlink) (fun x h => href ▸ h) hv hdg kk
/-- a field is written -/
theorem pm_put (S : CallFix p m c cc nL s args gT own) {D : va_G} {tys : List (ClassId × FieldType)} {L : List Nat} {f : Nat → va_E} (hn : L.Nodup) (hK : va_K D vwCl tys s) (hP : va_P D vwCl (va_pl L f) H) (hS : va_S (fun q => q ∈ L) s.heap H locs) {a ci N index k : Nat} {C ref : String} {T : u_T} {fs fs' : List Value} (hM : pH L f a (.inr (ci, fs))) (hin : ∀ w ∈ u_ws C T N, w ∈ gT) (ty0 : Nat → FieldType) (hty : ∀ k, k < N → parseFieldDescriptor (T k).2.2.1 = some (ty0 k)) (hnm : ∀ a, a < N → ∀ b, b < N → a ≠ b → (T a).2.1 ≠ (T b).2.1) (hc : vwCl[ci]? = some (C, T, N)) (hk : k < N) (hlink : Cond.fieldLink own index ref (T k).2.1 (T k).2.2.1 ∈ gT) (href : (T k).1 = ref) (hfin : (T k).2.2.2 = false) {v : Value} (hnw : narrow (ty0 k) v = v) (hfit : fits (ty0 k) v = true) (hl : k < fs.length) (hfs : fs.set k v = fs') (hdg : decode cc pc = .ok (.putfield index, 3))
    (kk : ∀ (H1 : Heap) (locs1 : List Loc), va_P D vwCl (va_pl L (va_up f a (.inr (ci, fs')))) H1 → va_S (fun q => q ∈ L) s.heap H1 locs1 → W p l e R s m args below meth c H1 locs1 cells slots Q (F0 m (pc + 3) ls rest)) : W p l e R s m args below meth c H locs cells slots Q (F0 m pc ls (v :: .ref a :: rest)) := by
  obtain ⟨q, hq, hq2⟩ := pm_at hM
  refine va_put S.1 S.2.1 S.2.2.2.2 hin ty0 hty hnm S.2.2.2.1 hK hP (pm_D hn f) hS q hq2 hc k hk (S.2.2.2.2 _ hlink) (fun x h => href ▸ h) hfin (hty k hk) hnw hfit hl hdg (fun H1 locs1 h1 _ h3 => kk H1 locs1 ?_ h3)
  rw [pm_set hn hM.1 hq, hfs] at h1
  exact h1
/-- arrays -/
theorem pm_iald (S : CallFix p m c cc nL s args gT own) {D : va_G} {tys : List (ClassId × FieldType)} {L : List Nat} {f : Nat → va_E} (hK : va_K D vwCl tys s) (hP : va_P D vwCl (va_pl L f) H) {a n : Nat} {cA : ClassId} {g : Nat → Int32} (hM : pH L f a (.inl (cA, n, .inl g))) {t0 : Nat} (ht : tys[t0]? = some (cA, .int)) {i : Int32} (hin : vp_in i n) (hdg : decode cc pc = .ok (.iaload, 1))
    (kk : W p l e R s m args below meth c H locs cells slots Q (F0 m (pc + 1) ls (.int (g i.toNatClampNeg) :: rest))) : W p l e R s m args below meth c H locs cells slots Q (F0 m pc ls (.int i :: .ref a :: rest)) := by
  obtain ⟨q, hq, hq2⟩ := pm_at hM
  exact va_iald S.1 S.2.1 hK hP q t0 hq2 ht hin hdg kk
theorem pm_lald (S : CallFix p m c cc nL s args gT own) {D : va_G} {tys : List (ClassId × FieldType)} {L : List Nat} {f : Nat → va_E} (hK : va_K D vwCl tys s) (hP : va_P D vwCl (va_pl L f) H) {a n : Nat} {cA : ClassId} {g : Nat → Int64} (hM : pH L f a (.inl (cA, n, .inr (.inl g)))) {t0 : Nat} (ht : tys[t0]? = some (cA, .long)) {i : Int32} (hin : vp_in i n) (hdg : decode cc pc = .ok (.laload, 1))
    (kk : W p l e R s m args below meth c H locs cells slots Q (F0 m (pc + 1) ls (.long (g i.toNatClampNeg) :: rest))) : W p l e R s m args below meth c H locs cells slots Q (F0 m pc ls (.int i :: .ref a :: rest)) := by
  obtain ⟨q, hq, hq2⟩ := pm_at hM
  exact va_lald S.1 S.2.1 hK hP q t0 hq2 ht hin hdg kk
theorem pm_aald (S : CallFix p m c cc nL s args gT own) {D : va_G} {tys : List (ClassId × FieldType)} {L : List Nat} {f : Nat → va_E} (hK : va_K D vwCl tys s) (hP : va_P D vwCl (va_pl L f) H) {a n : Nat} {cA : ClassId} {C : String} {g : Nat → Option Nat} (hM : pH L f a (.inl (cA, n, .inr (.inr (.inr (.inr g)))))) {t0 : Nat} (ht : tys[t0]? = some (cA, .object C)) {i : Int32} (hin : vp_in i n) {b : Nat} (hb : g i.toNatClampNeg = some b) (hdg : decode cc pc = .ok (.aaload, 1))
    (kk : W p l e R s m args below meth c H locs cells slots Q (F0 m (pc + 1) ls (.ref b :: rest))) : W p l e R s m args below meth c H locs cells slots Q (F0 m pc ls (.int i :: .ref a :: rest)) := by
  obtain ⟨q, hq, hq2⟩ := pm_at hM
  exact va_aldq S.1 S.2.1 hK hP q t0 hq2 ht hin hdg (by rw [hb]; exact kk)
theorem pm_iast (S : CallFix p m c cc nL s args gT own) {D : va_G} {tys : List (ClassId × FieldType)} {L : List Nat} {f : Nat → va_E} (hn : L.Nodup) (hK : va_K D vwCl tys s) (hP : va_P D vwCl (va_pl L f) H) (hS : va_S (fun q => q ∈ L) s.heap H locs) {a n : Nat} {cA : ClassId} {g : Nat → Int32} (hM : pH L f a (.inl (cA, n, .inl g))) {t0 : Nat} (ht : tys[t0]? = some (cA, .int)) {i x : Int32} (hin : vp_in i n) (hdg : decode cc pc = .ok (.iastore, 1))
    (kk : ∀ (H1 : Heap) (locs1 : List Loc), va_P D vwCl (va_pl L (va_up f a (.inl (cA, n, .inl (upd g i.toNatClampNeg x))))) H1 → va_S (fun q => q ∈ L) s.heap H1 locs1 → W p l e R s m args below meth c H1 locs1 cells slots Q (F0 m (pc + 1) ls rest)) : W p l e R s m args below meth c H locs cells slots Q (F0 m pc ls (.int x :: .int i :: .ref a :: rest)) := by
  obtain ⟨q, hq, hq2⟩ := pm_at hM
  refine va_iast S.1 S.2.1 hK hP (pm_D hn f) hS q t0 hq2 ht hin hdg (fun H1 locs1 h1 _ h3 => kk H1 locs1 ?_ h3)
  rw [pm_set hn hM.1 hq] at h1
  exact h1
theorem pm_last (S : CallFix p m c cc nL s args gT own) {D : va_G} {tys : List (ClassId × FieldType)} {L : List Nat} {f : Nat → va_E} (hn : L.Nodup) (hK : va_K D vwCl tys s) (hP : va_P D vwCl (va_pl L f) H) (hS : va_S (fun q => q ∈ L) s.heap H locs) {a n : Nat} {cA : ClassId} {g : Nat → Int64} (hM : pH L f a (.inl (cA, n, .inr (.inl g)))) {t0 : Nat} (ht : tys[t0]? = some (cA, .long)) {i : Int32} {x : Int64} (hin : vp_in i n) (hdg : decode cc pc = .ok (.lastore, 1))
    (kk : ∀ (H1 : Heap) (locs1 : List Loc), va_P D vwCl (va_pl L (va_up f a (.inl (cA, n, .inr (.inl (vp_updL g i.toNatClampNeg x)))))) H1 → va_S (fun q => q ∈ L) s.heap H1 locs1 → W p l e R s m args below meth c H1 locs1 cells slots Q (F0 m (pc + 1) ls rest)) : W p l e R s m args below meth c H locs cells slots Q (F0 m pc ls (.long x :: .int i :: .ref a :: rest)) := by
  obtain ⟨q, hq, hq2⟩ := pm_at hM
  refine va_last S.1 S.2.1 hK hP (pm_D hn f) hS q t0 hq2 ht hin hdg (fun H1 locs1 h1 _ h3 => kk H1 locs1 ?_ h3)
  rw [pm_set hn hM.1 hq] at h1
  exact h1
end PMR
/-! calls: every method has the words '.code .. :: gT', the room of its level -/
abbrev pR (n : Nat) : Room := { frames := n, cells := 0, slots := 0, locals := 45 * n }
abbrev pWs (y : MethodName) (bytes : ByteArray) (maxL : Nat) (ret : Option FieldType) : List Cond := Cond.code y bytes maxL ret :: gT
/-- what the tables say of a static method, and of one of an object -/
def pm_Sm (y : MethodName) (bytes : ByteArray) (maxL : Nat) (ret : Option FieldType) (n : Nat) : Prop := Cond.code y bytes maxL ret ∈ gT ∧ Cond.static y ∈ gT ∧ Cond.initialized y.cls ∈ gT ∧ (y.cls ≠ "java/lang/invoke/MethodHandle" ∧ y.cls ≠ "java/lang/invoke/VarHandle") ∧ (parseMethodDescriptor y.desc).map (fun d => d.parameters.length) = some n
def pm_Vm (y : MethodName) (bytes : ByteArray) (maxL : Nat) (ret : Option FieldType) (n : Nat) : Prop := Cond.code y bytes maxL ret ∈ gT ∧ Cond.instanceMethod y ∈ gT ∧ Cond.selects y.cls y y ∈ gT ∧ Cond.initialized y.cls ∈ gT ∧ (y.cls ≠ "java/lang/invoke/MethodHandle" ∧ y.cls ≠ "java/lang/invoke/VarHandle") ∧ (parseMethodDescriptor y.desc).map (fun d => d.parameters.length) = some n
theorem pm_ok : ∀ w ∈ gT, (w.onTables && w.keeps) = true ∨ ∃ ty, w = .arrayClass ty := fun w h => (gT_good w h).2
theorem pm_len {y : MethodName} {n : Nat} {As : List Value} (h : (parseMethodDescriptor y.desc).map (fun d => d.parameters.length) = some n) (hn : As.length = n) : ∀ sig, parseMethodDescriptor y.desc = some sig → As.length = sig.parameters.length := by
  intro sig hs
  rw [hs] at h
  exact hn.trans (Option.some.inj h).symm
/-- the world of a contract -/
def pPc (D : va_G) (tys : List (ClassId × FieldType)) (L : List Nat) (f : Nat → va_E) (U : State) : Prop := va_P D vwCl (va_pl L f) U.heap ∧ va_K D vwCl tys U
def pQv (D : va_G) (L : List Nat) (post : (Nat → va_E) → Prop) : Array Value → State → Outcome → State → Prop := fun _ st o t => ∃ f' : Nat → va_E, o = .returned none ∧ post f' ∧ va_P D vwCl (va_pl L f') t.heap ∧ va_F (fun q => q ∈ L) st t
def pQi (D : va_G) (L : List Nat) (post : Int32 → (Nat → va_E) → Prop) : Array Value → State → Outcome → State → Prop := fun _ st o t => ∃ (r : Int32) (f' : Nat → va_E), o = .returned (some (.int r)) ∧ post r f' ∧ va_P D vwCl (va_pl L f') t.heap ∧ va_F (fun q => q ∈ L) st t
def pQl (D : va_G) (L : List Nat) (post : Int64 → (Nat → va_E) → Prop) : Array Value → State → Outcome → State → Prop := fun _ st o t => ∃ (r : Int64) (f' : Nat → va_E), o = .returned (some (.long r)) ∧ post r f' ∧ va_P D vwCl (va_pl L f') t.heap ∧ va_F (fun q => q ∈ L) st t
theorem pm_blind (As : List Value) (D : va_G) (tys : List (ClassId × FieldType)) (L : List Nat) (f : Nat → va_E) : FrameBlind (va_Pc As (pPc D tys L f)) := fun _ U g mk q => ⟨q.1, q.2.1, va_K.moved (u := U) (U := U.calling g mk _) (Vm.Alike.refl U.vm) q.2.2⟩
theorem pm_blindT (As : List Value) : FrameBlind (va_Pc As (fun _ => True)) := fun _ _ _ _ q => q
/-- a body, from its entry -/
theorem pm_of {l : Launch} {y : MethodName} {bytes : ByteArray} {maxL : Nat} {ret : Option FieldType} {rm : Room} {Pc' : State → Prop} {Qc : Array Value → State → Outcome → State → Prop} {free : Addr → Prop} {As : List Value} (hy : plainName y.cls = true) (hA : (lg_sl As).length ≤ maxL)
    (body : ∀ (p : Program) (e : Env) (s : State) (m : MethodId) (below : List Frame) (meth : Method) (c : Code), CallFix p m c bytes maxL s As.toArray gT y.cls → meth.sig.returnType = ret → meth.locks = false → Pc' s → ∀ ls : Array Slot, lv_has ls maxL (lv_args 0 As) →
      W p l e rm s m As.toArray below meth c s.heap [] 0 0 (MQ below Qc As.toArray s 0 0 free) (F0 m 0 ls [])) : Met l y (pWs y bytes maxL ret) rm (va_Pc As Pc') Qc 0 0 free := by
  refine Met.ofW (cc := bytes) (maxL := maxL) (ret := ret) hy rfl ?_
  intro p e s m args below meth c s₁ B hml hv
  obtain ⟨rfl, hv⟩ := hv
  have hts := atoms_spec (ws := pWs y bytes maxL ret) B.pre
  have hl := lv_entry As (n := maxL) hA
  rw [lg_entry_eq]
  exact body p e s m below meth c ⟨B.exec, B.bytes, hml, findClass_of_methodNamed B.named, fun w h => hts w (List.mem_cons_of_mem _ h)⟩ B.returns B.notSynchronized hv _ hl
section PMC
variable {p : Program} {l : Launch} {e : Env} {R : Room} {s : State} {m : MethodId} {args : Array Value} {below : List Frame} {meth : Method} {c : Code} {H : Heap} {locs : List Loc} {cells slots : Nat} {Q : State → Prop} {cc : ByteArray} {pc nL : Nat} {ls : Array Slot} {rest st : List Value} {own : String}
  {y : MethodName} {bytes : ByteArray} {maxL n index : Nat} {ret : Option FieldType} {rm : Room} {Pc : Array Value → State → Prop} {Qc : Array Value → State → Outcome → State → Prop} {free : Addr → Prop} {As : List Value} {b : Nat}
theorem pm_words (S : CallFix p m c cc nL s args gT own) (hc : Cond.code y bytes maxL ret ∈ gT) : ∀ w ∈ pWs y bytes maxL ret, ∀ (a' : Array Value) (U : State), s.WarmedH U.vm → w.before a' U = true := by
  intro w hw a' U hU
  have hw' : w ∈ gT := by
    rcases List.mem_cons.mp hw with h | h
    · rw [h]; exact hc
    · exact h
  exact word_at hU (pm_ok w hw') (S.2.2.2.2 w hw')
theorem pm_runS (S : CallFix p m c cc nL s args gT own) (hM : Met l y (pWs y bytes maxL ret) rm Pc Qc 0 0 free) (hm : pm_Sm y bytes maxL ret n) (hlink : Cond.methodLink own index y ∈ gT) (hbl : FrameBlind Pc) (hpc : ∀ U : State, U.heap = H → s.WarmedH U.vm → Pc As.toArray U)
    (hrm : (rm.cells = 0 ∧ rm.slots = 0) ∧ rm.frames + 1 ≤ R.frames ∧ 20 + (maxL + 11) + rm.locals ≤ R.locals) (hn : As.length = n) (hsize : ls.size = nL) (hst : st = As.reverse ++ rest) (hW : (rest.map fun v => v.category).sum ≤ 20) (hf : cells ≤ R.cells ∧ slots ≤ R.slots) (hdg : decode cc pc = .ok (.invokestatic index, 3)) :
    CallRun p l e R s m args below meth c H locs cells slots 0 0 (F0 m pc ls st) rest (Qc As.toArray) free := by
  have hK : Back l R p e below s args y 3 20 (PreOf R 0 0 Pc) (PostOf Qc 0 0 free) := back_of (bytes := bytes) (maxL := maxL) (ret := ret) hM hbl hrm.1.1 hrm.1.2 hrm.2.1 hrm.2.2 (pm_words S hm.1) List.mem_cons_self (fun a' U hU => word_at hU (pm_ok _ hm.2.2.1) (S.2.2.2.2 _ hm.2.2.1))
  intro T hT X
  obtain ⟨v, vm₁, ⟨U', l2, c2, s2⟩, hW₁, X', ⟨g', mk, t, L, e1, e2, hq, h1, hL, h2, h3⟩, st⟩ := callS X S.1 (bytes := bytes) (maxL := maxL) (ret := ret) S.2.2.2.1 (S.2.2.2.2 _ hlink) (S.2.2.2.2 _ hm.2.1) (S.2.2.2.2 _ hm.2.2.1) (S.2.2.2.2 _ hm.1) hm.2.2.2.1 hK (g := F0 m pc ls st) rfl (hsize.trans S.2.2.1.symm) (argsL := As) (rest := rest) (pm_len hm.2.2.2.2 hn) hst (by simpa [JFrame.monitorRoom] using hW) (by rw [S.2.1]; exact hdg)
    (fun vm₁ hW₁ => ⟨hf.1, hf.2, hpc (T.setVm vm₁) hT hW₁⟩)
  dsimp only [Pt.U, Pt.locs, Pt.cells, Pt.slots] at X' e1 e2 h1 h2 h3 st
  subst h1; subst h2; subst h3
  exact ⟨v, (T.setVm vm₁).calling g' mk As.toArray, t, U', L, hT, X', hL, e1, hq, st⟩
theorem pm_runV (S : CallFix p m c cc nL s args gT own) (hM : Met l y (pWs y bytes maxL ret) rm Pc Qc 0 0 free) (hm : pm_Vm y bytes maxL ret n) (hlink : Cond.methodLink own index y ∈ gT) (hbl : FrameBlind Pc) (hpc : ∀ U : State, U.heap = H → s.WarmedH U.vm → Pc (Value.ref b :: As).toArray U) (hrc : ∃ cell : Cell, H[b]? = some cell ∧ cell.vm.isStatics = false ∧ s.vm.findClass y.cls = some cell.cls)
    (hrm : (rm.cells = 0 ∧ rm.slots = 0) ∧ rm.frames + 1 ≤ R.frames ∧ 20 + (maxL + 11) + rm.locals ≤ R.locals) (hn : As.length = n) (hsize : ls.size = nL) (hst : st = As.reverse ++ .ref b :: rest) (hW : (rest.map fun v => v.category).sum ≤ 20) (hf : cells ≤ R.cells ∧ slots ≤ R.slots) (hdg : decode cc pc = .ok (.invokevirtual index, 3)) :
    CallRun p l e R s m args below meth c H locs cells slots 0 0 (F0 m pc ls st) rest (Qc (Value.ref b :: As).toArray) free := by
  have hK : Back l R p e below s args y 3 20 (PreOf R 0 0 Pc) (PostOf Qc 0 0 free) := back_of (bytes := bytes) (maxL := maxL) (ret := ret) hM hbl hrm.1.1 hrm.1.2 hrm.2.1 hrm.2.2 (pm_words S hm.1) List.mem_cons_self (fun a' U hU => word_at hU (pm_ok _ hm.2.2.2.1) (S.2.2.2.2 _ hm.2.2.2.1))
  obtain ⟨cellB, hcB, hoB, hclB⟩ := hrc
  intro T hT X
  obtain ⟨v, vm₁, ⟨U', l2, c2, s2⟩, hW₁, X', ⟨g', mk, t, L, e1, e2, hq, h1, hL, h2, h3⟩, st⟩ := callV X S.1 (C := y.cls) (bytes := bytes) (maxL := maxL) (ret := ret) S.2.2.2.1 (S.2.2.2.2 _ hlink) (S.2.2.2.2 _ hm.2.1) (S.2.2.2.2 _ hm.2.2.1) (S.2.2.2.2 _ hm.1) hm.2.2.2.2.1 hK (by rw [hT]; exact hcB) hoB hclB (g := F0 m pc ls st) rfl (hsize.trans S.2.2.1.symm) (argsL := As) (rest := rest) (pm_len hm.2.2.2.2.2 hn) hst (by simpa [JFrame.monitorRoom] using hW) (by rw [S.2.1]; exact hdg)
    (fun vm₁ hW₁ => ⟨hf.1, hf.2, hpc (T.setVm vm₁) hT hW₁⟩)
  dsimp only [Pt.U, Pt.locs, Pt.cells, Pt.slots] at X' e1 e2 h1 h2 h3 st
  subst h1; subst h2; subst h3
  exact ⟨v, (T.setVm vm₁).calling g' mk (Value.ref b :: As).toArray, t, U', L, hT, X', hL, e1, hq, st⟩
/-- a static method of numbers alone -/
theorem pm_cS {r : Value} (S : CallFix p m c cc nL s args gT own) (hM : Met l y (pWs y bytes maxL ret) rm (va_Pc As (fun _ => True)) (k2_QcV r) 0 0 (fun _ => False)) (hm : pm_Sm y bytes maxL ret n) (hlink : Cond.methodLink own index y ∈ gT)
    (hrm : (rm.cells = 0 ∧ rm.slots = 0) ∧ rm.frames + 1 ≤ R.frames ∧ 20 + (maxL + 11) + rm.locals ≤ R.locals) (hn : As.length = n) (hsize : ls.size = nL) (hst : st = As.reverse ++ rest) (hW : (rest.map fun v => v.category).sum ≤ 20) (hf : cells ≤ R.cells ∧ slots ≤ R.slots) (hdg : decode cc pc = .ok (.invokestatic index, 3))
    (kk : W p l e R s m args below meth c H locs cells slots Q (F0 m (pc + 3) ls (r :: rest))) : W p l e R s m args below meth c H locs cells slots Q (F0 m pc ls st) :=
  W.callV (pm_runS S hM hm hlink (pm_blindT As) (fun _ _ _ => ⟨rfl, trivial⟩) hrm hn hsize hst hW hf hdg) kk
/-- a static method that reads the world -/
theorem pm_cSr {r : Value} {D : va_G} {tys : List (ClassId × FieldType)} {L : List Nat} {f : Nat → va_E} (S : CallFix p m c cc nL s args gT own) (hK : va_K D vwCl tys s) (hP : va_P D vwCl (va_pl L f) H) (hM : Met l y (pWs y bytes maxL ret) rm (va_Pc As (pPc D tys L f)) (k2_QcV r) 0 0 (fun _ => False)) (hm : pm_Sm y bytes maxL ret n) (hlink : Cond.methodLink own index y ∈ gT)
    (hrm : (rm.cells = 0 ∧ rm.slots = 0) ∧ rm.frames + 1 ≤ R.frames ∧ 20 + (maxL + 11) + rm.locals ≤ R.locals) (hn : As.length = n) (hsize : ls.size = nL) (hst : st = As.reverse ++ rest) (hW : (rest.map fun v => v.category).sum ≤ 20) (hf : cells ≤ R.cells ∧ slots ≤ R.slots) (hdg : decode cc pc = .ok (.invokestatic index, 3))
    (kk : W p l e R s m args below meth c H locs cells slots Q (F0 m (pc + 3) ls (r :: rest))) : W p l e R s m args below meth c H locs cells slots Q (F0 m pc ls st) :=
  W.callV (pm_runS S hM hm hlink (pm_blind As D tys L f) (fun U hU hW => ⟨rfl, by rw [hU]; exact hP, va_K.moved hW.alike hK⟩) hrm hn hsize hst hW hf hdg) kk
/-- a method of an object that reads the world -/
theorem pm_cVr {r : Value} {D : va_G} {tys : List (ClassId × FieldType)} {L : List Nat} {f : Nat → va_E} (S : CallFix p m c cc nL s args gT own) (hK : va_K D vwCl tys s) (hP : va_P D vwCl (va_pl L f) H) (hM : Met l y (pWs y bytes maxL ret) rm (va_Pc (.ref b :: As) (pPc D tys L f)) (k2_QcV r) 0 0 (fun _ => False)) (hm : pm_Vm y bytes maxL ret n) (hlink : Cond.methodLink own index y ∈ gT) {ci : Nat} {q : vw_C} {fs : List Value} (hB : pH L f b (.inr (ci, fs))) (hc : vwCl[ci]? = some q) (hy : q.1 = y.cls)
    (hrm : (rm.cells = 0 ∧ rm.slots = 0) ∧ rm.frames + 1 ≤ R.frames ∧ 20 + (maxL + 11) + rm.locals ≤ R.locals) (hn : As.length = n) (hsize : ls.size = nL) (hst : st = As.reverse ++ .ref b :: rest) (hW : (rest.map fun v => v.category).sum ≤ 20) (hf : cells ≤ R.cells ∧ slots ≤ R.slots) (hdg : decode cc pc = .ok (.invokevirtual index, 3))
    (kk : W p l e R s m args below meth c H locs cells slots Q (F0 m (pc + 3) ls (r :: rest))) : W p l e R s m args below meth c H locs cells slots Q (F0 m pc ls st) :=
  W.callV (pm_runV S hM hm hlink (pm_blind (.ref b :: As) D tys L f) (fun U hU hW => ⟨rfl, by rw [hU]; exact hP, va_K.moved hW.alike hK⟩) (by rw [← hy]; exact pm_cell hK hP hB hc) hrm hn hsize hst hW hf hdg) kk
/-- what comes back from a call that writes -/
theorem pm_backS {Qa : State → Outcome → State → Prop} {A : Nat → Prop} (hr : CallRun p l e R s m args below meth c H locs cells slots 0 0 (F0 m pc ls st) rest Qa A) (hS : va_S A s.heap H locs)
    (kk : ∀ (v : Option Value) (st₀ t : State) (H1 : Heap) (locs1 : List Loc), st₀.heap = H → t.heap = H1 → Qa st₀ (.returned v) t → (va_F A st₀ t → va_S A s.heap H1 locs1) → W p l e R s m args below meth c H1 locs1 cells slots Q (F0 m (pc + 3) ls (v.toList ++ rest))) : W p l e R s m args below meth c H locs cells slots Q (F0 m pc ls st) := by
  intro T hT X
  obtain ⟨v, st₀, t, T', L, h0, X', hL, e1, hq, stp⟩ := hr T hT X
  obtain ⟨t2, a1, b1⟩ := kk v st₀ t T'.heap (locs ++ L) h0 e1.symm hq (fun hF => ⟨Nat.le_trans hS.1 (by rw [e1, ← h0]; exact hF.1), fun q h1 h2 => by rw [e1, hF.2 q (by rw [h0]; exact Nat.lt_of_lt_of_le h1 hS.1) h2, h0]; exact hS.2.1 q h1 h2, fun q hq => by
    rcases List.mem_append.mp hq with h | h
    · exact hS.2.2 q h
    · exact hL q h⟩) T' rfl X'
  exact ⟨t2, stp t2 a1, b1⟩
theorem pm_cVv {D : va_G} {tys : List (ClassId × FieldType)} {L : List Nat} {f : Nat → va_E} {post : (Nat → va_E) → Prop} (S : CallFix p m c cc nL s args gT own) (hK : va_K D vwCl tys s) (hP : va_P D vwCl (va_pl L f) H) (hS : va_S (fun q => q ∈ L) s.heap H locs) (hM : Met l y (pWs y bytes maxL ret) rm (va_Pc (.ref b :: As) (pPc D tys L f)) (pQv D L post) 0 0 (fun q => q ∈ L)) (hm : pm_Vm y bytes maxL ret n) (hlink : Cond.methodLink own index y ∈ gT) {ci : Nat} {q : vw_C} {fs : List Value} (hB : pH L f b (.inr (ci, fs))) (hc : vwCl[ci]? = some q) (hy : q.1 = y.cls)
    (hrm : (rm.cells = 0 ∧ rm.slots = 0) ∧ rm.frames + 1 ≤ R.frames ∧ 20 + (maxL + 11) + rm.locals ≤ R.locals) (hn : As.length = n) (hsize : ls.size = nL) (hst : st = As.reverse ++ .ref b :: rest) (hW : (rest.map fun v => v.category).sum ≤ 20) (hf : cells ≤ R.cells ∧ slots ≤ R.slots) (hdg : decode cc pc = .ok (.invokevirtual index, 3))
    (kk : ∀ (f' : Nat → va_E) (H1 : Heap) (locs1 : List Loc), post f' → va_P D vwCl (va_pl L f') H1 → va_S (fun q => q ∈ L) s.heap H1 locs1 → W p l e R s m args below meth c H1 locs1 cells slots Q (F0 m (pc + 3) ls rest)) : W p l e R s m args below meth c H locs cells slots Q (F0 m pc ls st) := by
  refine pm_backS (pm_runV S hM hm hlink (pm_blind (.ref b :: As) D tys L f) (fun U hU hW => ⟨rfl, by rw [hU]; exact hP, va_K.moved hW.alike hK⟩) (by rw [← hy]; exact pm_cell hK hP hB hc) hrm hn hsize hst hW hf hdg) hS (fun v st₀ t H1 locs1 h0 h1 hq h2 => ?_)
  obtain ⟨f', ho, hp, hP', hF⟩ := hq
  cases ho
  exact kk f' H1 locs1 hp (by rw [← h1]; exact hP') (h2 hF)
theorem pm_cVi {D : va_G} {tys : List (ClassId × FieldType)} {L : List Nat} {f : Nat → va_E} {post : Int32 → (Nat → va_E) → Prop} (S : CallFix p m c cc nL s args gT own) (hK : va_K D vwCl tys s) (hP : va_P D vwCl (va_pl L f) H) (hS : va_S (fun q => q ∈ L) s.heap H locs) (hM : Met l y (pWs y bytes maxL ret) rm (va_Pc (.ref b :: As) (pPc D tys L f)) (pQi D L post) 0 0 (fun q => q ∈ L)) (hm : pm_Vm y bytes maxL ret n) (hlink : Cond.methodLink own index y ∈ gT) {ci : Nat} {q : vw_C} {fs : List Value} (hB : pH L f b (.inr (ci, fs))) (hc : vwCl[ci]? = some q) (hy : q.1 = y.cls)
    (hrm : (rm.cells = 0 ∧ rm.slots = 0) ∧ rm.frames + 1 ≤ R.frames ∧ 20 + (maxL + 11) + rm.locals ≤ R.locals) (hn : As.length = n) (hsize : ls.size = nL) (hst : st = As.reverse ++ .ref b :: rest) (hW : (rest.map fun v => v.category).sum ≤ 20) (hf : cells ≤ R.cells ∧ slots ≤ R.slots) (hdg : decode cc pc = .ok (.invokevirtual index, 3))
    (kk : ∀ (r : Int32) (f' : Nat → va_E) (H1 : Heap) (locs1 : List Loc), post r f' → va_P D vwCl (va_pl L f') H1 → va_S (fun q => q ∈ L) s.heap H1 locs1 → W p l e R s m args below meth c H1 locs1 cells slots Q (F0 m (pc + 3) ls (.int r :: rest))) : W p l e R s m args below meth c H locs cells slots Q (F0 m pc ls st) := by
  refine pm_backS (pm_runV S hM hm hlink (pm_blind (.ref b :: As) D tys L f) (fun U hU hW => ⟨rfl, by rw [hU]; exact hP, va_K.moved hW.alike hK⟩) (by rw [← hy]; exact pm_cell hK hP hB hc) hrm hn hsize hst hW hf hdg) hS (fun v st₀ t H1 locs1 h0 h1 hq h2 => ?_)
  obtain ⟨r, f', ho, hp, hP', hF⟩ := hq
  cases ho
  exact kk r f' H1 locs1 hp (by rw [← h1]; exact hP') (h2 hF)
theorem pm_cVl {D : va_G} {tys : List (ClassId × FieldType)} {L : List Nat} {f : Nat → va_E} {post : Int64 → (Nat → va_E) → Prop} (S : CallFix p m c cc nL s args gT own) (hK : va_K D vwCl tys s) (hP : va_P D vwCl (va_pl L f) H) (hS : va_S (fun q => q ∈ L) s.heap H locs) (hM : Met l y (pWs y bytes maxL ret) rm (va_Pc (.ref b :: As) (pPc D tys L f)) (pQl D L post) 0 0 (fun q => q ∈ L)) (hm : pm_Vm y bytes maxL ret n) (hlink : Cond.methodLink own index y ∈ gT) {ci : Nat} {q : vw_C} {fs : List Value} (hB : pH L f b (.inr (ci, fs))) (hc : vwCl[ci]? = some q) (hy : q.1 = y.cls)
    (hrm : (rm.cells = 0 ∧ rm.slots = 0) ∧ rm.frames + 1 ≤ R.frames ∧ 20 + (maxL + 11) + rm.locals ≤ R.locals) (hn : As.length = n) (hsize : ls.size = nL) (hst : st = As.reverse ++ .ref b :: rest) (hW : (rest.map fun v => v.category).sum ≤ 20) (hf : cells ≤ R.cells ∧ slots ≤ R.slots) (hdg : decode cc pc = .ok (.invokevirtual index, 3))
    (kk : ∀ (r : Int64) (f' : Nat → va_E) (H1 : Heap) (locs1 : List Loc), post r f' → va_P D vwCl (va_pl L f') H1 → va_S (fun q => q ∈ L) s.heap H1 locs1 → W p l e R s m args below meth c H1 locs1 cells slots Q (F0 m (pc + 3) ls (.long r :: rest))) : W p l e R s m args below meth c H locs cells slots Q (F0 m pc ls st) := by
  refine pm_backS (pm_runV S hM hm hlink (pm_blind (.ref b :: As) D tys L f) (fun U hU hW => ⟨rfl, by rw [hU]; exact hP, va_K.moved hW.alike hK⟩) (by rw [← hy]; exact pm_cell hK hP hB hc) hrm hn hsize hst hW hf hdg) hS (fun v st₀ t H1 locs1 h0 h1 hq h2 => ?_)
  obtain ⟨r, f', ho, hp, hP', hF⟩ := hq
  cases ho
  exact kk r f' H1 locs1 hp (by rw [← h1]; exact hP') (h2 hF)
theorem pm_cSl {D : va_G} {tys : List (ClassId × FieldType)} {L : List Nat} {f : Nat → va_E} {post : Int64 → (Nat → va_E) → Prop} (S : CallFix p m c cc nL s args gT own) (hK : va_K D vwCl tys s) (hP : va_P D vwCl (va_pl L f) H) (hS : va_S (fun q => q ∈ L) s.heap H locs) (hM : Met l y (pWs y bytes maxL ret) rm (va_Pc As (pPc D tys L f)) (pQl D L post) 0 0 (fun q => q ∈ L)) (hm : pm_Sm y bytes maxL ret n) (hlink : Cond.methodLink own index y ∈ gT)
    (hrm : (rm.cells = 0 ∧ rm.slots = 0) ∧ rm.frames + 1 ≤ R.frames ∧ 20 + (maxL + 11) + rm.locals ≤ R.locals) (hn : As.length = n) (hsize : ls.size = nL) (hst : st = As.reverse ++ rest) (hW : (rest.map fun v => v.category).sum ≤ 20) (hf : cells ≤ R.cells ∧ slots ≤ R.slots) (hdg : decode cc pc = .ok (.invokestatic index, 3))
    (kk : ∀ (r : Int64) (f' : Nat → va_E) (H1 : Heap) (locs1 : List Loc), post r f' → va_P D vwCl (va_pl L f') H1 → va_S (fun q => q ∈ L) s.heap H1 locs1 → W p l e R s m args below meth c H1 locs1 cells slots Q (F0 m (pc + 3) ls (.long r :: rest))) : W p l e R s m args below meth c H locs cells slots Q (F0 m pc ls st) := by
  refine pm_backS (pm_runS S hM hm hlink (pm_blind As D tys L f) (fun U hU hW => ⟨rfl, by rw [hU]; exact hP, va_K.moved hW.alike hK⟩) hrm hn hsize hst hW hf hdg) hS (fun v st₀ t H1 locs1 h0 h1 hq h2 => ?_)
  obtain ⟨r, f', ho, hp, hP', hF⟩ := hq
  cases ho
  exact kk r f' H1 locs1 hp (by rw [← h1]; exact hP') (h2 hF)
theorem pm_cSv {D : va_G} {tys : List (ClassId × FieldType)} {L : List Nat} {f : Nat → va_E} {post : (Nat → va_E) → Prop} (S : CallFix p m c cc nL s args gT own) (hK : va_K D vwCl tys s) (hP : va_P D vwCl (va_pl L f) H) (hS : va_S (fun q => q ∈ L) s.heap H locs) (hM : Met l y (pWs y bytes maxL ret) rm (va_Pc As (pPc D tys L f)) (pQv D L post) 0 0 (fun q => q ∈ L)) (hm : pm_Sm y bytes maxL ret n) (hlink : Cond.methodLink own index y ∈ gT)
    (hrm : (rm.cells = 0 ∧ rm.slots = 0) ∧ rm.frames + 1 ≤ R.frames ∧ 20 + (maxL + 11) + rm.locals ≤ R.locals) (hn : As.length = n) (hsize : ls.size = nL) (hst : st = As.reverse ++ rest) (hW : (rest.map fun v => v.category).sum ≤ 20) (hf : cells ≤ R.cells ∧ slots ≤ R.slots) (hdg : decode cc pc = .ok (.invokestatic index, 3))
    (kk : ∀ (f' : Nat → va_E) (H1 : Heap) (locs1 : List Loc), post f' → va_P D vwCl (va_pl L f') H1 → va_S (fun q => q ∈ L) s.heap H1 locs1 → W p l e R s m args below meth c H1 locs1 cells slots Q (F0 m (pc + 3) ls rest)) : W p l e R s m args below meth c H locs cells slots Q (F0 m pc ls st) := by
  refine pm_backS (pm_runS S hM hm hlink (pm_blind As D tys L f) (fun U hU hW => ⟨rfl, by rw [hU]; exact hP, va_K.moved hW.alike hK⟩) hrm hn hsize hst hW hf hdg) hS (fun v st₀ t H1 locs1 h0 h1 hq h2 => ?_)
  obtain ⟨f', ho, hp, hP', hF⟩ := hq
  cases ho
  exact kk f' H1 locs1 hp (by rw [← h1]; exact hP') (h2 hF)
/-- ends -/
theorem pm_lretR {v r : Int64} (S : CallFix p m c cc nL s args gT own) (hr : meth.sig.returnType = some .long) (hlk : meth.locks = false) (hv : v = r) (hdg : decode cc pc = .ok (.lreturn, 1)) : W p l e R s m args below meth c s.heap [] cells slots (MQ below (k2_QcV (.long r)) args s cells slots (fun _ => False)) (F0 m pc ls [.long v]) :=
  W.lret S.1 S.2.1 hr (fun _ ht _ => ⟨by rw [hv], ht⟩) (fun _ h => absurd h List.not_mem_nil) hdg hlk
theorem pm_iretR {v r : Int32} (S : CallFix p m c cc nL s args gT own) (hr : meth.sig.returnType = some .int) (hlk : meth.locks = false) (hv : v = r) (hdg : decode cc pc = .ok (.ireturn, 1)) : W p l e R s m args below meth c s.heap [] cells slots (MQ below (k2_QcV (.int r)) args s cells slots (fun _ => False)) (F0 m pc ls [.int v]) :=
  W.iret S.1 S.2.1 hr (fun _ ht _ => ⟨by rw [hv], ht⟩) (fun _ h => absurd h List.not_mem_nil) hdg hlk
theorem pm_zretR {v r : Int32} (S : CallFix p m c cc nL s args gT own) (hr : meth.sig.returnType = some .boolean) (hlk : meth.locks = false) (hz : v = 0 ∨ v = 1) (hv : v = r) (hdg : decode cc pc = .ok (.ireturn, 1)) : W p l e R s m args below meth c s.heap [] cells slots (MQ below (k2_QcV (.int r)) args s cells slots (fun _ => False)) (F0 m pc ls [.int v]) :=
  W.zret S.1 S.2.1 hr (by rcases hz with h | h <;> rw [h] <;> decide) (fun _ ht _ => ⟨by rw [hv], ht⟩) (fun _ h => absurd h List.not_mem_nil) hdg hlk
theorem pm_vretW {D : va_G} {L : List Nat} {f : Nat → va_E} {post : (Nat → va_E) → Prop} (S : CallFix p m c cc nL s args gT own) (hr : meth.sig.returnType = none) (hlk : meth.locks = false) (hP : va_P D vwCl (va_pl L f) H) (hS : va_S (fun q => q ∈ L) s.heap H locs) (hp : post f) (hdg : decode cc pc = .ok (.return_, 1)) : W p l e R s m args below meth c H locs cells slots (MQ below (pQv D L post) args s cells slots (fun q => q ∈ L)) (F0 m pc ls []) :=
  W.vret S.1 S.2.1 hr (fun _ ht _ => ⟨f, rfl, hp, by rw [ht]; exact hP, hS.F ht⟩) hS.2.2 hdg hlk
theorem pm_lretW {D : va_G} {L : List Nat} {f : Nat → va_E} {v : Int64} {post : Int64 → (Nat → va_E) → Prop} (S : CallFix p m c cc nL s args gT own) (hr : meth.sig.returnType = some .long) (hlk : meth.locks = false) (hP : va_P D vwCl (va_pl L f) H) (hS : va_S (fun q => q ∈ L) s.heap H locs) (hp : post v f) (hdg : decode cc pc = .ok (.lreturn, 1)) : W p l e R s m args below meth c H locs cells slots (MQ below (pQl D L post) args s cells slots (fun q => q ∈ L)) (F0 m pc ls [.long v]) :=
  W.lret S.1 S.2.1 hr (fun _ ht _ => ⟨v, f, rfl, hp, by rw [ht]; exact hP, hS.F ht⟩) hS.2.2 hdg hlk
theorem pm_iretW {D : va_G} {L : List Nat} {f : Nat → va_E} {v : Int32} {post : Int32 → (Nat → va_E) → Prop} (S : CallFix p m c cc nL s args gT own) (hr : meth.sig.returnType = some .int) (hlk : meth.locks = false) (hP : va_P D vwCl (va_pl L f) H) (hS : va_S (fun q => q ∈ L) s.heap H locs) (hp : post v f) (hdg : decode cc pc = .ok (.ireturn, 1)) : W p l e R s m args below meth c H locs cells slots (MQ below (pQi D L post) args s cells slots (fun q => q ∈ L)) (F0 m pc ls [.int v]) :=
  W.iret S.1 S.2.1 hr (fun _ ht _ => ⟨v, f, rfl, hp, by rw [ht]; exact hP, hS.F ht⟩) hS.2.2 hdg hlk
theorem pm_zretW {D : va_G} {L : List Nat} {f : Nat → va_E} {v : Int32} {post : Int32 → (Nat → va_E) → Prop} (S : CallFix p m c cc nL s args gT own) (hr : meth.sig.returnType = some .boolean) (hlk : meth.locks = false) (hz : v = 0 ∨ v = 1) (hP : va_P D vwCl (va_pl L f) H) (hS : va_S (fun q => q ∈ L) s.heap H locs) (hp : post v f) (hdg : decode cc pc = .ok (.ireturn, 1)) : W p l e R s m args below meth c H locs cells slots (MQ below (pQi D L post) args s cells slots (fun q => q ∈ L)) (F0 m pc ls [.int v]) :=
  W.zret S.1 S.2.1 hr (by rcases hz with h | h <;> rw [h] <;> decide) (fun _ ht _ => ⟨v, f, rfl, hp, by rw [ht]; exact hP, hS.F ht⟩) hS.2.2 hdg hlk
end PMC
theorem inB_lt {i : Int32} {n : Nat} (h : ¬ (i < 0 ∨ n ≤ i.toNatClampNeg)) : i.toNatClampNeg < n := Nat.not_le.mp (fun q => h (Or.inr q))
