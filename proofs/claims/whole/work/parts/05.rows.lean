/-! the memory of the worlds: addresses L, what lies at each by f; a contract's world is va_pl L f -/
theorem pm_D {L : List Nat} (hn : L.Nodup) (f : Nat → va_E) : va_D (fun q => q ∈ L) (va_pl L f) := by
  refine ⟨fun i j x y hi hj h => ?_, fun k q hk => ?_⟩
  · simp only [va_pl, List.getElem?_map, Option.map_eq_some_iff] at hi hj
    obtain ⟨a, ha, rfl⟩ := hi
    obtain ⟨b, hb, rfl⟩ := hj
    dsimp only at h
    subst h
    exact (List.getElem?_inj (List.getElem?_eq_some_iff.mp ha).1 hn).mp (ha.trans hb.symm)
  · simp only [va_pl, List.getElem?_map, Option.map_eq_some_iff] at hk
    obtain ⟨a, ha, rfl⟩ := hk
    exact List.mem_of_getElem? ha
/-- at a of L lies x -/
def pH (L : List Nat) (f : Nat → va_E) (a : Nat) (x : va_E) : Prop := a ∈ L ∧ f a = x
theorem pH.up {L : List Nat} {f : Nat → va_E} {a : Nat} {x y : va_E} (h : pH L f a x) : pH L (va_up f a y) a y := ⟨h.1, va_up_self f a y⟩
theorem pH.ne {L : List Nat} {f : Nat → va_E} {a b : Nat} {x y : va_E} (h : pH L f a x) (n : a ≠ b) : pH L (va_up f b y) a x := ⟨h.1, (va_up_ne f y n).trans h.2⟩
theorem pm_at {L : List Nat} {f : Nat → va_E} {a : Nat} {x : va_E} (h : pH L f a x) : ∃ k : Nat, (va_pl L f)[k]? = some (a, f a) ∧ (va_pl L f)[k]? = some (a, x) := by
  obtain ⟨k, hk⟩ := va_pl_get (X := []) (f := f) h.1
  exact ⟨k, hk, hk.trans (by rw [h.2])⟩
theorem pm_set {L : List Nat} {f : Nat → va_E} {a k : Nat} {x : va_E} (hn : L.Nodup) (h : a ∈ L) (hk : (va_pl L f)[k]? = some (a, f a)) : (va_pl L f).set k (a, x) = va_pl L (va_up f a x) :=
  va_pl_set (X := []) (pm_D hn f) h hk


theorem pm_cell {D : va_G} {L : List Nat} {f : Nat → va_E} {H : Heap} {tys : List (ClassId × FieldType)} {s : State} {a ci : Nat} {q : vw_C} {fs : List Value} (hK : va_K D vwCl tys s) (hP : va_P D vwCl (va_pl L f) H) (hM : pH L f a (.inr (ci, fs))) (hc : vwCl[ci]? = some q) : ∃ cell : Cell, H[a]? = some cell ∧ cell.vm.isStatics = false ∧ s.vm.findClass q.1 = some cell.cls := by
  obtain ⟨k, hk, hk2⟩ := pm_at hM
  exact va_recv hK hP hc hk2
section PMR
variable {p : Program} {l : Launch} {e : Env} {R : Room} {s : State} {m : MethodId} {args : Array Value} {below : List Frame} {meth : Method} {c : Code} {H : Heap} {locs : List Loc} {cells slots : Nat} {Q : State → Prop} {cc : ByteArray} {pc nL : Nat} {ls : Array Slot} {rest : List Value} {own : String}
/-- a long constant -/
theorem pm_ldc2 (S : CallFix p m c cc nL s args gT own) {index : Nat} {v : Int64} (hw : Cond.constantLong own index v ∈ gT) (hdg : decode cc pc = .ok (.ldc2_w index, 3)) (kk : W p l e R s m args below meth c H locs cells slots Q (F0 m (pc + 3) ls (.long v :: rest))) : W p l e R s m args below meth c H locs cells slots Q (F0 m pc ls rest) :=
  W.ldc2 S.1 S.2.1 S.2.2.2.1 (S.2.2.2.2 _ hw) rfl hdg kk
/-- an int constant -/
theorem pm_ldc (S : CallFix p m c cc nL s args gT own) {index : Nat} {v : Int32} (hw : Cond.constant own index v ∈ gT) (hdg : decode cc pc = .ok (.ldc index, 2)) (kk : W p l e R s m args below meth c H locs cells slots Q (F0 m (pc + 2) ls (.int v :: rest))) : W p l e R s m args below meth c H locs cells slots Q (F0 m pc ls rest) :=
  W.ldc S.1 S.2.1 S.2.2.2.1 (S.2.2.2.2 _ hw) rfl hdg kk
/-- lcmp and the branch behind it -/
theorem pm_lge (S : CallFix p m c cc nL s args gT own) {x y : Int64} {off : Int} {tgt : Nat} (hdg : decode cc pc = .ok (.lcmp, 1)) (hd2 : decode cc (pc + 1) = .ok (.ifCond .ge off, 3)) (ht : ((pc + 1 : Nat) : Int) + off = (tgt : Int)) (k1 : y ≤ x → W p l e R s m args below meth c H locs cells slots Q (F0 m tgt ls rest)) (k2 : ¬ y ≤ x → W p l e R s m args below meth c H locs cells slots Q (F0 m (pc + 1 + 3) ls rest)) : W p l e R s m args below meth c H locs cells slots Q (F0 m pc ls (.long y :: .long x :: rest)) :=
  W.lcmp S.1 S.2.1 hdg (lv_if_ge S.1 S.2.1 hd2 ht (fun h => k1 ((lg_cmp_ge x y).mp h)) (fun h => k2 (fun q => h ((lg_cmp_ge x y).mpr q))))
theorem pm_lle (S : CallFix p m c cc nL s args gT own) {x y : Int64} {off : Int} {tgt : Nat} (hdg : decode cc pc = .ok (.lcmp, 1)) (hd2 : decode cc (pc + 1) = .ok (.ifCond .le off, 3)) (ht : ((pc + 1 : Nat) : Int) + off = (tgt : Int)) (k1 : x ≤ y → W p l e R s m args below meth c H locs cells slots Q (F0 m tgt ls rest)) (k2 : ¬ x ≤ y → W p l e R s m args below meth c H locs cells slots Q (F0 m (pc + 1 + 3) ls rest)) : W p l e R s m args below meth c H locs cells slots Q (F0 m pc ls (.long y :: .long x :: rest)) :=
  W.lcmp S.1 S.2.1 hdg (lv_if_le S.1 S.2.1 hd2 ht (fun h => k1 ((lg_cmp_le x y).mp h)) (fun h => k2 (fun q => h ((lg_cmp_le x y).mpr q))))
theorem pm_lgt (S : CallFix p m c cc nL s args gT own) {x y : Int64} {off : Int} {tgt : Nat} (hdg : decode cc pc = .ok (.lcmp, 1)) (hd2 : decode cc (pc + 1) = .ok (.ifCond .gt off, 3)) (ht : ((pc + 1 : Nat) : Int) + off = (tgt : Int)) (k1 : y < x → W p l e R s m args below meth c H locs cells slots Q (F0 m tgt ls rest)) (k2 : ¬ y < x → W p l e R s m args below meth c H locs cells slots Q (F0 m (pc + 1 + 3) ls rest)) : W p l e R s m args below meth c H locs cells slots Q (F0 m pc ls (.long y :: .long x :: rest)) :=
  W.lcmp S.1 S.2.1 hdg (lv_if_gt S.1 S.2.1 hd2 ht (fun h => k1 ((lg_cmp_gt x y).mp h)) (fun h => k2 (fun q => h ((lg_cmp_gt x y).mpr q))))
theorem pm_llt (S : CallFix p m c cc nL s args gT own) {x y : Int64} {off : Int} {tgt : Nat} (hdg : decode cc pc = .ok (.lcmp, 1)) (hd2 : decode cc (pc + 1) = .ok (.ifCond .lt off, 3)) (ht : ((pc + 1 : Nat) : Int) + off = (tgt : Int)) (k1 : x < y → W p l e R s m args below meth c H locs cells slots Q (F0 m tgt ls rest)) (k2 : ¬ x < y → W p l e R s m args below meth c H locs cells slots Q (F0 m (pc + 1 + 3) ls rest)) : W p l e R s m args below meth c H locs cells slots Q (F0 m pc ls (.long y :: .long x :: rest)) :=
  W.lcmp S.1 S.2.1 hdg (lv_if_lt S.1 S.2.1 hd2 ht (fun h => k1 ((lg_cmp_lt x y).mp h)) (fun h => k2 (fun q => h ((lg_cmp_lt x y).mpr q))))
theorem pm_leq (S : CallFix p m c cc nL s args gT own) {x y : Int64} {off : Int} {tgt : Nat} (hdg : decode cc pc = .ok (.lcmp, 1)) (hd2 : decode cc (pc + 1) = .ok (.ifCond .eq off, 3)) (ht : ((pc + 1 : Nat) : Int) + off = (tgt : Int)) (k1 : x = y → W p l e R s m args below meth c H locs cells slots Q (F0 m tgt ls rest)) (k2 : ¬ x = y → W p l e R s m args below meth c H locs cells slots Q (F0 m (pc + 1 + 3) ls rest)) : W p l e R s m args below meth c H locs cells slots Q (F0 m pc ls (.long y :: .long x :: rest)) :=
  W.lcmp S.1 S.2.1 hdg (lv_if_eq S.1 S.2.1 hd2 ht (fun h => k1 ((lg_cmp_eq x y).mp h)) (fun h => k2 (fun q => h ((lg_cmp_eq x y).mpr q))))
theorem pm_lne (S : CallFix p m c cc nL s args gT own) {x y : Int64} {off : Int} {tgt : Nat} (hdg : decode cc pc = .ok (.lcmp, 1)) (hd2 : decode cc (pc + 1) = .ok (.ifCond .ne off, 3)) (ht : ((pc + 1 : Nat) : Int) + off = (tgt : Int)) (k1 : x ≠ y → W p l e R s m args below meth c H locs cells slots Q (F0 m tgt ls rest)) (k2 : x = y → W p l e R s m args below meth c H locs cells slots Q (F0 m (pc + 1 + 3) ls rest)) : W p l e R s m args below meth c H locs cells slots Q (F0 m pc ls (.long y :: .long x :: rest)) :=
  W.lcmp S.1 S.2.1 hdg (lv_if_ne S.1 S.2.1 hd2 ht (fun h => k1 (fun q => h ((lg_cmp_eq x y).mpr q))) (fun h => k2 ((lg_cmp_eq x y).mp h)))
/-- a field is read -/
theorem pm_get (S : CallFix p m c cc nL s args gT own) {D : va_G} {tys : List (ClassId × FieldType)} {L : List Nat} {f : Nat → va_E} (hK : va_K D vwCl tys s) (hP : va_P D vwCl (va_pl L f) H) {a ci N index k : Nat} {C ref : String} {T : u_T} {fs : List Value} (hM : pH L f a (.inr (ci, fs))) (hin : ∀ w ∈ u_ws C T N, w ∈ gT) (hc : vwCl[ci]? = some (C, T, N)) (hk : k < N) (hlink : Cond.fieldLink own index ref (T k).2.1 (T k).2.2.1 ∈ gT) (href : (T k).1 = ref) {v : Value} (hv : fs[k]? = some v) (hdg : decode cc pc = .ok (.getfield index, 3))
    (kk : W p l e R s m args below meth c H locs cells slots Q (F0 m (pc + 3) ls (v :: rest))) : W p l e R s m args below meth c H locs cells slots Q (F0 m pc ls (.ref a :: rest)) := by
  obtain ⟨q, hq, hq2⟩ := pm_at hM
  exact va_get S.1 S.2.1 S.2.2.2.2 hin S.2.2.2.1 hK hP q hq2 hc k hk (S.2.2.2.2 _ hlink) (fun x h => href ▸ h) hv hdg kk
/-- a field is written -/
theorem pm_put (S : CallFix p m c cc nL s args gT own) {D : va_G} {tys : List (ClassId × FieldType)} {L : List Nat} {f : Nat → va_E} (hn : L.Nodup) (hK : va_K D vwCl tys s) (hP : va_P D vwCl (va_pl L f) H) (hS : va_S (fun q => q ∈ L) s.heap H locs) {a ci N index k : Nat} {C ref : String} {T : u_T} {fs fs' : List Value} (hM : pH L f a (.inr (ci, fs))) (hin : ∀ w ∈ u_ws C T N, w ∈ gT) (ty0 : Nat → FieldType) (hty : ∀ k, k < N → parseFieldDescriptor (T k).2.2.1 = some (ty0 k)) (hnm : ∀ a, a < N → ∀ b, b < N → a ≠ b → (T a).2.1 ≠ (T b).2.1) (hc : vwCl[ci]? = some (C, T, N)) (hk : k < N) (hlink : Cond.fieldLink own index ref (T k).2.1 (T k).2.2.1 ∈ gT) (href : (T k).1 = ref) (hfin : (T k).2.2.2 = false) {v : Value} (hnw : narrow (ty0 k) v = v) (hfit : fits (ty0 k) v = true) (hl : k < fs.length) (hfs : fs.set k v = fs') (hdg : decode cc pc = .ok (.putfield index, 3))
    (kk : ∀ (H1 : Heap) (locs1 : List Loc), va_P D vwCl (va_pl L (va_up f a (.inr (ci, fs')))) H1 → va_S (fun q => q ∈ L) s.heap H1 locs1 → W p l e R s m args below meth c H1 locs1 cells slots Q (F0 m (pc + 3) ls rest)) : W p l e R s m args below meth c H locs cells slots Q (F0 m pc ls (v :: .ref a :: rest)) := by
  obtain ⟨q, hq, hq2⟩ := pm_at hM
  refine va_put S.1 S.2.1 S.2.2.2.2 hin ty0 hty hnm S.2.2.2.1 hK hP (pm_D hn f) hS q hq2 hc k hk (S.2.2.2.2 _ hlink) (fun x h => href ▸ h) hfin (hty k hk) hnw hfit hl hdg (fun H1 locs1 h1 _ h3 => kk H1 locs1 ?_ h3)
  rw [pm_set hn hM.1 hq, hfs] at h1
  exact h1
/-- arrays -/
theorem pm_iald (S : CallFix p m c cc nL s args gT own) {D : va_G} {tys : List (ClassId × FieldType)} {L : List Nat} {f : Nat → va_E} (hK : va_K D vwCl tys s) (hP : va_P D vwCl (va_pl L f) H) {a n : Nat} {cA : ClassId} {g : Nat → Int32} (hM : pH L f a (.inl (cA, n, .inl g))) {t0 : Nat} (ht : tys[t0]? = some (cA, .int)) {i : Int32} (hin : vp_in i n) (hdg : decode cc pc = .ok (.iaload, 1))
    (kk : W p l e R s m args below meth c H locs cells slots Q (F0 m (pc + 1) ls (.int (g i.toNatClampNeg) :: rest))) : W p l e R s m args below meth c H locs cells slots Q (F0 m pc ls (.int i :: .ref a :: rest)) := by
  obtain ⟨q, hq, hq2⟩ := pm_at hM
  exact va_iald S.1 S.2.1 hK hP q t0 hq2 ht hin hdg kk
theorem pm_lald (S : CallFix p m c cc nL s args gT own) {D : va_G} {tys : List (ClassId × FieldType)} {L : List Nat} {f : Nat → va_E} (hK : va_K D vwCl tys s) (hP : va_P D vwCl (va_pl L f) H) {a n : Nat} {cA : ClassId} {g : Nat → Int64} (hM : pH L f a (.inl (cA, n, .inr (.inl g)))) {t0 : Nat} (ht : tys[t0]? = some (cA, .long)) {i : Int32} (hin : vp_in i n) (hdg : decode cc pc = .ok (.laload, 1))
    (kk : W p l e R s m args below meth c H locs cells slots Q (F0 m (pc + 1) ls (.long (g i.toNatClampNeg) :: rest))) : W p l e R s m args below meth c H locs cells slots Q (F0 m pc ls (.int i :: .ref a :: rest)) := by
  obtain ⟨q, hq, hq2⟩ := pm_at hM
  exact va_lald S.1 S.2.1 hK hP q t0 hq2 ht hin hdg kk
theorem pm_aald (S : CallFix p m c cc nL s args gT own) {D : va_G} {tys : List (ClassId × FieldType)} {L : List Nat} {f : Nat → va_E} (hK : va_K D vwCl tys s) (hP : va_P D vwCl (va_pl L f) H) {a n : Nat} {cA : ClassId} {C : String} {g : Nat → Option Nat} (hM : pH L f a (.inl (cA, n, .inr (.inr (.inr (.inr g)))))) {t0 : Nat} (ht : tys[t0]? = some (cA, .object C)) {i : Int32} (hin : vp_in i n) {b : Nat} (hb : g i.toNatClampNeg = some b) (hdg : decode cc pc = .ok (.aaload, 1))
    (kk : W p l e R s m args below meth c H locs cells slots Q (F0 m (pc + 1) ls (.ref b :: rest))) : W p l e R s m args below meth c H locs cells slots Q (F0 m pc ls (.int i :: .ref a :: rest)) := by
  obtain ⟨q, hq, hq2⟩ := pm_at hM
  exact va_aldq S.1 S.2.1 hK hP q t0 hq2 ht hin hdg (by rw [hb]; exact kk)
theorem pm_iast (S : CallFix p m c cc nL s args gT own) {D : va_G} {tys : List (ClassId × FieldType)} {L : List Nat} {f : Nat → va_E} (hn : L.Nodup) (hK : va_K D vwCl tys s) (hP : va_P D vwCl (va_pl L f) H) (hS : va_S (fun q => q ∈ L) s.heap H locs) {a n : Nat} {cA : ClassId} {g : Nat → Int32} (hM : pH L f a (.inl (cA, n, .inl g))) {t0 : Nat} (ht : tys[t0]? = some (cA, .int)) {i x : Int32} (hin : vp_in i n) (hdg : decode cc pc = .ok (.iastore, 1))
    (kk : ∀ (H1 : Heap) (locs1 : List Loc), va_P D vwCl (va_pl L (va_up f a (.inl (cA, n, .inl (upd g i.toNatClampNeg x))))) H1 → va_S (fun q => q ∈ L) s.heap H1 locs1 → W p l e R s m args below meth c H1 locs1 cells slots Q (F0 m (pc + 1) ls rest)) : W p l e R s m args below meth c H locs cells slots Q (F0 m pc ls (.int x :: .int i :: .ref a :: rest)) := by
  obtain ⟨q, hq, hq2⟩ := pm_at hM
  refine va_iast S.1 S.2.1 hK hP (pm_D hn f) hS q t0 hq2 ht hin hdg (fun H1 locs1 h1 _ h3 => kk H1 locs1 ?_ h3)
  rw [pm_set hn hM.1 hq] at h1
  exact h1
theorem pm_last (S : CallFix p m c cc nL s args gT own) {D : va_G} {tys : List (ClassId × FieldType)} {L : List Nat} {f : Nat → va_E} (hn : L.Nodup) (hK : va_K D vwCl tys s) (hP : va_P D vwCl (va_pl L f) H) (hS : va_S (fun q => q ∈ L) s.heap H locs) {a n : Nat} {cA : ClassId} {g : Nat → Int64} (hM : pH L f a (.inl (cA, n, .inr (.inl g)))) {t0 : Nat} (ht : tys[t0]? = some (cA, .long)) {i : Int32} {x : Int64} (hin : vp_in i n) (hdg : decode cc pc = .ok (.lastore, 1))
    (kk : ∀ (H1 : Heap) (locs1 : List Loc), va_P D vwCl (va_pl L (va_up f a (.inl (cA, n, .inr (.inl (vp_updL g i.toNatClampNeg x)))))) H1 → va_S (fun q => q ∈ L) s.heap H1 locs1 → W p l e R s m args below meth c H1 locs1 cells slots Q (F0 m (pc + 1) ls rest)) : W p l e R s m args below meth c H locs cells slots Q (F0 m pc ls (.long x :: .int i :: .ref a :: rest)) := by
  obtain ⟨q, hq, hq2⟩ := pm_at hM
  refine va_last S.1 S.2.1 hK hP (pm_D hn f) hS q t0 hq2 ht hin hdg (fun H1 locs1 h1 _ h3 => kk H1 locs1 ?_ h3)
  rw [pm_set hn hM.1 hq] at h1
  exact h1
end PMR
theorem inB_lt {i : Int32} {n : Nat} (h : ¬ (i < 0 ∨ n ≤ i.toNatClampNeg)) : i.toNatClampNeg < n := Nat.not_le.mp (fun q => h (Or.inr q))
