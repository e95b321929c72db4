/-! CurveFalls(): sixteen Held by a loop, then the rest -/
abbrev X2U : Type := Nat × Nat × Nat × Nat × Nat
def wF (cI cJ cH : ClassId) (ad : Nat → X2U) (n : Nat) : va_W := (List.range n).flatMap (fun k => wX2 cI cJ cH (ad k).1 (ad k).2)
theorem wF_succ (cI cJ cH : ClassId) (ad : Nat → X2U) (n : Nat) : wF cI cJ cH ad (n + 1) = wF cI cJ cH ad n ++ wX2 cI cJ cH (ad n).1 (ad n).2 := by
  unfold wF
  rw [List.range_succ, List.flatMap_append]
  simp
theorem wF_congr (cI cJ cH : ClassId) {ad ad' : Nat → X2U} : ∀ (n : Nat), (∀ k, k < n → ad k = ad' k) → wF cI cJ cH ad n = wF cI cJ cH ad' n
  | 0, _ => rfl
  | n + 1, h => by rw [wF_succ, wF_succ, wF_congr cI cJ cH n (fun k hk => h k (by omega)), h n (by omega)]
theorem wF_len (cI cJ cH : ClassId) (ad : Nat → X2U) : ∀ n : Nat, (wF cI cJ cH ad n).length = 5 * n
  | 0 => rfl
  | n + 1 => by rw [wF_succ, List.length_append, wF_len cI cJ cH ad n]; show 5 * n + 5 = 5 * (n + 1); omega
def adU (ad : Nat → X2U) (j : Nat) (x : X2U) : Nat → X2U := fun k => if k = j then x else ad k
theorem wF_up (cI cJ cH : ClassId) (ad : Nat → X2U) (j : Nat) (x : X2U) : wF cI cJ cH ad j ++ wX2 cI cJ cH x.1 x.2 = wF cI cJ cH (adU ad j x) (j + 1) := by
  rw [wF_succ, wF_congr cI cJ cH (ad := ad) (ad' := adU ad j x) j (fun k hk => by unfold adU; rw [if_neg (by omega)])]
  unfold adU
  rw [if_pos rfl]
theorem wF_hd {cI cJ cH : ClassId} {ad : Nat → X2U} {j : Nat} {x y : Nat × va_E} {a : Nat} {u : Nat × Nat × Nat × Nat} : ((x :: y :: wF cI cJ cH ad j) ++ wX2 cI cJ cH a u)[2 + 5 * j]? = some (a, .inr (2, [.ref u.1, .ref u.2.1, .long 1, .ref u.2.2.1, .int 0])) := by
  rw [List.getElem?_append_right (by simp [wF_len]; omega)]
  simp only [List.length_cons, wF_len]
  rw [show 2 + 5 * j - (5 * j + 1 + 1) = 0 by omega]
  rfl
abbrev X7c (q0 : Nat) (dr fl sp sr : Value) (i5 : Int32) : va_E := .inr (5, [.ref q0, .int 0, dr, fl, sp, .int i5, sr])
abbrev X7U : Type := Nat × (Nat → X2U) × Nat × Nat × Nat × Nat × Nat × Nat × Nat
def wX7 (cI cJ cH : ClassId) (h : Nat) (u : X7U) : va_W :=
  ((((((h, X7c u.1 (.ref u.2.2.1) (.ref u.2.2.2.1) (.ref u.2.2.2.2.2.1) (.ref u.2.2.2.2.2.2.2.2) (-1)) :: (u.1, .inl (cH, 16, .inr (.inr (.inr (.inr (fun i => some (u.2.1 i).1)))))) :: wF cI cJ cH u.2.1 16) ++ [(u.2.2.1, .inr (0, [.long 0, .long 0, .long 0, .long 0, .long 0, .long 0, .long 0, .long 0, .long 0, .long 0, .long 0, .long 0]))]) ++ wX1 cI cJ cH u.2.2.2.1 u.2.2.2.2.1) ++ wX6 cI cJ cH u.2.2.2.2.2.1 (u.2.2.2.2.2.2.1, u.2.2.2.2.2.2.2.1)) ++ [(u.2.2.2.2.2.2.2.2, .inl (cI, 199, .inl (fun _ => 0)))])
theorem ci_newq {p : Program} {l : Launch} {e : Env} {R : Room} {s : State} {m : MethodId} {args : Array Value} {below : List Frame} {meth : Method} {c : Code} {H H0 : Heap} {locs : List Loc} {cells slots : Nat} {Q : State → Prop} {cc : ByteArray} {pc nL index : Nat} {ls : Array Slot} {rest : List Value} {own : String} {D : va_G} {cI cJ cH : ClassId} {A : Nat → Prop} {ws : va_W}
    (S : CallFix p m c cc nL s args gT own) (hlink : Cond.classLink own index "CurveFalls$Held" ∈ gT) (hX : AOH s) (hK : va_K D vwCl (TTy cI cJ cH) s) (hP : va_P D vwCl ws H) (hD : va_D A ws) (hS : va_S A H0 H locs) (hA : ∀ q, H0.size ≤ q → A q) (hc : cells + 1 ≤ R.cells) (hs : slots + 16 ≤ R.slots) (hdg : decode cc pc = .ok (.anewarray index, 3))
    (kk : ∀ (q : Nat) (H1 : Heap), va_P D vwCl (ws ++ [(q, .inl (cH, 16, .inr (.inr (.inr (.inr (fun _ => none))))))]) H1 → va_D A (ws ++ [(q, .inl (cH, 16, .inr (.inr (.inr (.inr (fun _ => none))))))]) → va_S A H0 H1 locs → W p l e R s m args below meth c H1 locs (cells + 1) (slots + 16) Q (F0 m (pc + 3) ls (.ref q :: rest))) : W p l e R s m args below meth c H locs cells slots Q (F0 m pc ls (.int 16 :: rest)) := by
  refine va_newq (N' := 16) S.1 S.2.1 S.2.2.2.1 (S.2.2.2.2 _ hlink) hX hK hP hD hS hA (by decide) (by decide) (by decide) hc hs hdg (fun q cA H1 hK1 hP1 hD1 hS1 => ?_)
  have e : cA = cH := by
    obtain ⟨k1, c1, -, -, -, h1⟩ := (hK1.2 3 (cA, .object "CurveFalls$Held") rfl).2
    obtain ⟨k2, c2, -, -, -, h2⟩ := (hK.2 2 (cH, .object "CurveFalls$Held") rfl).2
    exact Option.some.inj (h1.symm.trans h2)
  subst e
  exact kk q H1 hP1 hD1 hS1
abbrev rX7 : Room := ({ frames := 3, cells := 88, slots := 1487, locals := 100 } : Room)
set_option maxRecDepth 20000 in
set_option maxHeartbeats 4000000 in
theorem x7_loop {p : Program} {l : Launch} {e : Env} {s : State} {m : MethodId} {args : Array Value} {below : List Frame} {meth : Method} {c : Code} {Q : State → Prop} {D : va_G} {cI cJ cH : ClassId} {h0 q0 : Nat} (S : CallFix p m c cX7_init 2 s args gT RX7) (hK : va_K D vwCl (TTy cI cJ cH) s) (hX : AOH s)
    (K40 : ∀ (H : Heap) (locs : List Loc) (ls : Array Slot) (ad : Nat → X2U) (g : Nat → Option Nat), (∀ k, k < 16 → g k = some (ad k).1) → va_P D vwCl ((h0, X7c q0 .null .null .null .null 0) :: (q0, .inl (cH, 16, .inr (.inr (.inr (.inr g))))) :: wF cI cJ cH ad 16) H → va_D (fA h0 s.heap.size) ((h0, X7c q0 .null .null .null .null 0) :: (q0, .inl (cH, 16, .inr (.inr (.inr (.inr g))))) :: wF cI cJ cH ad 16) → va_S (fA h0 s.heap.size) s.heap H locs → lv_has ls 2 [(0, .ref h0)] → W p l e rX7 s m args below meth c H locs 81 768 Q (F0 m 40 ls [])) :
    ∀ (n j : Nat) (H : Heap) (locs : List Loc) (ls : Array Slot) (ad : Nat → X2U) (g : Nat → Option Nat), j + n = 16 → (∀ k, k < j → g k = some (ad k).1) → va_P D vwCl ((h0, X7c q0 .null .null .null .null 0) :: (q0, .inl (cH, 16, .inr (.inr (.inr (.inr g))))) :: wF cI cJ cH ad j) H → va_D (fA h0 s.heap.size) ((h0, X7c q0 .null .null .null .null 0) :: (q0, .inl (cH, 16, .inr (.inr (.inr (.inr g))))) :: wF cI cJ cH ad j) → va_S (fA h0 s.heap.size) s.heap H locs → lv_has ls 2 [(0, .ref h0), (1, .int (nI j))] → W p l e rX7 s m args below meth c H locs (1 + 5 * j) (16 + 47 * j) Q (F0 m 15 ls []) := by
  have hA : ∀ q, s.heap.size ≤ q → fA h0 s.heap.size q := fun q h => Or.inr h
  intro n
  induction n with
  | zero =>
    intro j H locs ls ad g hj hg hP hD hS hl
    have hj : j = 16 := by omega
    subst hj
    refine lv_iload_n S.1 S.2.1 dX7_init_15 rfl (lv_at hl 1 rfl) ?_
    refine lv_bipush (v := 16) S.1 S.2.1 dX7_init_16 (by decide) ?_
    refine lv_icmp_ge (tgt := 40) S.1 S.2.1 dX7_init_18 (by decide) (fun _ => ?_) (fun c1 => absurd (by decide) c1)
    exact K40 H locs ls ad g hg hP hD hS (lv_sub hl [0] rfl)
  | succ n ih =>
    intro j H locs ls ad g hj hg hP hD hS hl
    refine lv_iload_n S.1 S.2.1 dX7_init_15 rfl (lv_at hl 1 rfl) ?_
    refine lv_bipush (v := 16) S.1 S.2.1 dX7_init_16 (by decide) ?_
    refine lv_icmp_ge (tgt := 40) S.1 S.2.1 dX7_init_18 (by decide) (fun c1 => absurd c1 (nI_ge (b := 16) (by omega) (by omega))) (fun c1 => ?_)
    refine lv_aload_n S.1 S.2.1 dX7_init_21 rfl (lv_at hl 0 rfl) ?_
    refine va_get (ci := 5) (v := .ref q0) (C := RX7) (T := TX7) (N := 7) S.1 S.2.1 S.2.2.2.2 gX7 S.2.2.2.1 hK hP 0 rfl rfl 0 (by decide) (S.2.2.2.2 _ iw_34) (fun _ h9 => h9) rfl dX7_init_22 ?_
    refine lv_iload_n S.1 S.2.1 dX7_init_25 rfl (lv_at hl 1 rfl) ?_
    refine va_new (ci := 2) (fs := [.null, .null, .long 0, .null, .int 0]) (C := RX2) (T := TX2) (N := 5) S.1 S.2.1 S.2.2.2.2 gX2 tyX2 tyX2_ok S.2.2.2.1 (S.2.2.2.2 _ iw_33) (S.2.2.2.2 _ iw_12) (S.2.2.2.2 _ iw_13) hK hP hD hS hA rfl (fun j9 hj9 => by rcases (show j9 = 0 ∨ j9 = 1 ∨ j9 = 2 ∨ j9 = 3 ∨ j9 = 4 by omega) with rfl | rfl | rfl | rfl | rfl <;> rfl) (by show 1 + 5 * j + 1 ≤ 88; omega) (by show 16 + 47 * j + 5 ≤ 1487; omega) dX7_init_26 (fun a H hP hD hS => ?_)
    refine lv_dup S.1 S.2.1 dX7_init_29 rfl ?_
    refine ci_call (ws := (h0, X7c q0 .null .null .null .null 0) :: (q0, .inl (cH, 16, .inr (.inr (.inr (.inr g))))) :: wF cI cJ cH ad j) (a := a) (rest := [.ref a, .int (nI j), .ref q0]) S (i_X2 l D cI cJ cH) im_X2 iw_35 hK hX hP hD hS hA (by decide) hl.1 rfl (Nat.le_of_ble_eq_true rfl) ⟨by show 1 + 5 * j + 1 + 4 ≤ 88; omega, by show 16 + 47 * j + 5 + 42 ≤ 1487; omega⟩ dX7_init_30 (fun u H locs hP hD hS => ?_)
    refine va_astq S.1 S.2.1 hK hP hD hS 1 2 (2 + 5 * j) 2 (r := (RX2, TX2, 5)) rfl rfl wF_hd rfl (nI_in (by omega) (by omega)) dX7_init_33 (fun H locs hP hD hS => ?_)
    rw [nI_clamp (by omega)] at hP hD
    have hP : va_P D vwCl ((h0, X7c q0 .null .null .null .null 0) :: (q0, .inl (cH, 16, .inr (.inr (.inr (.inr (va_up g j (some a))))))) :: (wF cI cJ cH ad j ++ wX2 cI cJ cH a u)) H := hP
    have hD : va_D (fA h0 s.heap.size) ((h0, X7c q0 .null .null .null .null 0) :: (q0, .inl (cH, 16, .inr (.inr (.inr (.inr (va_up g j (some a))))))) :: (wF cI cJ cH ad j ++ wX2 cI cJ cH a u)) := hD
    rw [wF_up cI cJ cH ad j (a, u)] at hP hD
    refine lv_iinc (v := nI (j + 1)) (lv' := [(1, .int (nI (j + 1))), (0, .ref h0)]) S.1 S.2.1 dX7_init_34 hl (k := 1) rfl (nI_add j 1) (by decide) rfl (fun ls hl => ?_)
    refine lv_goto (tgt := 15) S.1 S.2.1 dX7_init_37 (by decide) ?_
    refine W.widen (k := 1 + 5 * (j + 1)) (n := 16 + 47 * (j + 1)) (by show 1 + 5 * j + 1 + 4 ≤ _; omega) (by show 16 + 47 * j + 5 + 42 ≤ _; omega) ?_
    refine ih (j + 1) H locs ls (adU ad j (a, u)) (va_up g j (some a)) (by omega) (fun k hk => ?_) hP hD hS (lv_sub hl [1, 0] rfl)
    unfold va_up adU
    by_cases h : k = j
    · rw [if_pos h, if_pos h]
    · rw [if_neg h, if_neg h]
      exact hg k (by omega)
theorem im_X7 : pm_Im yX7_init cX7_init 2 := ⟨iw_27, iw_26, iw_25, by decide, by decide, rfl⟩
set_option maxRecDepth 20000 in
set_option maxHeartbeats 4000000 in
theorem i_X7 (l : Launch) (D : va_G) (cI cJ cH : ClassId) : IC l yX7_init cX7_init 2 rX7 D cI cJ cH (.inr (5, [.null, .int 0, .null, .null, .null, .int 0, .null])) (wX7 cI cJ cH) := by
  intro h0 sz
  refine pi_of (by decide) (Nat.le_of_ble_eq_true rfl) ?_
  intro p e s m below meth c S hr hlk hin hv ls hl
  obtain ⟨hsz, hP0, hK, hX⟩ := hv
  subst hsz
  have hP := ci_P1 hP0
  have hD : va_D (fA h0 s.heap.size) [(h0, .inr (5, [.null, .int 0, .null, .null, .null, .int 0, .null]))] := ci_D1
  have hS : va_S (fA h0 s.heap.size) s.heap s.heap [] := va_S.rf
  have hA : ∀ q, s.heap.size ≤ q → fA h0 s.heap.size q := fun q h => Or.inr h
  have hl : lv_has ls 2 [(0, .ref h0)] := hl
  refine lv_aload_n S.1 S.2.1 dX7_init_0 rfl (lv_at hl 0 rfl) ?_
  refine ci_obj S iw_32 hl.1 (by decide) dX7_init_1 ?_
  refine lv_aload_n S.1 S.2.1 dX7_init_4 rfl (lv_at hl 0 rfl) ?_
  refine lv_bipush (v := 16) S.1 S.2.1 dX7_init_5 (by decide) ?_
  refine ci_newq S iw_33 hX hK hP hD hS hA (by decide) (by decide) dX7_init_7 (fun q0 H hP hD hS => ?_)
  refine va_putF (ci := 5) (v := .ref q0) (ty := tyX7 0) (C := RX7) (T := TX7) (N := 7) S.1 S.2.1 S.2.2.2.2 gX7 tyX7 tyX7_ok nmX7 S.2.2.2.1 hK hP hD hS 0 rfl rfl 0 (by decide) (S.2.2.2.2 _ iw_34) (fun _ h9 => h9) rfl hin rfl (tyX7_ok 0 (by decide)) rfl rfl (Nat.le_of_ble_eq_true rfl) dX7_init_10 (fun H locs hP hD hS => ?_)
  refine lv_iconst (v := 0) S.1 S.2.1 dX7_init_13 (by decide) ?_
  refine lv_istore_n (lv' := [(1, .int 0), (0, .ref h0)]) S.1 S.2.1 dX7_init_14 rfl hl (by decide) rfl (fun ls hl => ?_)
  refine x7_loop (l := l) (h0 := h0) (q0 := q0) S hK hX ?_ 16 0 H locs ls (fun _ => (0, 0, 0, 0, 0)) (fun _ => none) rfl (fun k hk => absurd hk (Nat.not_lt_zero k)) hP hD hS (lv_sub hl [1, 0] rfl)
  · intro H locs ls ad g hg hP hD hS hl
    refine lv_aload_n S.1 S.2.1 dX7_init_40 rfl (lv_at hl 0 rfl) ?_
    refine lv_iconst (v := 0) S.1 S.2.1 dX7_init_41 (by decide) ?_
    refine va_put (ci := 5) (v := .int 0) (ty := tyX7 1) (C := RX7) (T := TX7) (N := 7) S.1 S.2.1 S.2.2.2.2 gX7 tyX7 tyX7_ok nmX7 S.2.2.2.1 hK hP hD hS 0 rfl rfl 1 (by decide) (S.2.2.2.2 _ iw_36) (fun _ h9 => h9) rfl (tyX7_ok 1 (by decide)) rfl rfl (Nat.le_of_ble_eq_true rfl) dX7_init_42 (fun H locs hP hD hS => ?_)
    have hP : va_P D vwCl ((h0, X7c q0 .null .null .null .null 0) :: (q0, .inl (cH, 16, .inr (.inr (.inr (.inr g))))) :: wF cI cJ cH ad 16) H := hP
    have hD : va_D (fA h0 s.heap.size) ((h0, X7c q0 .null .null .null .null 0) :: (q0, .inl (cH, 16, .inr (.inr (.inr (.inr g))))) :: wF cI cJ cH ad 16) := hD
    refine lv_aload_n S.1 S.2.1 dX7_init_45 rfl (lv_at hl 0 rfl) ?_
    refine va_new (ci := 0) (fs := [.long 0, .long 0, .long 0, .long 0, .long 0, .long 0, .long 0, .long 0, .long 0, .long 0, .long 0, .long 0]) (C := RX0) (T := TX0) (N := 12) S.1 S.2.1 S.2.2.2.2 gX0 tyX0 tyX0_ok S.2.2.2.1 (S.2.2.2.2 _ iw_37) (S.2.2.2.2 _ iw_4) (S.2.2.2.2 _ iw_5) hK hP hD hS hA rfl (fun j hj => by rcases (show j = 0 ∨ j = 1 ∨ j = 2 ∨ j = 3 ∨ j = 4 ∨ j = 5 ∨ j = 6 ∨ j = 7 ∨ j = 8 ∨ j = 9 ∨ j = 10 ∨ j = 11 by omega) with rfl | rfl | rfl | rfl | rfl | rfl | rfl | rfl | rfl | rfl | rfl | rfl <;> rfl) (by decide) (by decide) dX7_init_46 (fun dr H hP hD hS => ?_)
    refine W.widen (k := 82) (n := 780) (by decide) (by decide) ?_
    refine lv_dup S.1 S.2.1 dX7_init_49 rfl ?_
    refine ci_call (ws := ((h0, X7c q0 .null .null .null .null 0) :: (q0, .inl (cH, 16, .inr (.inr (.inr (.inr g))))) :: wF cI cJ cH ad 16)) (a := dr) (rest := [.ref dr, .ref h0]) S (i_X0 l D cI cJ cH) im_X0 iw_38 hK hX hP hD hS hA (by decide) hl.1 rfl (Nat.le_of_ble_eq_true rfl) (by decide) dX7_init_50 (fun u0 H locs hP hD hS => ?_)
    refine W.widen (k := 82) (n := 780) (by decide) (by decide) ?_
    have hP : va_P D vwCl (((h0, X7c q0 .null .null .null .null 0) :: (q0, .inl (cH, 16, .inr (.inr (.inr (.inr g))))) :: wF cI cJ cH ad 16) ++ [(dr, .inr (0, [.long 0, .long 0, .long 0, .long 0, .long 0, .long 0, .long 0, .long 0, .long 0, .long 0, .long 0, .long 0]))]) H := hP
    have hD : va_D (fA h0 s.heap.size) (((h0, X7c q0 .null .null .null .null 0) :: (q0, .inl (cH, 16, .inr (.inr (.inr (.inr g))))) :: wF cI cJ cH ad 16) ++ [(dr, .inr (0, [.long 0, .long 0, .long 0, .long 0, .long 0, .long 0, .long 0, .long 0, .long 0, .long 0, .long 0, .long 0]))]) := hD
    refine va_putF (ci := 5) (v := .ref dr) (ty := tyX7 2) (C := RX7) (T := TX7) (N := 7) S.1 S.2.1 S.2.2.2.2 gX7 tyX7 tyX7_ok nmX7 S.2.2.2.1 hK hP hD hS 0 rfl rfl 2 (by decide) (S.2.2.2.2 _ iw_39) (fun _ h9 => h9) rfl hin rfl (tyX7_ok 2 (by decide)) rfl rfl (Nat.le_of_ble_eq_true rfl) dX7_init_53 (fun H locs hP hD hS => ?_)
    have hP : va_P D vwCl (((h0, X7c q0 (.ref dr) .null .null .null 0) :: (q0, .inl (cH, 16, .inr (.inr (.inr (.inr g))))) :: wF cI cJ cH ad 16) ++ [(dr, .inr (0, [.long 0, .long 0, .long 0, .long 0, .long 0, .long 0, .long 0, .long 0, .long 0, .long 0, .long 0, .long 0]))]) H := hP
    have hD : va_D (fA h0 s.heap.size) (((h0, X7c q0 (.ref dr) .null .null .null 0) :: (q0, .inl (cH, 16, .inr (.inr (.inr (.inr g))))) :: wF cI cJ cH ad 16) ++ [(dr, .inr (0, [.long 0, .long 0, .long 0, .long 0, .long 0, .long 0, .long 0, .long 0, .long 0, .long 0, .long 0, .long 0]))]) := hD
    refine lv_aload_n S.1 S.2.1 dX7_init_56 rfl (lv_at hl 0 rfl) ?_
    refine va_new (ci := 1) (fs := [.int 0, .int 0, .int 0, .int 0, .int 0, .int 0, .int 0, .null, .int 0]) (C := RX1) (T := TX1) (N := 9) S.1 S.2.1 S.2.2.2.2 gX1 tyX1 tyX1_ok S.2.2.2.1 (S.2.2.2.2 _ iw_40) (S.2.2.2.2 _ iw_8) (S.2.2.2.2 _ iw_9) hK hP hD hS hA rfl (fun j hj => by rcases (show j = 0 ∨ j = 1 ∨ j = 2 ∨ j = 3 ∨ j = 4 ∨ j = 5 ∨ j = 6 ∨ j = 7 ∨ j = 8 by omega) with rfl | rfl | rfl | rfl | rfl | rfl | rfl | rfl | rfl <;> rfl) (by decide) (by decide) dX7_init_57 (fun fl H hP hD hS => ?_)
    refine W.widen (k := 83) (n := 789) (by decide) (by decide) ?_
    refine lv_dup S.1 S.2.1 dX7_init_60 rfl ?_
    refine ci_call (ws := (((h0, X7c q0 (.ref dr) .null .null .null 0) :: (q0, .inl (cH, 16, .inr (.inr (.inr (.inr g))))) :: wF cI cJ cH ad 16) ++ [(dr, .inr (0, [.long 0, .long 0, .long 0, .long 0, .long 0, .long 0, .long 0, .long 0, .long 0, .long 0, .long 0, .long 0]))])) (a := fl) (rest := [.ref fl, .ref h0]) S (i_X1 l D cI cJ cH) im_X1 iw_41 hK hX hP hD hS hA (by decide) hl.1 rfl (Nat.le_of_ble_eq_true rfl) (by decide) dX7_init_61 (fun wk H locs hP hD hS => ?_)
    refine W.widen (k := 84) (n := 801) (by decide) (by decide) ?_
    have hP : va_P D vwCl ((((h0, X7c q0 (.ref dr) .null .null .null 0) :: (q0, .inl (cH, 16, .inr (.inr (.inr (.inr g))))) :: wF cI cJ cH ad 16) ++ [(dr, .inr (0, [.long 0, .long 0, .long 0, .long 0, .long 0, .long 0, .long 0, .long 0, .long 0, .long 0, .long 0, .long 0]))]) ++ wX1 cI cJ cH fl wk) H := hP
    have hD : va_D (fA h0 s.heap.size) ((((h0, X7c q0 (.ref dr) .null .null .null 0) :: (q0, .inl (cH, 16, .inr (.inr (.inr (.inr g))))) :: wF cI cJ cH ad 16) ++ [(dr, .inr (0, [.long 0, .long 0, .long 0, .long 0, .long 0, .long 0, .long 0, .long 0, .long 0, .long 0, .long 0, .long 0]))]) ++ wX1 cI cJ cH fl wk) := hD
    refine va_putF (ci := 5) (v := .ref fl) (ty := tyX7 3) (C := RX7) (T := TX7) (N := 7) S.1 S.2.1 S.2.2.2.2 gX7 tyX7 tyX7_ok nmX7 S.2.2.2.1 hK hP hD hS 0 rfl rfl 3 (by decide) (S.2.2.2.2 _ iw_42) (fun _ h9 => h9) rfl hin rfl (tyX7_ok 3 (by decide)) rfl rfl (Nat.le_of_ble_eq_true rfl) dX7_init_64 (fun H locs hP hD hS => ?_)
    have hP : va_P D vwCl ((((h0, X7c q0 (.ref dr) (.ref fl) .null .null 0) :: (q0, .inl (cH, 16, .inr (.inr (.inr (.inr g))))) :: wF cI cJ cH ad 16) ++ [(dr, .inr (0, [.long 0, .long 0, .long 0, .long 0, .long 0, .long 0, .long 0, .long 0, .long 0, .long 0, .long 0, .long 0]))]) ++ wX1 cI cJ cH fl wk) H := hP
    have hD : va_D (fA h0 s.heap.size) ((((h0, X7c q0 (.ref dr) (.ref fl) .null .null 0) :: (q0, .inl (cH, 16, .inr (.inr (.inr (.inr g))))) :: wF cI cJ cH ad 16) ++ [(dr, .inr (0, [.long 0, .long 0, .long 0, .long 0, .long 0, .long 0, .long 0, .long 0, .long 0, .long 0, .long 0, .long 0]))]) ++ wX1 cI cJ cH fl wk) := hD
    refine lv_aload_n S.1 S.2.1 dX7_init_67 rfl (lv_at hl 0 rfl) ?_
    refine va_new (ci := 4) (fs := [.null, .null, .int 0]) (C := RX6) (T := TX6) (N := 3) S.1 S.2.1 S.2.2.2.2 gX6 tyX6 tyX6_ok S.2.2.2.1 (S.2.2.2.2 _ iw_43) (S.2.2.2.2 _ iw_20) (S.2.2.2.2 _ iw_21) hK hP hD hS hA rfl (fun j hj => by rcases (show j = 0 ∨ j = 1 ∨ j = 2 by omega) with rfl | rfl | rfl <;> rfl) (by decide) (by decide) dX7_init_68 (fun sp H hP hD hS => ?_)
    refine W.widen (k := 85) (n := 804) (by decide) (by decide) ?_
    refine lv_dup S.1 S.2.1 dX7_init_71 rfl ?_
    refine ci_call (ws := ((((h0, X7c q0 (.ref dr) (.ref fl) .null .null 0) :: (q0, .inl (cH, 16, .inr (.inr (.inr (.inr g))))) :: wF cI cJ cH ad 16) ++ [(dr, .inr (0, [.long 0, .long 0, .long 0, .long 0, .long 0, .long 0, .long 0, .long 0, .long 0, .long 0, .long 0, .long 0]))]) ++ wX1 cI cJ cH fl wk)) (a := sp) (rest := [.ref sp, .ref h0]) S (i_X6 l D cI cJ cH) im_X6 iw_44 hK hX hP hD hS hA (by decide) hl.1 rfl (Nat.le_of_ble_eq_true rfl) (by decide) dX7_init_72 (fun u2 H locs hP hD hS => ?_)
    obtain ⟨x1, y1⟩ := u2
    refine W.widen (k := 87) (n := 1288) (by decide) (by decide) ?_
    have hP : va_P D vwCl (((((h0, X7c q0 (.ref dr) (.ref fl) .null .null 0) :: (q0, .inl (cH, 16, .inr (.inr (.inr (.inr g))))) :: wF cI cJ cH ad 16) ++ [(dr, .inr (0, [.long 0, .long 0, .long 0, .long 0, .long 0, .long 0, .long 0, .long 0, .long 0, .long 0, .long 0, .long 0]))]) ++ wX1 cI cJ cH fl wk) ++ wX6 cI cJ cH sp (x1, y1)) H := hP
    have hD : va_D (fA h0 s.heap.size) (((((h0, X7c q0 (.ref dr) (.ref fl) .null .null 0) :: (q0, .inl (cH, 16, .inr (.inr (.inr (.inr g))))) :: wF cI cJ cH ad 16) ++ [(dr, .inr (0, [.long 0, .long 0, .long 0, .long 0, .long 0, .long 0, .long 0, .long 0, .long 0, .long 0, .long 0, .long 0]))]) ++ wX1 cI cJ cH fl wk) ++ wX6 cI cJ cH sp (x1, y1)) := hD
    refine va_putF (ci := 5) (v := .ref sp) (ty := tyX7 4) (C := RX7) (T := TX7) (N := 7) S.1 S.2.1 S.2.2.2.2 gX7 tyX7 tyX7_ok nmX7 S.2.2.2.1 hK hP hD hS 0 rfl rfl 4 (by decide) (S.2.2.2.2 _ iw_45) (fun _ h9 => h9) rfl hin rfl (tyX7_ok 4 (by decide)) rfl rfl (Nat.le_of_ble_eq_true rfl) dX7_init_75 (fun H locs hP hD hS => ?_)
    have hP : va_P D vwCl (((((h0, X7c q0 (.ref dr) (.ref fl) (.ref sp) .null 0) :: (q0, .inl (cH, 16, .inr (.inr (.inr (.inr g))))) :: wF cI cJ cH ad 16) ++ [(dr, .inr (0, [.long 0, .long 0, .long 0, .long 0, .long 0, .long 0, .long 0, .long 0, .long 0, .long 0, .long 0, .long 0]))]) ++ wX1 cI cJ cH fl wk) ++ wX6 cI cJ cH sp (x1, y1)) H := hP
    have hD : va_D (fA h0 s.heap.size) (((((h0, X7c q0 (.ref dr) (.ref fl) (.ref sp) .null 0) :: (q0, .inl (cH, 16, .inr (.inr (.inr (.inr g))))) :: wF cI cJ cH ad 16) ++ [(dr, .inr (0, [.long 0, .long 0, .long 0, .long 0, .long 0, .long 0, .long 0, .long 0, .long 0, .long 0, .long 0, .long 0]))]) ++ wX1 cI cJ cH fl wk) ++ wX6 cI cJ cH sp (x1, y1)) := hD
    refine lv_aload_n S.1 S.2.1 dX7_init_78 rfl (lv_at hl 0 rfl) ?_
    refine lv_iconst (v := -1) S.1 S.2.1 dX7_init_79 (by decide) ?_
    refine va_put (ci := 5) (v := .int (-1)) (ty := tyX7 5) (C := RX7) (T := TX7) (N := 7) S.1 S.2.1 S.2.2.2.2 gX7 tyX7 tyX7_ok nmX7 S.2.2.2.1 hK hP hD hS 0 rfl rfl 5 (by decide) (S.2.2.2.2 _ iw_46) (fun _ h9 => h9) rfl (tyX7_ok 5 (by decide)) rfl rfl (Nat.le_of_ble_eq_true rfl) dX7_init_80 (fun H locs hP hD hS => ?_)
    have hP : va_P D vwCl (((((h0, X7c q0 (.ref dr) (.ref fl) (.ref sp) .null (-1)) :: (q0, .inl (cH, 16, .inr (.inr (.inr (.inr g))))) :: wF cI cJ cH ad 16) ++ [(dr, .inr (0, [.long 0, .long 0, .long 0, .long 0, .long 0, .long 0, .long 0, .long 0, .long 0, .long 0, .long 0, .long 0]))]) ++ wX1 cI cJ cH fl wk) ++ wX6 cI cJ cH sp (x1, y1)) H := hP
    have hD : va_D (fA h0 s.heap.size) (((((h0, X7c q0 (.ref dr) (.ref fl) (.ref sp) .null (-1)) :: (q0, .inl (cH, 16, .inr (.inr (.inr (.inr g))))) :: wF cI cJ cH ad 16) ++ [(dr, .inr (0, [.long 0, .long 0, .long 0, .long 0, .long 0, .long 0, .long 0, .long 0, .long 0, .long 0, .long 0, .long 0]))]) ++ wX1 cI cJ cH fl wk) ++ wX6 cI cJ cH sp (x1, y1)) := hD
    refine lv_aload_n S.1 S.2.1 dX7_init_83 rfl (lv_at hl 0 rfl) ?_
    refine lv_sipush (v := 199) S.1 S.2.1 dX7_init_84 (by decide) ?_
    refine ci_newI (N' := 199) S hK hP hD hS hA (by decide) (by decide) (by decide) (by decide) (by decide) dX7_init_87 (fun sr H hP hD hS => ?_)
    refine W.widen (k := 88) (n := 1487) (by decide) (by decide) ?_
    have hP : va_P D vwCl ((((((h0, X7c q0 (.ref dr) (.ref fl) (.ref sp) .null (-1)) :: (q0, .inl (cH, 16, .inr (.inr (.inr (.inr g))))) :: wF cI cJ cH ad 16) ++ [(dr, .inr (0, [.long 0, .long 0, .long 0, .long 0, .long 0, .long 0, .long 0, .long 0, .long 0, .long 0, .long 0, .long 0]))]) ++ wX1 cI cJ cH fl wk) ++ wX6 cI cJ cH sp (x1, y1)) ++ [(sr, .inl (cI, 199, .inl (fun _ => 0)))]) H := hP
    have hD : va_D (fA h0 s.heap.size) ((((((h0, X7c q0 (.ref dr) (.ref fl) (.ref sp) .null (-1)) :: (q0, .inl (cH, 16, .inr (.inr (.inr (.inr g))))) :: wF cI cJ cH ad 16) ++ [(dr, .inr (0, [.long 0, .long 0, .long 0, .long 0, .long 0, .long 0, .long 0, .long 0, .long 0, .long 0, .long 0, .long 0]))]) ++ wX1 cI cJ cH fl wk) ++ wX6 cI cJ cH sp (x1, y1)) ++ [(sr, .inl (cI, 199, .inl (fun _ => 0)))]) := hD
    refine va_putF (ci := 5) (v := .ref sr) (ty := tyX7 6) (C := RX7) (T := TX7) (N := 7) S.1 S.2.1 S.2.2.2.2 gX7 tyX7 tyX7_ok nmX7 S.2.2.2.1 hK hP hD hS 0 rfl rfl 6 (by decide) (S.2.2.2.2 _ iw_47) (fun _ h9 => h9) rfl hin rfl (tyX7_ok 6 (by decide)) rfl rfl (Nat.le_of_ble_eq_true rfl) dX7_init_89 (fun H locs hP hD hS => ?_)
    have hP : va_P D vwCl ((((((h0, X7c q0 (.ref dr) (.ref fl) (.ref sp) (.ref sr) (-1)) :: (q0, .inl (cH, 16, .inr (.inr (.inr (.inr g))))) :: wF cI cJ cH ad 16) ++ [(dr, .inr (0, [.long 0, .long 0, .long 0, .long 0, .long 0, .long 0, .long 0, .long 0, .long 0, .long 0, .long 0, .long 0]))]) ++ wX1 cI cJ cH fl wk) ++ wX6 cI cJ cH sp (x1, y1)) ++ [(sr, .inl (cI, 199, .inl (fun _ => 0)))]) H := hP
    have hD : va_D (fA h0 s.heap.size) ((((((h0, X7c q0 (.ref dr) (.ref fl) (.ref sp) (.ref sr) (-1)) :: (q0, .inl (cH, 16, .inr (.inr (.inr (.inr g))))) :: wF cI cJ cH ad 16) ++ [(dr, .inr (0, [.long 0, .long 0, .long 0, .long 0, .long 0, .long 0, .long 0, .long 0, .long 0, .long 0, .long 0, .long 0]))]) ++ wX1 cI cJ cH fl wk) ++ wX6 cI cJ cH sp (x1, y1)) ++ [(sr, .inl (cI, 199, .inl (fun _ => 0)))]) := hD
    have hP : va_P D vwCl (wX7 cI cJ cH h0 (q0, ad, dr, fl, wk, sp, x1, y1, sr)) H := ci_setP (k := 1) hP (ci_cellH (hP 1 _ rfl) hg)
    have hD : va_D (fA h0 s.heap.size) (wX7 cI cJ cH h0 (q0, ad, dr, fl, wk, sp, x1, y1, sr)) := va_D.set (p := 1) hD rfl
    exact W.vret S.1 S.2.1 hr (fun t ht _ => ⟨⟨(q0, ad, dr, fl, wk, sp, x1, y1, sr), rfl, trivial, by rw [ht]; exact hP, hD⟩, hS.F ht⟩) hS.2.2 dX7_init_92 hlk
