/-! the law from its entry -/
theorem st_row {args : Array Value} {s : State} {C n : String} {N : Nat} {f : Nat → Int32} (hN : N < 2 ^ 31) (hl : (Cond.laysStatic C n "[I").before args s = true) (hini : (Cond.initialized C).before args s = true) (harr : (Cond.arrayOf (.static C n "[I") .int).before args s = true) (hlen : (Cond.eq (.length (.static C n "[I")) (.int (Int32.ofNat N))).before args s = true) (hel : ∀ j : Nat, j < N → (Cond.eq (.elem (.static C n "[I") (.int (Int32.ofNat j))) (.int (f j))).before args s = true) :
    ∃ t : Nat, va_Z C n "[I" (.ref t) (aZ s) s s.heap ∧ va_T .int t N (fun j => .int (f j)) (aZ s) s s.heap := by
  obtain ⟨t, h1, h2⟩ := va_Tof (A := aZ s) (f := fun j => .int (f j)) hN harr (va_eqt hlen) (fun j hj => va_eqt (hel j hj)) (fun a h => Nat.not_le.mpr h)
  exact ⟨t, va_Zref hl hini h1 (fun a h => Nat.not_le.mpr h), h2⟩
set_option maxRecDepth 100000 in
theorem st_e1 : ∀ j, j < 14 → Cond.eq (.elem (.static RX7 "TWISTERS" "[I") (.int (Int32.ofNat j))) (.int (tw1 j)) ∈ flatC (Cond.and given_1 narrow_1) := by decide +kernel
set_option maxRecDepth 100000 in
theorem st_e2 : ∀ j, j < 4 → Cond.eq (.elem (.static RX7 "TWIST_PRIMES" "[I") (.int (Int32.ofNat j))) (.int (tw2 j)) ∈ flatC (Cond.and given_1 narrow_1) := by decide +kernel
set_option maxRecDepth 100000 in
theorem st_e3 : ∀ j, j < 11 → Cond.eq (.elem (.static RX7 "SHRINK_PRIMES" "[I") (.int (Int32.ofNat j))) (.int (tw3 j)) ∈ flatC (Cond.and given_1 narrow_1) := by decide +kernel
set_option maxRecDepth 100000 in
set_option maxHeartbeats 4000000 in
/-- THE LAW, from its entry -/
theorem whole_start {p : Program} {e : Env} {s : State} {m : MethodId} {below : List Frame} {meth : Method} {c : Code} (l : Launch) (hflags : l.flags = flags0) {b L : Nat} {xs : Nat → Int32} (hL : L ≤ 3072) (C0 : lw_At p s m meth c b L xs) : W p l e room_1 s m #[Value.ref b] below meth c s.heap [] 0 0 (lw_Z below #[Value.ref b] s) (entryFrame m ([Value.ref b] : List Value).toArray 8) := by
  obtain ⟨hx, hb, hr, hml, hown, hts, hX, hbl, hlocks, hgv⟩ := id C0
  have hfl := flat_of_before _ hgv
  have hst : l.stackTraces = false := by
    show (!l.flags.contains noTraceFlag) = false
    rw [hflags]
    decide +kernel
  have htg : ∀ w ∈ gT, w.before #[Value.ref b] s = true := fun w h => hts w (List.mem_filter.mp h).1
  obtain ⟨c0, i0, k0⟩ := u_known (C := RX0) (T := TX0) (N := 12) (n := 12) htg gX0 (htg _ iw_4)
  obtain ⟨c1, i1, k1⟩ := u_known (C := RX1) (T := TX1) (N := 9) (n := 9) htg gX1 (htg _ iw_8)
  obtain ⟨c2, i2, k2⟩ := u_known (C := RX2) (T := TX2) (N := 5) (n := 5) htg gX2 (htg _ iw_12)
  obtain ⟨c3, i3, k3⟩ := u_known (C := RX5) (T := TX5) (N := 2) (n := 2) htg gX5 (htg _ iw_16)
  obtain ⟨c4, i4, k4⟩ := u_known (C := RX6) (T := TX6) (N := 3) (n := 3) htg gX6 (htg _ iw_20)
  obtain ⟨c5, i5, k5⟩ := u_known (C := RX7) (T := TX7) (N := 7) (n := 7) htg gX7 (htg _ iw_24)
  obtain ⟨c6, i6, k6⟩ := u_known (C := RX8) (T := TX8) (N := 16) (n := 16) htg gX8 (htg _ iw_28)
  obtain ⟨dC, dI, hKc⟩ : ∃ (dC : Nat → ClassId) (dI : Nat → Nat → Nat), ∀ (k : Nat) (q : vw_C), vwCl[k]? = some q → u_Kn s q.1 q.2.1 q.2.2 (dC k) (dI k) := by
    refine ⟨fun k => match k with | 0 => c0 | 1 => c1 | 2 => c2 | 3 => c3 | 4 => c4 | 5 => c5 | _ => c6, fun k => match k with | 0 => i0 | 1 => i1 | 2 => i2 | 3 => i3 | 4 => i4 | 5 => i5 | _ => i6, ?_⟩
    intro k q hq
    match k, hq with
    | 0, hq => cases hq; exact k0
    | 1, hq => cases hq; exact k1
    | 2, hq => cases hq; exact k2
    | 3, hq => cases hq; exact k3
    | 4, hq => cases hq; exact k4
    | 5, hq => cases hq; exact k5
    | 6, hq => cases hq; exact k6
    | k + 7, hq => simp [vwCl] at hq
  obtain ⟨cI, kI, pI, fI1, fI2, fI3⟩ := Cond.arrayClass_spec (htg _ iw_2)
  obtain ⟨cJ, kJ, pJ, fJ1, fJ2, fJ3⟩ := Cond.arrayClass_spec (htg _ iw_3)
  have hao : (Cond.arrayOver (.object "CurveFalls$Held")).before #[Value.ref b] s = true := hts _ (List.mem_append_right _ (List.mem_of_getElem? (i := 24) (by decide +kernel)))
  obtain ⟨pH9, cH, kH, fH1, -, fH2, fH3, fH4⟩ := Cond.arrayOver_spec hao
  have hX9 : AOH s := va_AO.of hao
  have hK : va_K (dC, dI) vwCl (TTy cI cJ cH) s := by
    refine ⟨hKc, fun k q hq => ?_⟩
    match k, hq with
    | 0, hq => cases hq; exact ⟨fun n z => ⟨fun k h => (by cases h), kI, fI2, pI, fI3⟩, fI1⟩
    | 1, hq => cases hq; exact ⟨fun n z => ⟨fun k h => (by cases h), kJ, fJ2, pJ, fJ3⟩, fJ1⟩
    | 2, hq => cases hq; exact ⟨fun n z => ⟨fun k h => (by cases h), kH, fH2, pH9, fH3⟩, kH, pH9, fH2, fH3, fH1, fH4⟩
    | k + 3, hq => simp [TTy] at hq
  have S : CallFix p m c cL_law 8 s #[Value.ref b] gT RL := ⟨hx, hb, hml, hown, htg⟩
  have hA : ∀ q : Nat, s.heap.size ≤ q → aZ s q := fun _ h => h
  have hS : va_S (aZ s) s.heap s.heap [] := va_S.rf
  have hP : va_P (dC, dI) vwCl [] s.heap := fun k q h => by simp at h
  have hD : va_D (aZ s) [] := ⟨fun i j p q h => by simp at h, fun k q h => by simp at h⟩
  have hl := lv_entry ([.ref b]) (n := 8) (Nat.le_of_ble_eq_true rfl)
  rw [lg_entry_eq]
  generalize (lg_sl ([.ref b]) ++ List.replicate (8 - (lg_sl ([.ref b])).length) Slot.unset).toArray = ls at hl ⊢
  have hl : lv_has ls 8 [(0, .ref b)] := hl
  refine va_new (ci := 5) (fs := [.null, .int 0, .null, .null, .null, .int 0, .null]) (C := RX7) (T := TX7) (N := 7) S.1 S.2.1 S.2.2.2.2 gX7 tyX7 tyX7_ok S.2.2.2.1 (S.2.2.2.2 _ iw_89) (S.2.2.2.2 _ iw_24) (S.2.2.2.2 _ iw_25) hK hP hD hS hA rfl (fun j hj => by rcases (show j = 0 ∨ j = 1 ∨ j = 2 ∨ j = 3 ∨ j = 4 ∨ j = 5 ∨ j = 6 by omega) with rfl | rfl | rfl | rfl | rfl | rfl | rfl <;> rfl) (Nat.le_of_ble_eq_true rfl) (Nat.le_of_ble_eq_true rfl) dL_law_0 (fun th H hP hD hS => ?_)
  refine lv_dup S.1 S.2.1 dL_law_3 rfl ?_
  refine ci_call (ws := []) (a := th) (rest := [.ref th]) S (i_X7 l (dC, dI) cI cJ cH) im_X7 iw_91 hK hX9 hP hD hS hA ⟨Nat.le_of_ble_eq_true rfl, Nat.le_of_ble_eq_true rfl⟩ hl.1 rfl (Nat.le_of_ble_eq_true rfl) ⟨Nat.le_of_ble_eq_true rfl, Nat.le_of_ble_eq_true rfl⟩ dL_law_4 (fun u H locs hP hD hS => ?_)
  refine W.widen (k := 100) (n := 2000) (Nat.le_of_ble_eq_true rfl) (Nat.le_of_ble_eq_true rfl) ?_
  refine lv_astore_n (lv' := [(1, .ref th), (0, .ref b)]) S.1 S.2.1 dL_law_7 rfl hl (by decide) rfl (fun ls hl => ?_)
  refine va_new (ci := 6) (fs := [.int 0, .int 0, .null, .null, .null, .null, .int 0, .null, .long 0, .null, .long 0, .null, .null, .null, .null, .int 0]) (C := RX8) (T := TX8) (N := 16) S.1 S.2.1 S.2.2.2.2 gX8 tyX8 tyX8_ok S.2.2.2.1 (S.2.2.2.2 _ iw_90) (S.2.2.2.2 _ iw_28) (S.2.2.2.2 _ iw_29) hK hP hD hS hA rfl (fun j hj => by rcases (show j = 0 ∨ j = 1 ∨ j = 2 ∨ j = 3 ∨ j = 4 ∨ j = 5 ∨ j = 6 ∨ j = 7 ∨ j = 8 ∨ j = 9 ∨ j = 10 ∨ j = 11 ∨ j = 12 ∨ j = 13 ∨ j = 14 ∨ j = 15 by omega) with rfl | rfl | rfl | rfl | rfl | rfl | rfl | rfl | rfl | rfl | rfl | rfl | rfl | rfl | rfl | rfl <;> rfl) (Nat.le_of_ble_eq_true rfl) (Nat.le_of_ble_eq_true rfl) dL_law_8 (fun md H hP hD hS => ?_)
  refine lv_dup S.1 S.2.1 dL_law_11 rfl ?_
  refine ci_call (ws := [] ++ wX7 cI cJ cH th u) (a := md) (rest := [.ref md]) S (i_X8 l (dC, dI) cI cJ cH) im_X8 iw_92 hK hX9 hP hD hS hA ⟨Nat.le_of_ble_eq_true rfl, Nat.le_of_ble_eq_true rfl⟩ hl.1 rfl (Nat.le_of_ble_eq_true rfl) ⟨Nat.le_of_ble_eq_true rfl, Nat.le_of_ble_eq_true rfl⟩ dL_law_12 (fun v H locs hP hD hS => ?_)
  refine W.widen (k := 200) (n := 4000) (Nat.le_of_ble_eq_true rfl) (Nat.le_of_ble_eq_true rfl) ?_
  refine lv_astore_n (lv' := [(2, .ref md), (1, .ref th), (0, .ref b)]) S.1 S.2.1 dL_law_15 rfl hl (by decide) rfl (fun ls hl => ?_)
  refine lv_iconst (v := 1) S.1 S.2.1 dL_law_16 (by decide) ?_
  refine ci_newJ (N' := 1) S hK hP hD hS hA (by decide) (by decide) (by decide) (Nat.le_of_ble_eq_true rfl) (Nat.le_of_ble_eq_true rfl) dL_law_17 (fun o H hP hD hS => ?_)
  refine W.widen (k := 590000 + 0) (n := 7000000 + 0) (Nat.le_of_ble_eq_true rfl) (Nat.le_of_ble_eq_true rfl) ?_
  refine lv_astore_n (lv' := [(3, .ref o), (2, .ref md), (1, .ref th), (0, .ref b)]) S.1 S.2.1 dL_law_19 rfl hl (by decide) rfl (fun ls hl => ?_)
  refine lv_iconst (v := 0) S.1 S.2.1 dL_law_20 (by decide) ?_
  refine lv_istore (lv' := [(4, .int 0), (3, .ref o), (2, .ref md), (1, .ref th), (0, .ref b)]) S.1 S.2.1 dL_law_21 hl (by decide) rfl (fun ls hl => ?_)
  obtain ⟨q0, ad, dr, fl, wk, sp, x1, y1, sr⟩ := u
  obtain ⟨m0, m1, m2, m3, m4, m5, m6, m7, m8, m9⟩ := v
  rw [List.nil_append, wN_eq] at hP hD
  obtain ⟨t0, z0, T0⟩ := st_row (s := s) (args := #[Value.ref b]) (C := RX7) (n := "TWISTERS") (N := 14) (f := tw1) (by decide) (hts _ (List.mem_append_right _ (List.mem_of_getElem? (i := 346) (by decide +kernel)))) (htg _ iw_25) (hfl _ (by decide +kernel)) (hfl _ (by decide +kernel)) (fun j hj => hfl _ (st_e1 j hj))
  obtain ⟨t1, z1, T1⟩ := st_row (s := s) (args := #[Value.ref b]) (C := RX7) (n := "TWIST_PRIMES") (N := 4) (f := tw2) (by decide) (hts _ (List.mem_append_right _ (List.mem_of_getElem? (i := 508) (by decide +kernel)))) (htg _ iw_25) (hfl _ (by decide +kernel)) (hfl _ (by decide +kernel)) (fun j hj => hfl _ (st_e2 j hj))
  obtain ⟨t2, z2, T2⟩ := st_row (s := s) (args := #[Value.ref b]) (C := RX7) (n := "SHRINK_PRIMES") (N := 11) (f := tw3) (by decide) (hts _ (List.mem_append_right _ (List.mem_of_getElem? (i := 252) (by decide +kernel)))) (htg _ iw_25) (hfl _ (by decide +kernel)) (hfl _ (by decide +kernel)) (fun j hj => hfl _ (st_e3 j hj))
  have hEA : ∀ q, q ∈ (wN cI cJ cH th q0 ad dr fl wk sp x1 y1 sr md m0 m1 m2 m3 m4 m5 m6 m7 m8 m9 o).map (fun q => q.1) → s.heap.size ≤ q := fun q hq => by
    obtain ⟨k, hk⟩ := List.getElem?_of_mem (mk_mem hD hq)
    exact hD.2 k _ hk
  have C : LC p l s m meth c b L xs (mkE (wN cI cJ cH th q0 ad dr fl wk sp x1 y1 sr md m0 m1 m2 m3 m4 m5 m6 m7 m8 m9 o) cI cJ cH (dC, dI) (fun i => if i = 900 then t0 else if i = 901 then t1 else t2)) th md o :=
    ⟨C0, hL, hst, EWF_mk hD n_ok, n_Sep hD, n_oOK hD, n_th hD, n_md hD, (n_o hD).1, (n_o hD).2, hK,
      ⟨⟨va_Nw.of rfl (hts _ (List.mem_append_right _ (List.mem_of_getElem? (i := 237) (by decide +kernel)))), va_Nw.of rfl (hts _ (List.mem_append_right _ (List.mem_of_getElem? (i := 251) (by decide +kernel))))⟩, ⟨z0.narrow hEA, T0.narrow hEA⟩, ⟨z1.narrow hEA, T1.narrow hEA⟩, z2.narrow hEA, T2.narrow hEA⟩,
      ⟨⟨va_Nw.of rfl (hts _ (List.mem_append_right _ (List.mem_of_getElem? (i := 618) (by decide +kernel)))), va_Nw.of rfl (hts _ (List.mem_append_right _ (List.mem_of_getElem? (i := 619) (by decide +kernel)))), va_Nw.of rfl (hts _ (List.mem_append_right _ (List.mem_of_getElem? (i := 621) (by decide +kernel)))), va_Nw.of rfl (hts _ (List.mem_append_right _ (List.mem_of_getElem? (i := 623) (by decide +kernel))))⟩, vx_Zqof (hts _ (List.mem_append_right _ (List.mem_of_getElem? (i := 643) (by decide +kernel)))) (hts _ (List.mem_append_right _ (List.mem_of_getElem? (i := 11) (by decide +kernel)))) (hfl _ (by decide +kernel)) (fun a h1 h2 => Nat.not_le.mpr h1 (hEA a h2)), vx_Zqof (hts _ (List.mem_append_right _ (List.mem_of_getElem? (i := 645) (by decide +kernel)))) (hts _ (List.mem_append_right _ (List.mem_of_getElem? (i := 11) (by decide +kernel)))) (hfl _ (by decide +kernel)) (fun a h1 h2 => Nat.not_le.mpr h1 (hEA a h2))⟩,
      hEA⟩
  exact law_loop C (L + 1) 0 (mkZ (wN cI cJ cH th q0 ad dr fl wk sp x1 y1 sr md m0 m1 m2 m3 m4 m5 m6 m7 m8 m9 o)) H locs ls (Nat.zero_le L) (by omega) (n_IV hD) (Wd_mk hP hD n_ok) hS (lv_sub hl [4, 3, 2, 1, 0] rfl)
