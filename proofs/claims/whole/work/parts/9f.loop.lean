/-! the law's loop -/
theorem nI_sub6 {i L : Nat} (hL : L ≤ 3072) (hi : i ≤ L) (h : ¬ nI L - 6 < nI i) : i + 6 ≤ L := by
  rw [Int32.lt_iff_toInt_lt, Int32.toInt_sub, nI_toInt (by omega), nI_toInt (by omega), show (6 : Int32).toInt = 6 from by decide] at h
  have e : ((L : Int) - 6).bmod (2 ^ 32) = (L : Int) - 6 := by
    rw [Int.bmod_def]
    omega
  rw [e] at h
  omega
set_option maxRecDepth 20000 in
set_option maxHeartbeats 4000000 in
theorem law_loop {p : Program} {l : Launch} {e : Env} {s : State} {m : MethodId} {below : List Frame} {meth : Method} {c : Code} {b L : Nat} {xs : Nat → Int32} {ev : EV} {th md o : Nat} (C : LC p l s m meth c b L xs ev th md o) :
    ∀ (n i : Nat) (z : PS) (H : Heap) (locs : List Loc) (ls : Array Slot), i ≤ L → L + 1 ≤ i + n → IV ev th md z → Wd ev z H → va_S (aZ s) s.heap H locs → lv_has ls 8 (lvs b th md o i) → LW p l e s m below meth c b H locs (590000 + i) (7000000 + i) 23 ls [] := by
  have hL := C.hL
  obtain ⟨hx, hb, hr, hml, hown, hts, hX, hbl, hlocks, hgv⟩ := C.at0
  intro n
  induction n with
  | zero =>
    intro i z H locs ls h1 h2
    exact absurd h2 (by omega)
  | succ n ih =>
    intro i z H locs ls hi hin I hP hS hl
    refine lv_iload hx hb dL_law_23 (lv_at hl 4 rfl) ?_
    refine lv_aload_n hx hb dL_law_25 rfl (lv_at hl 0 rfl) ?_
    refine va_slen hx hb hX hbl (Nat.not_le.mpr hbl) hS dL_law_26 ?_
    refine lv_bipush (v := 6) hx hb dL_law_27 (by decide) ?_
    refine lv_isub hx hb dL_law_29 ?_
    refine lv_icmp_gt (tgt := 1033) hx hb dL_law_30 (by decide) (fun c1 => ?_) (fun c1 => ?_)
    · refine lv_iconst (v := 1) hx hb dL_law_1033 (by decide) ?_
      refine va_forget (fun q hq => hS.2.2 q hq) ?_
      refine W.widen (k := 601024) (n := 7293034) (by omega) (by omega) ?_
      exact lw_ret hx hb hr hlocks dL_law_1034
    · have h6 : i + 6 ≤ L := nI_sub6 hL hi c1
      have nx : NX p l e s m below meth c b ev th md o i := by
        intro z2 H2 locs2 ls2 I2 hP2 hS2 hl2
        refine lv_iinc (v := nI (i + 6)) (lv' := [(4, .int (nI (i + 6))), (0, .ref b), (1, .ref th), (2, .ref md), (3, .ref o)]) hx hb dL_law_1027 hl2 (k := 4) rfl (nI_add i 6) (by decide) rfl (fun ls hl => ?_)
        refine lv_goto (tgt := 23) hx hb dL_law_1030 (by decide) ?_
        refine W.widen (k := 590000 + (i + 6)) (n := 7000000 + (i + 6)) (by omega) (by omega) ?_
        exact ih (i + 6) z2 H2 locs2 ls h6 (by omega) I2 hP2 hS2 (lv_sub hl [1, 2, 3, 4, 0] rfl)
      refine lv_aload_n hx hb dL_law_33 rfl (lv_at hl 0 rfl) ?_
      refine lv_iload hx hb dL_law_34 (lv_at hl 4 rfl) ?_
      refine va_sld hx hb hX hbl (Nat.not_le.mpr hbl) hS (vp_in_nI (show i < L by omega) (by omega)) dL_law_36 ?_
      refine lv_bipush (v := 31) hx hb dL_law_37 (by decide) ?_
      refine lv_iand hx hb dL_law_39 ?_
      refine lv_topi (fun x ex => ?_)
      by_cases ho : x.toInt < 0 ∨ 20 < x.toInt
      · refine lv_tableOut (tgt := 1027) hx hb dL_law_40 ho (by decide) ?_
        exact W.widen (k := 590000 + i + 1) (n := 7000000 + i + 6) (by omega) (by omega) (nx z H locs ls I hP hS hl)
      · have hc : x.toInt = 0 ∨ x.toInt = 1 ∨ x.toInt = 2 ∨ x.toInt = 3 ∨ x.toInt = 4 ∨ x.toInt = 5 ∨ x.toInt = 6 ∨ x.toInt = 7 ∨ x.toInt = 8 ∨ x.toInt = 9 ∨ x.toInt = 10 ∨ x.toInt = 11 ∨ x.toInt = 12 ∨ x.toInt = 13 ∨ x.toInt = 14 ∨ x.toInt = 15 ∨ x.toInt = 16 ∨ x.toInt = 17 ∨ x.toInt = 18 ∨ x.toInt = 19 ∨ x.toInt = 20 := by omega
        rcases hc with hc | hc | hc | hc | hc | hc | hc | hc | hc | hc | hc | hc | hc | hc | hc | hc | hc | hc | hc | hc | hc
        · exact lv_tableIn (off := 100) (tgt := 140) hx hb dL_law_40 (by omega) (by omega) (by rw [hc]; rfl) (by decide) (la_0 C h6 I hP hS hl nx)
        · exact lv_tableIn (off := 173) (tgt := 213) hx hb dL_law_40 (by omega) (by omega) (by rw [hc]; rfl) (by decide) (la_1 C h6 I hP hS hl nx)
        · exact lv_tableIn (off := 234) (tgt := 274) hx hb dL_law_40 (by omega) (by omega) (by rw [hc]; rfl) (by decide) (la_2 C h6 I hP hS hl nx)
        · exact lv_tableIn (off := 299) (tgt := 339) hx hb dL_law_40 (by omega) (by omega) (by rw [hc]; rfl) (by decide) (la_3 C h6 I hP hS hl nx)
        · exact lv_tableIn (off := 324) (tgt := 364) hx hb dL_law_40 (by omega) (by omega) (by rw [hc]; rfl) (by decide) (la_4 C h6 I hP hS hl nx)
        · exact lv_tableIn (off := 361) (tgt := 401) hx hb dL_law_40 (by omega) (by omega) (by rw [hc]; rfl) (by decide) (la_5 C h6 I hP hS hl nx)
        · exact lv_tableIn (off := 374) (tgt := 414) hx hb dL_law_40 (by omega) (by omega) (by rw [hc]; rfl) (by decide) (la_6 C h6 I hP hS hl nx)
        · exact lv_tableIn (off := 441) (tgt := 481) hx hb dL_law_40 (by omega) (by omega) (by rw [hc]; rfl) (by decide) (la_7 C h6 I hP hS hl nx)
        · exact lv_tableIn (off := 490) (tgt := 530) hx hb dL_law_40 (by omega) (by omega) (by rw [hc]; rfl) (by decide) (la_8 C h6 I hP hS hl nx)
        · exact lv_tableIn (off := 527) (tgt := 567) hx hb dL_law_40 (by omega) (by omega) (by rw [hc]; rfl) (by decide) (la_9 C h6 I hP hS hl nx)
        · exact lv_tableIn (off := 553) (tgt := 593) hx hb dL_law_40 (by omega) (by omega) (by rw [hc]; rfl) (by decide) (la_10 C h6 I hP hS hl nx)
        · exact lv_tableIn (off := 620) (tgt := 660) hx hb dL_law_40 (by omega) (by omega) (by rw [hc]; rfl) (by decide) (la_11 C h6 I hP hS hl nx)
        · exact lv_tableIn (off := 657) (tgt := 697) hx hb dL_law_40 (by omega) (by omega) (by rw [hc]; rfl) (by decide) (la_12 C h6 I hP hS hl nx)
        · exact lv_tableIn (off := 694) (tgt := 734) hx hb dL_law_40 (by omega) (by omega) (by rw [hc]; rfl) (by decide) (la_13 C h6 I hP hS hl nx)
        · exact lv_tableIn (off := 731) (tgt := 771) hx hb dL_law_40 (by omega) (by omega) (by rw [hc]; rfl) (by decide) (la_14 C h6 I hP hS hl nx)
        · exact lv_tableIn (off := 757) (tgt := 797) hx hb dL_law_40 (by omega) (by omega) (by rw [hc]; rfl) (by decide) (la_15 C h6 I hP hS hl nx)
        · exact lv_tableIn (off := 782) (tgt := 822) hx hb dL_law_40 (by omega) (by omega) (by rw [hc]; rfl) (by decide) (la_16 C h6 I hP hS hl nx)
        · exact lv_tableIn (off := 820) (tgt := 860) hx hb dL_law_40 (by omega) (by omega) (by rw [hc]; rfl) (by decide) (la_17 C h6 I hP hS hl nx)
        · exact lv_tableIn (off := 845) (tgt := 885) hx hb dL_law_40 (by omega) (by omega) (by rw [hc]; rfl) (by decide) (la_18 C h6 I hP hS hl nx)
        · exact lv_tableIn (off := 925) (tgt := 965) hx hb dL_law_40 (by omega) (by omega) (by rw [hc]; rfl) (by decide) (la_19 C h6 I hP hS hl nx)
        · exact lv_tableIn (off := 962) (tgt := 1002) hx hb dL_law_40 (by omega) (by omega) (by rw [hc]; rfl) (by decide) (la_20 C h6 I hP hS hl nx)
