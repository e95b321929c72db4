/-! the law's whole world at the head of its loop -/
def wTL (cI cJ cH : ClassId) (dr fl wk sp x1 y1 sr md m0 m1 m2 m3 m4 m5 m6 m7 m8 m9 o : Nat) : va_W := [(dr, .inr (0, [.long 0, .long 0, .long 0, .long 0, .long 0, .long 0, .long 0, .long 0, .long 0, .long 0, .long 0, .long 0])), (fl, .inr (1, [.int 0, .int 0, .int 0, .int 1, .int 1, .int 0, .int 0, .ref wk, .int 2])), (wk, .inr (0, [.long 0, .long 0, .long 0, .long 0, .long 0, .long 0, .long 0, .long 0, .long 0, .long 0, .long 0, .long 0])), (sp, .inr (4, [.ref x1, .ref y1, .int 0])), (x1, .inl (cI, 242, .inl (fun _ => 0))), (y1, .inl (cI, 242, .inl (fun _ => 0))), (sr, .inl (cI, 199, .inl (fun _ => 0))), (md, .inr (6, [.int 0, .int 0, .ref m0, .ref m1, .ref m2, .ref m3, .int 0, .ref m4, .long 0, .ref m5, .long 0, .ref m6, .ref m7, .ref m8, .ref m9, .int 0])), (m0, .inl (cJ, 80, .inr (.inl (fun _ => 0)))), (m1, .inl (cJ, 5, .inr (.inl (fun _ => 0)))), (m2, .inl (cJ, 5, .inr (.inl (fun _ => 0)))), (m3, .inl (cJ, 20, .inr (.inl (fun _ => 0)))), (m4, .inl (cI, 8, .inl (fun _ => 0))), (m5, .inl (cJ, 5, .inr (.inl (fun _ => 0)))), (m6, .inl (cJ, 5, .inr (.inl (fun _ => 0)))), (m7, .inl (cJ, 5, .inr (.inl (fun _ => 0)))), (m8, .inl (cI, 14, .inl tw1)), (m9, .inl (cJ, 484, .inr (.inl (fun _ => 0)))), (o, .inl (cJ, 1, .inr (.inl (fun _ => 0))))]
def wN (cI cJ cH : ClassId) (th q0 : Nat) (ad : Nat → X2U) (dr fl wk sp x1 y1 sr md m0 m1 m2 m3 m4 m5 m6 m7 m8 m9 o : Nat) : va_W := (th, X7c q0 (.ref dr) (.ref fl) (.ref sp) (.ref sr) (-1)) :: (q0, .inl (cH, 16, .inr (.inr (.inr (.inr (fun i => some (ad i).1)))))) :: (wF cI cJ cH ad 16 ++ wTL cI cJ cH dr fl wk sp x1 y1 sr md m0 m1 m2 m3 m4 m5 m6 m7 m8 m9 o)
theorem wN_eq (cI cJ cH : ClassId) (th q0 : Nat) (ad : Nat → X2U) (dr fl wk sp x1 y1 sr md m0 m1 m2 m3 m4 m5 m6 m7 m8 m9 o : Nat) : (wX7 cI cJ cH th (q0, ad, dr, fl, wk, sp, x1, y1, sr) ++ wX8 cI cJ cH md (m0, m1, m2, m3, m4, m5, m6, m7, m8, m9)) ++ [(o, .inl (cJ, 1, .inr (.inl (fun _ => 0))))] = wN cI cJ cH th q0 ad dr fl wk sp x1 y1 sr md m0 m1 m2 m3 m4 m5 m6 m7 m8 m9 o := by
  unfold wN wTL wX7 wX1 wX6 wX8
  simp only [List.cons_append, List.append_assoc, List.nil_append]
theorem wF_get (cI cJ cH : ClassId) (ad : Nat → X2U) : ∀ (n k r : Nat), k < n → r < 5 → (wF cI cJ cH ad n)[5 * k + r]? = (wX2 cI cJ cH (ad k).1 (ad k).2)[r]?
  | 0, k, r, h, _ => absurd h (Nat.not_lt_zero k)
  | n + 1, k, r, h, hr => by
    rw [wF_succ]
    by_cases hk : k < n
    · rw [List.getElem?_append_left (by rw [wF_len]; omega)]
      exact wF_get cI cJ cH ad n k r hk hr
    · have e : k = n := by omega
      subst e
      rw [List.getElem?_append_right (by rw [wF_len]; omega), wF_len]
      congr 1
      omega
section WN
variable {cI cJ cH : ClassId} {th q0 : Nat} {ad : Nat → X2U} {dr fl wk sp x1 y1 sr md m0 m1 m2 m3 m4 m5 m6 m7 m8 m9 o : Nat} {D : va_G} {r9 : Nat → Nat} {A : Nat → Prop}
theorem n_F {k r : Nat} (hk : k < 16) (hr : r < 5) : (wN cI cJ cH th q0 ad dr fl wk sp x1 y1 sr md m0 m1 m2 m3 m4 m5 m6 m7 m8 m9 o)[2 + 5 * k + r]? = (wX2 cI cJ cH (ad k).1 (ad k).2)[r]? := by
  unfold wN
  rw [show 2 + 5 * k + r = (5 * k + r) + 1 + 1 by omega, List.getElem?_cons_succ, List.getElem?_cons_succ, List.getElem?_append_left (by rw [wF_len]; omega)]
  exact wF_get cI cJ cH ad 16 k r hk hr
theorem n_T (t : Nat) : (wN cI cJ cH th q0 ad dr fl wk sp x1 y1 sr md m0 m1 m2 m3 m4 m5 m6 m7 m8 m9 o)[82 + t]? = (wTL cI cJ cH dr fl wk sp x1 y1 sr md m0 m1 m2 m3 m4 m5 m6 m7 m8 m9 o)[t]? := by
  unfold wN
  rw [show 82 + t = (80 + t) + 1 + 1 by omega, List.getElem?_cons_succ, List.getElem?_cons_succ, List.getElem?_append_right (by rw [wF_len]; omega), wF_len]
  congr 1
  omega
theorem n_mF {k : Nat} (hk : k < 16) (r : Nat) {x : Nat × va_E} (h : (wX2 cI cJ cH (ad k).1 (ad k).2)[r]? = some x) : x ∈ wN cI cJ cH th q0 ad dr fl wk sp x1 y1 sr md m0 m1 m2 m3 m4 m5 m6 m7 m8 m9 o := by
  have hr : r < 5 := (List.getElem?_eq_some_iff.mp h).1
  exact List.mem_of_getElem? ((n_F hk hr).trans h)
theorem n_mT (t : Nat) {x : Nat × va_E} (h : (wTL cI cJ cH dr fl wk sp x1 y1 sr md m0 m1 m2 m3 m4 m5 m6 m7 m8 m9 o)[t]? = some x) : x ∈ wN cI cJ cH th q0 ad dr fl wk sp x1 y1 sr md m0 m1 m2 m3 m4 m5 m6 m7 m8 m9 o := List.mem_of_getElem? ((n_T t).trans h)
theorem n_split {x : Nat × va_E} (h : x ∈ wN cI cJ cH th q0 ad dr fl wk sp x1 y1 sr md m0 m1 m2 m3 m4 m5 m6 m7 m8 m9 o) : x = (th, X7c q0 (.ref dr) (.ref fl) (.ref sp) (.ref sr) (-1)) ∨ x = (q0, .inl (cH, 16, .inr (.inr (.inr (.inr (fun i => some (ad i).1)))))) ∨ (∃ k, k < 16 ∧ x ∈ wX2 cI cJ cH (ad k).1 (ad k).2) ∨ x ∈ wTL cI cJ cH dr fl wk sp x1 y1 sr md m0 m1 m2 m3 m4 m5 m6 m7 m8 m9 o := by
  unfold wN at h
  rcases List.mem_cons.mp h with h | h
  · exact Or.inl h
  · rcases List.mem_cons.mp h with h | h
    · exact Or.inr (Or.inl h)
    · rcases List.mem_append.mp h with h | h
      · unfold wF at h
        obtain ⟨k, h1, h2⟩ := List.mem_flatMap.mp h
        exact Or.inr (Or.inr (Or.inl ⟨k, List.mem_range.mp h1, h2⟩))
      · exact Or.inr (Or.inr (Or.inr h))
theorem n_ok : ∀ x ∈ wN cI cJ cH th q0 ad dr fl wk sp x1 y1 sr md m0 m1 m2 m3 m4 m5 m6 m7 m8 m9 o, okW (wN cI cJ cH th q0 ad dr fl wk sp x1 y1 sr md m0 m1 m2 m3 m4 m5 m6 m7 m8 m9 o) cI cJ cH x.2 := by
  intro x hx
  rcases n_split hx with rfl | rfl | ⟨k, hk, hx⟩ | hx
  · exact Or.inr (Or.inr (Or.inr (Or.inr (Or.inr (Or.inl (⟨_, _, _, _, _, _, _, rfl, ⟨_, List.mem_of_getElem? (i := 1) rfl, rfl, rfl⟩, ⟨_, n_mT 0 rfl, rfl⟩, ⟨_, n_mT 1 rfl, rfl⟩, ⟨_, n_mT 3 rfl, rfl⟩, ⟨_, n_mT 6 rfl, rfl, rfl⟩⟩))))))
  · exact Or.inr (Or.inr (Or.inr (Or.inr (Or.inr (Or.inr (Or.inr (Or.inr (Or.inr ((⟨_, _, rfl, fun i hi => ⟨_, n_mF hi 0 rfl, rfl⟩⟩))))))))))
  · simp only [wX2, List.mem_cons, List.not_mem_nil, or_false] at hx
    rcases hx with rfl | rfl | rfl | rfl | rfl
    · exact Or.inr (Or.inr (Or.inl (⟨_, _, _, _, _, rfl, ⟨_, n_mF hk 1 rfl, rfl⟩, ⟨_, n_mF hk 2 rfl, rfl⟩, ⟨_, n_mF hk 3 rfl, rfl⟩⟩)))
    · exact Or.inl (⟨_, _, _, _, _, _, _, _, _, _, _, _, rfl⟩)
    · exact Or.inl (⟨_, _, _, _, _, _, _, _, _, _, _, _, rfl⟩)
    · exact Or.inr (Or.inr (Or.inr (Or.inl (⟨_, _, rfl, ⟨_, n_mF hk 4 rfl, rfl, rfl⟩⟩))))
    · exact Or.inr (Or.inr (Or.inr (Or.inr (Or.inr (Or.inr (Or.inr (Or.inl (⟨_, _, rfl⟩))))))))
  · simp only [wTL, List.mem_cons, List.not_mem_nil, or_false] at hx
    rcases hx with rfl | rfl | rfl | rfl | rfl | rfl | rfl | rfl | rfl | rfl | rfl | rfl | rfl | rfl | rfl | rfl | rfl | rfl | rfl
    · exact Or.inl (⟨_, _, _, _, _, _, _, _, _, _, _, _, rfl⟩)
    · exact Or.inr (Or.inl (⟨_, _, _, _, _, _, _, _, _, rfl, ⟨_, n_mT 2 rfl, rfl⟩⟩))
    · exact Or.inl (⟨_, _, _, _, _, _, _, _, _, _, _, _, rfl⟩)
    · exact Or.inr (Or.inr (Or.inr (Or.inr (Or.inl (⟨_, _, _, rfl, ⟨_, n_mT 4 rfl, rfl, rfl⟩, ⟨_, n_mT 5 rfl, rfl, rfl⟩⟩)))))
    · exact Or.inr (Or.inr (Or.inr (Or.inr (Or.inr (Or.inr (Or.inr (Or.inl (⟨_, _, rfl⟩))))))))
    · exact Or.inr (Or.inr (Or.inr (Or.inr (Or.inr (Or.inr (Or.inr (Or.inl (⟨_, _, rfl⟩))))))))
    · exact Or.inr (Or.inr (Or.inr (Or.inr (Or.inr (Or.inr (Or.inr (Or.inl (⟨_, _, rfl⟩))))))))
    · exact Or.inr (Or.inr (Or.inr (Or.inr (Or.inr (Or.inr (Or.inl (⟨_, _, _, _, _, _, _, _, _, _, _, _, _, _, _, _, rfl, ⟨_, n_mT 8 rfl, rfl, rfl⟩, ⟨_, n_mT 9 rfl, rfl, rfl⟩, ⟨_, n_mT 10 rfl, rfl, rfl⟩, ⟨_, n_mT 11 rfl, rfl, rfl⟩, ⟨_, n_mT 12 rfl, rfl, rfl⟩, ⟨_, n_mT 13 rfl, rfl, rfl⟩, ⟨_, n_mT 14 rfl, rfl, rfl⟩, ⟨_, n_mT 15 rfl, rfl, rfl⟩, ⟨_, n_mT 16 rfl, rfl, rfl⟩, ⟨_, n_mT 17 rfl, rfl, rfl⟩⟩)))))))
    · exact Or.inr (Or.inr (Or.inr (Or.inr (Or.inr (Or.inr (Or.inr (Or.inr (Or.inl (⟨_, _, rfl⟩)))))))))
    · exact Or.inr (Or.inr (Or.inr (Or.inr (Or.inr (Or.inr (Or.inr (Or.inr (Or.inl (⟨_, _, rfl⟩)))))))))
    · exact Or.inr (Or.inr (Or.inr (Or.inr (Or.inr (Or.inr (Or.inr (Or.inr (Or.inl (⟨_, _, rfl⟩)))))))))
    · exact Or.inr (Or.inr (Or.inr (Or.inr (Or.inr (Or.inr (Or.inr (Or.inr (Or.inl (⟨_, _, rfl⟩)))))))))
    · exact Or.inr (Or.inr (Or.inr (Or.inr (Or.inr (Or.inr (Or.inr (Or.inl (⟨_, _, rfl⟩))))))))
    · exact Or.inr (Or.inr (Or.inr (Or.inr (Or.inr (Or.inr (Or.inr (Or.inr (Or.inl (⟨_, _, rfl⟩)))))))))
    · exact Or.inr (Or.inr (Or.inr (Or.inr (Or.inr (Or.inr (Or.inr (Or.inr (Or.inl (⟨_, _, rfl⟩)))))))))
    · exact Or.inr (Or.inr (Or.inr (Or.inr (Or.inr (Or.inr (Or.inr (Or.inr (Or.inl (⟨_, _, rfl⟩)))))))))
    · exact Or.inr (Or.inr (Or.inr (Or.inr (Or.inr (Or.inr (Or.inr (Or.inl (⟨_, _, rfl⟩))))))))
    · exact Or.inr (Or.inr (Or.inr (Or.inr (Or.inr (Or.inr (Or.inr (Or.inr (Or.inl (⟨_, _, rfl⟩)))))))))
    · exact Or.inr (Or.inr (Or.inr (Or.inr (Or.inr (Or.inr (Or.inr (Or.inr (Or.inl (⟨_, _, rfl⟩)))))))))
theorem n_rf (hD : va_D A (wN cI cJ cH th q0 ad dr fl wk sp x1 y1 sr md m0 m1 m2 m3 m4 m5 m6 m7 m8 m9 o)) {k x c i r : Nat} {fs : List Value} (h : (wN cI cJ cH th q0 ad dr fl wk sp x1 y1 sr md m0 m1 m2 m3 m4 m5 m6 m7 m8 m9 o)[k]? = some (x, .inr (c, fs))) (hi : ¬ 900 ≤ i) (hr : fs.getD (i % 20) .null = .ref r) : rf (mkE (wN cI cJ cH th q0 ad dr fl wk sp x1 y1 sr md m0 m1 m2 m3 m4 m5 m6 m7 m8 m9 o) cI cJ cH D r9) i x = r := by
  show (if 900 ≤ i then r9 i else vR (fV (lk (wN cI cJ cH th q0 ad dr fl wk sp x1 y1 sr md m0 m1 m2 m3 m4 m5 m6 m7 m8 m9 o) x) (i % 20))) = r
  rw [if_neg hi, lk_of hD h]
  show vR (fs.getD (i % 20) .null) = r
  rw [hr]
  rfl
theorem n_Ho (hD : va_D A (wN cI cJ cH th q0 ad dr fl wk sp x1 y1 sr md m0 m1 m2 m3 m4 m5 m6 m7 m8 m9 o)) (i : Nat) : Ho (mkE (wN cI cJ cH th q0 ad dr fl wk sp x1 y1 sr md m0 m1 m2 m3 m4 m5 m6 m7 m8 m9 o) cI cJ cH D r9) th i = (ad i).1 := by
  show rh (mkE (wN cI cJ cH th q0 ad dr fl wk sp x1 y1 sr md m0 m1 m2 m3 m4 m5 m6 m7 m8 m9 o) cI cJ cH D r9) (rf (mkE (wN cI cJ cH th q0 ad dr fl wk sp x1 y1 sr md m0 m1 m2 m3 m4 m5 m6 m7 m8 m9 o) cI cJ cH D r9) 100 th) i = _
  rw [n_rf hD (k := 0) rfl (by decide) rfl]
  show aH (lk (wN cI cJ cH th q0 ad dr fl wk sp x1 y1 sr md m0 m1 m2 m3 m4 m5 m6 m7 m8 m9 o) q0) i = _
  rw [lk_of hD (k := 1) rfl]
  rfl
def eqp (i : Nat) : Nat := if i < 16 then 2 + 5 * i + 1 else if i < 32 then 2 + 5 * (i - 16) + 2 else if i = 32 then 82 else 84
theorem n_eqa (hD : va_D A (wN cI cJ cH th q0 ad dr fl wk sp x1 y1 sr md m0 m1 m2 m3 m4 m5 m6 m7 m8 m9 o)) {i : Nat} (hi : i < 34) : ∃ e, (wN cI cJ cH th q0 ad dr fl wk sp x1 y1 sr md m0 m1 m2 m3 m4 m5 m6 m7 m8 m9 o)[eqp i]? = some (eqa (mkE (wN cI cJ cH th q0 ad dr fl wk sp x1 y1 sr md m0 m1 m2 m3 m4 m5 m6 m7 m8 m9 o) cI cJ cH D r9) th i, e) := by
  unfold eqp eqa
  by_cases h1 : i < 16
  · rw [if_pos h1, if_pos h1, n_Ho hD, n_rf hD (k := 2 + 5 * i + 0) (r := (ad i).2.1) ((n_F h1 (by omega)).trans rfl) (by decide) rfl, n_F h1 (by omega)]
    exact ⟨_, rfl⟩
  · rw [if_neg h1, if_neg h1]
    by_cases h2 : i < 32
    · rw [if_pos h2, if_pos h2, n_Ho hD, n_rf hD (k := 2 + 5 * (i - 16) + 0) (r := (ad (i - 16)).2.2.1) ((n_F (by omega) (by omega)).trans rfl) (by decide) rfl, n_F (by omega) (by omega)]
      exact ⟨_, rfl⟩
    · rw [if_neg h2, if_neg h2]
      by_cases h3 : i = 32
      · rw [if_pos h3, if_pos h3, n_rf hD (k := 0) (r := dr) rfl (by decide) rfl]
        exact ⟨_, (n_T 0).trans rfl⟩
      · rw [if_neg h3, if_neg h3, n_rf hD (k := 0) (x := th) (i := 103) (r := fl) rfl (by decide) rfl, n_rf hD (k := 82 + 1) (x := fl) (r := wk) ((n_T 1).trans rfl) (by decide) rfl]
        exact ⟨_, (n_T 2).trans rfl⟩
def iap (i : Nat) : Nat := if i < 16 then 2 + 5 * i + 4 else if i = 16 then 86 else if i = 17 then 87 else if i = 18 then 88 else if i = 19 then 94 else 98
theorem n_iaa (hD : va_D A (wN cI cJ cH th q0 ad dr fl wk sp x1 y1 sr md m0 m1 m2 m3 m4 m5 m6 m7 m8 m9 o)) {i : Nat} (hi : i < 21) : ∃ e, (wN cI cJ cH th q0 ad dr fl wk sp x1 y1 sr md m0 m1 m2 m3 m4 m5 m6 m7 m8 m9 o)[iap i]? = some (iaa (mkE (wN cI cJ cH th q0 ad dr fl wk sp x1 y1 sr md m0 m1 m2 m3 m4 m5 m6 m7 m8 m9 o) cI cJ cH D r9) th md i, e) := by
  unfold iap iaa
  by_cases h1 : i < 16
  · rw [if_pos h1, if_pos h1, n_Ho hD, n_rf hD (k := 2 + 5 * i + 0) (x := (ad i).1) (i := 43) (r := (ad i).2.2.2.1) ((n_F h1 (by omega)).trans rfl) (by decide) rfl, n_rf hD (k := 2 + 5 * i + 3) (x := (ad i).2.2.2.1) (r := (ad i).2.2.2.2) ((n_F h1 (by omega)).trans rfl) (by decide) rfl, n_F h1 (by omega)]
    exact ⟨_, rfl⟩
  · rw [if_neg h1, if_neg h1]
    have e104 : rf (mkE (wN cI cJ cH th q0 ad dr fl wk sp x1 y1 sr md m0 m1 m2 m3 m4 m5 m6 m7 m8 m9 o) cI cJ cH D r9) 104 th = sp := n_rf hD (k := 0) rfl (by decide) rfl
    by_cases h2 : i = 16
    · rw [if_pos h2, if_pos h2, e104, n_rf hD (k := 82 + 3) (x := sp) (r := x1) ((n_T 3).trans rfl) (by decide) rfl]
      exact ⟨_, (n_T 4).trans rfl⟩
    · rw [if_neg h2, if_neg h2]
      by_cases h3 : i = 17
      · rw [if_pos h3, if_pos h3, e104, n_rf hD (k := 82 + 3) (x := sp) (r := y1) ((n_T 3).trans rfl) (by decide) rfl]
        exact ⟨_, (n_T 5).trans rfl⟩
      · rw [if_neg h3, if_neg h3]
        by_cases h4 : i = 18
        · rw [if_pos h4, if_pos h4, n_rf hD (k := 0) (x := th) (i := 106) (r := sr) rfl (by decide) rfl]
          exact ⟨_, (n_T 6).trans rfl⟩
        · rw [if_neg h4, if_neg h4]
          by_cases h5 : i = 19
          · rw [if_pos h5, if_pos h5, n_rf hD (k := 82 + 7) (x := md) (i := 127) (r := m4) ((n_T 7).trans rfl) (by decide) rfl]
            exact ⟨_, (n_T 12).trans rfl⟩
          · rw [if_neg h5, if_neg h5, n_rf hD (k := 82 + 7) (x := md) (i := 133) (r := m8) ((n_T 7).trans rfl) (by decide) rfl]
            exact ⟨_, (n_T 16).trans rfl⟩
theorem n_mr (hD : va_D A (wN cI cJ cH th q0 ad dr fl wk sp x1 y1 sr md m0 m1 m2 m3 m4 m5 m6 m7 m8 m9 o)) {i r : Nat} (hi : ¬ 900 ≤ i) (hr : ([.int 0, .int 0, .ref m0, .ref m1, .ref m2, .ref m3, .int 0, .ref m4, .long 0, .ref m5, .long 0, .ref m6, .ref m7, .ref m8, .ref m9, .int 0] : List Value).getD (i % 20) .null = .ref r) : rf (mkE (wN cI cJ cH th q0 ad dr fl wk sp x1 y1 sr md m0 m1 m2 m3 m4 m5 m6 m7 m8 m9 o) cI cJ cH D r9) i md = r := n_rf hD (k := 82 + 7) ((n_T 7).trans rfl) hi hr
/-- the place of the model's row of the field i -/
def mrp (i : Nat) : Nat := if i ≤ 125 then i - 32 else if i = 127 then 94 else if i = 129 then 95 else if i ≤ 134 then i - 35 else 0
theorem n_mra (hD : va_D A (wN cI cJ cH th q0 ad dr fl wk sp x1 y1 sr md m0 m1 m2 m3 m4 m5 m6 m7 m8 m9 o)) {i : Nat} (hi : i = 122 ∨ i = 123 ∨ i = 124 ∨ i = 125 ∨ i = 127 ∨ i = 129 ∨ i = 131 ∨ i = 132 ∨ i = 133 ∨ i = 134) : ∃ e, (wN cI cJ cH th q0 ad dr fl wk sp x1 y1 sr md m0 m1 m2 m3 m4 m5 m6 m7 m8 m9 o)[mrp i]? = some (rf (mkE (wN cI cJ cH th q0 ad dr fl wk sp x1 y1 sr md m0 m1 m2 m3 m4 m5 m6 m7 m8 m9 o) cI cJ cH D r9) i md, e) := by
  rcases hi with rfl | rfl | rfl | rfl | rfl | rfl | rfl | rfl | rfl | rfl
  · rw [n_mr hD (r := m0) (by decide) rfl]; exact ⟨_, (n_T 8).trans rfl⟩
  · rw [n_mr hD (r := m1) (by decide) rfl]; exact ⟨_, (n_T 9).trans rfl⟩
  · rw [n_mr hD (r := m2) (by decide) rfl]; exact ⟨_, (n_T 10).trans rfl⟩
  · rw [n_mr hD (r := m3) (by decide) rfl]; exact ⟨_, (n_T 11).trans rfl⟩
  · rw [n_mr hD (r := m4) (by decide) rfl]; exact ⟨_, (n_T 12).trans rfl⟩
  · rw [n_mr hD (r := m5) (by decide) rfl]; exact ⟨_, (n_T 13).trans rfl⟩
  · rw [n_mr hD (r := m6) (by decide) rfl]; exact ⟨_, (n_T 14).trans rfl⟩
  · rw [n_mr hD (r := m7) (by decide) rfl]; exact ⟨_, (n_T 15).trans rfl⟩
  · rw [n_mr hD (r := m8) (by decide) rfl]; exact ⟨_, (n_T 16).trans rfl⟩
  · rw [n_mr hD (r := m9) (by decide) rfl]; exact ⟨_, (n_T 17).trans rfl⟩
theorem n_ne (hD : va_D A (wN cI cJ cH th q0 ad dr fl wk sp x1 y1 sr md m0 m1 m2 m3 m4 m5 m6 m7 m8 m9 o)) {i j a b : Nat} (h1 : ∃ e, (wN cI cJ cH th q0 ad dr fl wk sp x1 y1 sr md m0 m1 m2 m3 m4 m5 m6 m7 m8 m9 o)[i]? = some (a, e)) (h2 : ∃ e, (wN cI cJ cH th q0 ad dr fl wk sp x1 y1 sr md m0 m1 m2 m3 m4 m5 m6 m7 m8 m9 o)[j]? = some (b, e)) (hn : i ≠ j) : a ≠ b := by
  obtain ⟨e1, h1⟩ := h1
  obtain ⟨e2, h2⟩ := h2
  exact fun h => hn (hD.1 i j _ _ h1 h2 h)
theorem mlA_in {i : Nat} (h : i ∈ mlA) : i = 122 ∨ i = 123 ∨ i = 124 ∨ i = 125 ∨ i = 127 ∨ i = 129 ∨ i = 131 ∨ i = 132 ∨ i = 133 ∨ i = 134 := by
  simp only [mlA, List.mem_cons, List.not_mem_nil, or_false] at h
  omega
theorem mrp_ne {i j : Nat} (h1 : i = 122 ∨ i = 123 ∨ i = 124 ∨ i = 125 ∨ i = 127 ∨ i = 129 ∨ i = 131 ∨ i = 132 ∨ i = 133 ∨ i = 134) (h2 : j = 122 ∨ j = 123 ∨ j = 124 ∨ j = 125 ∨ j = 127 ∨ j = 129 ∨ j = 131 ∨ j = 132 ∨ j = 133 ∨ j = 134) (hn : i ≠ j) : mrp i ≠ mrp j := by
  unfold mrp
  repeat' split
  all_goals omega
theorem n_Sep (hD : va_D A (wN cI cJ cH th q0 ad dr fl wk sp x1 y1 sr md m0 m1 m2 m3 m4 m5 m6 m7 m8 m9 o)) : Sep (mkE (wN cI cJ cH th q0 ad dr fl wk sp x1 y1 sr md m0 m1 m2 m3 m4 m5 m6 m7 m8 m9 o) cI cJ cH D r9) th md := by
  refine ⟨fun i j hi hj hn => n_ne hD (n_eqa hD hi) (n_eqa hD hj) ?_, fun i j hi hj hn => n_ne hD (n_iaa hD hi) (n_iaa hD hj) ?_, fun i j hi hj hn => ⟨?_, ?_⟩, fun i j hi hj hn => n_ne hD (n_mra hD (mlA_in hi)) (n_mra hD (mlA_in hj)) (mrp_ne (mlA_in hi) (mlA_in hj) hn), n_ne hD (n_mra hD (by omega)) (n_mra hD (by omega)) (by decide)⟩
  · unfold eqp
    repeat' split
    all_goals omega
  · unfold iap
    repeat' split
    all_goals omega
  · rw [n_Ho hD, n_Ho hD]
    exact n_ne hD (i := 2 + 5 * i + 0) (j := 2 + 5 * j + 0) ⟨_, (n_F hi (by omega)).trans rfl⟩ ⟨_, (n_F hj (by omega)).trans rfl⟩ (by omega)
  · rw [n_Ho hD, n_Ho hD, n_rf hD (k := 2 + 5 * i + 0) (x := (ad i).1) (r := (ad i).2.2.2.1) ((n_F hi (by omega)).trans rfl) (by decide) rfl, n_rf hD (k := 2 + 5 * j + 0) (x := (ad j).1) (r := (ad j).2.2.2.1) ((n_F hj (by omega)).trans rfl) (by decide) rfl]
    exact n_ne hD (i := 2 + 5 * i + 3) (j := 2 + 5 * j + 3) ⟨_, (n_F hi (by omega)).trans rfl⟩ ⟨_, (n_F hj (by omega)).trans rfl⟩ (by omega)
theorem n_oOK (hD : va_D A (wN cI cJ cH th q0 ad dr fl wk sp x1 y1 sr md m0 m1 m2 m3 m4 m5 m6 m7 m8 m9 o)) : oOK (mkE (wN cI cJ cH th q0 ad dr fl wk sp x1 y1 sr md m0 m1 m2 m3 m4 m5 m6 m7 m8 m9 o) cI cJ cH D r9) md o := by
  have ho : ∃ e, (wN cI cJ cH th q0 ad dr fl wk sp x1 y1 sr md m0 m1 m2 m3 m4 m5 m6 m7 m8 m9 o)[100]? = some (o, e) := ⟨_, (n_T 18).trans rfl⟩
  exact ⟨⟨n_ne hD ho (n_mra hD (by omega)) (by decide), n_ne hD ho (n_mra hD (by omega)) (by decide), n_ne hD ho (n_mra hD (by omega)) (by decide), n_ne hD ho (n_mra hD (by omega)) (by decide), n_ne hD ho (n_mra hD (by omega)) (by decide), n_ne hD ho (n_mra hD (by omega)) (by decide), n_ne hD ho (n_mra hD (by omega)) (by decide)⟩, n_ne hD ho (n_mra hD (by omega)) (by decide)⟩
theorem n_th (hD : va_D A (wN cI cJ cH th q0 ad dr fl wk sp x1 y1 sr md m0 m1 m2 m3 m4 m5 m6 m7 m8 m9 o)) : isK (mkE (wN cI cJ cH th q0 ad dr fl wk sp x1 y1 sr md m0 m1 m2 m3 m4 m5 m6 m7 m8 m9 o) cI cJ cH D r9) 5 th := isK_mk hD ⟨_, List.mem_of_getElem? (i := 0) rfl, rfl⟩
theorem n_md (hD : va_D A (wN cI cJ cH th q0 ad dr fl wk sp x1 y1 sr md m0 m1 m2 m3 m4 m5 m6 m7 m8 m9 o)) : isK (mkE (wN cI cJ cH th q0 ad dr fl wk sp x1 y1 sr md m0 m1 m2 m3 m4 m5 m6 m7 m8 m9 o) cI cJ cH D r9) 6 md := isK_mk hD ⟨_, n_mT 7 rfl, rfl⟩
theorem n_o (hD : va_D A (wN cI cJ cH th q0 ad dr fl wk sp x1 y1 sr md m0 m1 m2 m3 m4 m5 m6 m7 m8 m9 o)) : isK (mkE (wN cI cJ cH th q0 ad dr fl wk sp x1 y1 sr md m0 m1 m2 m3 m4 m5 m6 m7 m8 m9 o) cI cJ cH D r9) 8 o ∧ eN (mkE (wN cI cJ cH th q0 ad dr fl wk sp x1 y1 sr md m0 m1 m2 m3 m4 m5 m6 m7 m8 m9 o) cI cJ cH D r9) o = 1 := isA_mk hD ⟨_, n_mT 18 rfl, rfl, rfl⟩
theorem n_i32 (hD : va_D A (wN cI cJ cH th q0 ad dr fl wk sp x1 y1 sr md m0 m1 m2 m3 m4 m5 m6 m7 m8 m9 o)) {k x c i : Nat} {fs : List Value} {v : Int32} (h : (wN cI cJ cH th q0 ad dr fl wk sp x1 y1 sr md m0 m1 m2 m3 m4 m5 m6 m7 m8 m9 o)[k]? = some (x, .inr (c, fs))) (hr : fs.getD (i % 20) .null = .int v) : r32 (mkZ (wN cI cJ cH th q0 ad dr fl wk sp x1 y1 sr md m0 m1 m2 m3 m4 m5 m6 m7 m8 m9 o)) i x = v := by
  show vI (fV (lk (wN cI cJ cH th q0 ad dr fl wk sp x1 y1 sr md m0 m1 m2 m3 m4 m5 m6 m7 m8 m9 o) x) (i % 20)) = v
  rw [lk_of hD h]
  show vI (fs.getD (i % 20) .null) = v
  rw [hr]
  rfl
theorem n_IV (hD : va_D A (wN cI cJ cH th q0 ad dr fl wk sp x1 y1 sr md m0 m1 m2 m3 m4 m5 m6 m7 m8 m9 o)) : IV (mkE (wN cI cJ cH th q0 ad dr fl wk sp x1 y1 sr md m0 m1 m2 m3 m4 m5 m6 m7 m8 m9 o) cI cJ cH D r9) th md (mkZ (wN cI cJ cH th q0 ad dr fl wk sp x1 y1 sr md m0 m1 m2 m3 m4 m5 m6 m7 m8 m9 o)) := by
  refine ⟨0, fun _ => (0, 0, 0, 0, 0), fun _ => (0, 0, 0, 0, 0), fun _ => 0, ⟨n_i32 hD (k := 0) rfl rfl, by omega, fun i hi => absurd hi (Nat.not_lt_zero i), Or.inl (n_i32 hD (k := 0) rfl rfl)⟩, ⟨by omega, n_i32 hD (k := 82 + 7) ((n_T 7).trans rfl) rfl, fun i hi => absurd hi (Nat.not_lt_zero i)⟩, fun j hj => ?_⟩
  rw [n_mr hD (r := m8) (by decide) rfl]
  show aI (lk (wN cI cJ cH th q0 ad dr fl wk sp x1 y1 sr md m0 m1 m2 m3 m4 m5 m6 m7 m8 m9 o) m8) j = tw1 j
  rw [lk_of hD (k := 82 + 16) ((n_T 16).trans rfl)]
  rfl
end WN
