/-! the model from a flat equation on -/
def mmK (k i : Nat) : Nat := if k = 2 then 1 else if k = 3 then 2 else if k = 4 then 3 else if k = 6 then 5 + i else k
/-- the seven answers -/
def ansv (N k i c sp : Nat) (j : Nat) : Int32 :=
  if k = 1 then (if j = 0 then nI 1 else if j = 1 then nI N else if j = 2 then nI 1 else if j = 3 then nI N else if j = 4 then nI (if sp = 1 then N else if N % 2 = 0 then 2 else 1) else if j = 5 then nI N else nI sp)
  else (if j = 0 then nI k else if j = 1 then nI i else if j = 2 then nI N - nI (mmK k i - 1) else if j = 3 then nI (mmK k i) else if j = 4 then nI c else if j = 5 then nI N else nI 0)
def AnsM (ev : EV) (m : Nat) (z z' : PS) (N k i c sp : Nat) : Prop := Fr ev m z z' ∧ (∀ j, j < 7 → rI z' (rf ev 127 m) j = ansv N k i c sp j) ∧ rI z' (rf ev 127 m) 7 = rI z (rf ev 127 m) 7
theorem sI_v (z : PS) (B : Nat) (k i f mm c n : Int32) : rI (sI z B k i f mm c n) B 0 = k ∧ rI (sI z B k i f mm c n) B 1 = i ∧ rI (sI z B k i f mm c n) B 2 = f ∧ rI (sI z B k i f mm c n) B 3 = mm ∧ rI (sI z B k i f mm c n) B 4 = c ∧ rI (sI z B k i f mm c n) B 5 = n ∧ rI (sI z B k i f mm c n) B 6 = 0 ∧ rI (sI z B k i f mm c n) B 7 = rI z B 7 := by
  simp [sI, wI, rI]
theorem sI_fr (ev : EV) (m : Nat) (z : PS) (k i f mm c n : Int32) : Fr ev m z (sI z (rf ev 127 m) k i f mm c n) := by
  refine ⟨rfl, fun _ _ _ => rfl, fun b j h => ?_, fun _ _ _ _ => rfl⟩
  simp [sI, wI, h]
theorem ans_of {ev : EV} {m : Nat} {z z1 : PS} {N k i c : Nat} (F : Fs ev m z z1) (hk : k ≠ 1) {K I f mm cc n : Int32} (h0 : K = nI k) (h1 : I = nI i) (h2 : f = nI N - nI (mmK k i - 1)) (h3 : mm = nI (mmK k i)) (h4 : cc = nI c) (h5 : n = nI N) : AnsM ev m z (sI z1 (rf ev 127 m) K I f mm cc n) N k i c 0 := by
  obtain ⟨v0, v1, v2, v3, v4, v5, v6, v7⟩ := sI_v z1 (rf ev 127 m) K I f mm cc n
  refine ⟨F.1.tr (sI_fr ev m z1 K I f mm cc n), ?_, ?_⟩
  · intro j hj
    unfold ansv
    rw [if_neg hk]
    rcases (show j = 0 ∨ j = 1 ∨ j = 2 ∨ j = 3 ∨ j = 4 ∨ j = 5 ∨ j = 6 by omega) with rfl | rfl | rfl | rfl | rfl | rfl | rfl
    · rw [v0, if_pos rfl, h0]
    · rw [v1, if_neg (by decide), if_pos rfl, h1]
    · rw [v2, if_neg (by decide), if_neg (by decide), if_pos rfl, h2]
    · rw [v3, if_neg (by decide), if_neg (by decide), if_neg (by decide), if_pos rfl, h3]
    · rw [v4, if_neg (by decide), if_neg (by decide), if_neg (by decide), if_neg (by decide), if_pos rfl, h4]
    · rw [v5, if_neg (by decide), if_neg (by decide), if_neg (by decide), if_neg (by decide), if_neg (by decide), if_pos rfl, h5]
    · rw [v6, if_neg (by decide), if_neg (by decide), if_neg (by decide), if_neg (by decide), if_neg (by decide), if_neg (by decide)]; rfl
  · rw [v7]; simp only [rI]; rw [F.2]
theorem nt_move {p : Int} (hp : p = 2 ∨ p = 3) {E : Cv} {y w R : Int} (h : NT p E) (q3 : a3 E = p ^ 2 * y) (q6 : a6 E = p ^ 4 * (-w)) (hD : p ∣ y * y - 4 * 1 * w) (hR : p ∣ 1 * R * R + y * R + w) : NT2 p (sh E 0 0 (R * p * p)) := by
  have hl : p ∣ y + 2 * R := by
    apply sq_dv hp
    obtain ⟨u, hu⟩ := hD
    obtain ⟨v, hv⟩ := hR
    exact ⟨u + 4 * v, by grind⟩
  obtain ⟨u, hu⟩ := hl
  obtain ⟨v, hv⟩ := hR
  obtain ⟨⟨x1, h1⟩, ⟨x2, h2⟩, -, ⟨x4, h4⟩, -⟩ := h
  clear hD
  simp only [NT2, sh, a1, a2, a3, a4, a6] at *
  rw [h1, h2, h4, q3, q6]
  clear h1 h2 h4 q3 q6
  refine ⟨⟨x1, by grind⟩, ⟨x2, by grind⟩, ⟨u, by grind⟩, ⟨x4 - R * x1, by grind⟩, ⟨-v, by grind⟩⟩
theorem cb_BB {p : Int} {E : Cv} (hF : Fit p E) {r s t b c d : Int} (hp : p = 2 ∨ p = 3) (hr : -1048576 ≤ r ∧ r ≤ 1048576) (hs : -16 ≤ s ∧ s ≤ 16) (ht : -4194304 ≤ t ∧ t ≤ 4194304) (hc : CB p (sh E r s t) b c d) : BB p b c d := by
  rcases hF with h | h
  · exact Or.inl h
  · rcases hp with h' | rfl
    · exact Or.inl h'
    · obtain ⟨-, h2, -, h4, h6⟩ := bnd_sh h hr hs ht
      obtain ⟨e2, e4, e6⟩ := hc
      rw [e2] at h2; rw [e4] at h4; rw [e6] at h6
      refine Or.inr ⟨?_, ?_, ?_, ?_, ?_, ?_⟩ <;> omega
/-- what fallsOn comes to -/
def FoR (ev : EV) (m : Nat) (z : PS) (p : Int) (E : Cv) (N : Nat) (o : Option (Int32 × PS)) (k i c : Nat) : Prop :=
  (k ≠ 10 ∧ k ≠ 1 ∧ ∃ z', o = some (1, z') ∧ AnsM ev m z z' N k i c 0) ∨
  (k = 10 ∧ ∃ r s t z' F, (0 ≤ r ∧ r ≤ 14) ∧ (0 ≤ s ∧ s ≤ 2) ∧ (0 ≤ t ∧ t ≤ 100) ∧ o = some (0, z') ∧ Fs ev m z z' ∧ AM ev m z' (sc F p) ∧ sc F p = sh E r s t)
theorem sc_ex {p : Int} {E : Cv} (h : NT2 p E) (h4 : p ^ 4 ∣ a4 E) (h6 : p ^ 6 ∣ a6 E) : ∃ F, sc F p = E := by
  obtain ⟨⟨x1, k1⟩, ⟨x2, k2⟩, ⟨x3, k3⟩, -, -⟩ := h
  obtain ⟨x4, k4⟩ := h4
  obtain ⟨x6, k6⟩ := h6
  refine ⟨(x1, x2, x3, x4, x6), ?_⟩
  unfold sc
  simp only [a1, a2, a3, a4, a6] at *
  rw [← k1, ← k2, ← k3, ← k4, ← k6]
theorem n_late3 {ev : EV} {m : Nat} {z : PS} {E : Cv} {p : Int} (hp : p = 2 ∨ p = 3) (hF : Fit p E) {r s t : Int} (hr : 0 ≤ r ∧ r ≤ 14) (hs : 0 ≤ s ∧ s ≤ 2) (ht : 0 ≤ t ∧ t ≤ 50) (A : AM ev m z (sh E r s t)) (n3 : NT p (sh E r s t)) (N : Nat) {y w : Int} (q3 : a3 (sh E r s t) = p ^ 2 * y) (q6 : a6 (sh E r s t) = p ^ 4 * (-w)) {X : Int64} {o : Option (Int32 × PS)}
    (ho : o = (ob (g_X8_modulo ((rJ z (rf ev 123 m) 2) / (ph p * ph p)) (ph p)) (fun v10 => ob (g_X8_power (ph p) (4 : Int32)) (fun v11 => ck (¬ v11 = 0) (ob (g_X8_modulo (-((rJ z (rf ev 123 m) 4) / v11)) (ph p)) (fun v13 => ob (g_X8_roots ev z m (ph p) (1 : Int64) v10 v13) (fun qv15 => bd qv15.1 (fun v15 => bd qv15.2 (fun z14 => ob (g_X8_areUnlike (ph p) (1 : Int64) v10 v13) (fun v16 => if v16 = 0 then (ob (g_X8_changes ev z14 m (0 : Int64) (0 : Int64) (((r64 z14 128 m) * ph p) * ph p)) (fun z18 => ob (g_X8_goesIn ev z18 m (ph p) (3 : Int32) (4 : Int32)) (fun v19 => if v19 = 0 then (ob (g_X8_is ev z18 m (8 : Int32) (0 : Int32) (nI N - (7 : Int32)) (8 : Int32) (2 : Int32) (nI N)) (fun z24 => some ((1 : Int32), z24))) else (ob (g_X8_goesIn ev z18 m (ph p) (4 : Int32) (6 : Int32)) (fun v21 => if v21 = 0 then (ob (g_X8_is ev z18 m (9 : Int32) (0 : Int32) (nI N - (8 : Int32)) (9 : Int32) (1 : Int32) (nI N)) (fun z23 => some ((1 : Int32), z23))) else (some ((0 : Int32), z18))))))) else (if v15 ≤ 0 then (ob (g_X8_is ev z14 m (7 : Int32) (0 : Int32) (nI N - (6 : Int32)) (7 : Int32) (1 : Int32) (nI N)) (fun z26 => some ((1 : Int32), z26))) else (ob (g_X8_is ev z14 m (7 : Int32) (0 : Int32) (nI N - (6 : Int32)) (7 : Int32) (3 : Int32) (nI N)) (fun z27 => some ((1 : Int32), z27)))))))))))))) :
    (¬ p ∣ y * y - 4 * 1 * w ∧ ∃ c, ((qr p 1 y w ∧ c = 3) ∨ (¬ qr p 1 y w ∧ c = 1)) ∧ FoR ev m z p E N o 7 0 c) ∨
    (p ∣ y * y - 4 * 1 * w ∧ ∃ E4, Eqv (sh E r s t) E4 ∧ NT2 p E4 ∧ ∃ k c, ((¬ p ^ 4 ∣ a4 E4 ∧ k = 8 ∧ c = 2) ∨ (p ^ 4 ∣ a4 E4 ∧ ¬ p ^ 6 ∣ a6 E4 ∧ k = 9 ∧ c = 1) ∨ (p ^ 4 ∣ a4 E4 ∧ p ^ 6 ∣ a6 E4 ∧ k = 10 ∧ c = 0)) ∧ FoR ev m z p E N o k 0 c) := by
  have f := hF.co (r := r) (s := s) (t := t) (by omega) (by omega) (by omega)
  have hY : g_X8_modulo (ph (a3 (sh E r s t)) / ph (p ^ 2)) (ph p) = some (ph (y % p)) := by
    rw [q3]; exact qm hp (pok1 hp (by omega)) (by rw [← q3]; exact f 2)
  have hZ : g_X8_modulo (-(ph (a6 (sh E r s t)) / ph (p ^ 4))) (ph p) = some (ph (w % p)) := by
    rw [q6]
    have := qm_neg (a := -w) (j := 3) hp (pok1 hp (by omega)) (by rw [← q6]; exact f 4)
    rw [Int.neg_neg] at this
    exact this
  have p4 : g_X8_power (ph p) (4 : Int32) = some (ph (p ^ 4)) := g_power8 p (e := 4) (by omega)
  have o1 : (1 : Int64) = ph (1 % p) := by rcases hp with rfl | rfl <;> rfl
  obtain ⟨kk, z1, r1, r2, r3⟩ := m_roots ev m z hp (em_rng hp (x := 1)) (em_rng hp (x := y)) (em_rng hp (x := w))
  have u1 := m_unl hp (em_rng hp (x := 1)) (em_rng hp (x := y)) (em_rng hp (x := w))
  obtain ⟨i1, i2, i3⟩ := q_mod (p := p) (x := 1) (y := y) (z := w)
  have F1 : Fs ev m z z1 := by
    rcases r3 with ⟨rfl, -, -⟩ | ⟨-, -, R, -, -, -, rfl⟩
    · exact Fs.rf ev m z1
    · exact Fs_root ev m z _
  have A1 : AM ev m z1 (sh E r s t) := by
    rcases r3 with ⟨rfl, -, -⟩ | ⟨-, -, R, -, -, -, rfl⟩
    · exact A
    · exact AM_root A _
  have hkn : (nI kk ≤ (0 : Int32)) ↔ kk = 0 := by
    rw [show (0 : Int32) = nI 0 from rfl, i_le (by omega) (by omega)]; omega
  rw [A.v2, A.v4, ph_pow2 p, hY, ob_e, p4, ob_e, ck_e (pw_n0 (pok1 hp (by omega))), hZ, ob_e, o1, r1, ob_e, bd_e, bd_e, u1, ob_e] at ho
  by_cases hd : p ∣ y * y - 4 * 1 * w
  · right
    refine ⟨hd, ?_⟩
    have hq : qr p (1 % p) (y % p) (w % p) := i2.mpr (dsc_root hp (by rcases hp with rfl | rfl <;> omega) hd)
    obtain ⟨R, g1, g2, g3, g4⟩ : ∃ R, 0 ≤ R ∧ R < p ∧ p ∣ 1 % p * R * R + y % p * R + w % p ∧ z1 = w64 z 128 m (ph R) := by
      rcases r3 with ⟨-, -, h⟩ | ⟨-, -, R, h1, h2, h3, h4⟩
      · exact absurd hq h
      · exact ⟨R, h1, h2, h3, h4⟩
    have hroot : r64 z1 128 m = ph R := by rw [g4]; simp [r64, w64]
    rw [if_pos (i1.mpr hd), if_pos rfl, hroot, ph_mul, ph_mul, l0, n_sh A1, ob_e] at ho
    have n4 := nt_move hp n3 q3 q6 hd ((i3 R).mp g3)
    have hE4 : sh (sh E r s t) 0 0 (R * p * p) = sh E r s (t + R * p * p) := by
      rw [sh_sh]; congr 1 <;> grind
    have A4 : AM ev m (sA z1 (rf ev 123 m) (sh (sh E r s t) 0 0 (R * p * p))) (sh E r s (t + R * p * p)) := by
      rw [← hE4]; exact AM_sA ev m z1 _
    have hRp : 0 ≤ R * p * p ∧ R * p * p ≤ 18 := by
      rcases hp with rfl | rfl
      · rcases (show R = 0 ∨ R = 1 by omega) with rfl | rfl <;> omega
      · rcases (show R = 0 ∨ R = 1 ∨ R = 2 by omega) with rfl | rfl | rfl <;> omega
    have f4 := hF.co (r := r) (s := s) (t := t + R * p * p) (by omega) (by omega) (by omega)
    have w3 : g_X8_goesIn ev (sA z1 (rf ev 123 m) (sh (sh E r s t) 0 0 (R * p * p))) m (ph p) (3 : Int32) (4 : Int32) = some (if p ^ 4 ∣ a4 (sh E r s (t + R * p * p)) then 1 else 0) := n_in A4 (k := 3) (n := 4) (by omega) (pok1 hp (by omega)) (f4 3)
    have w4 : g_X8_goesIn ev (sA z1 (rf ev 123 m) (sh (sh E r s t) 0 0 (R * p * p))) m (ph p) (4 : Int32) (6 : Int32) = some (if p ^ 6 ∣ a6 (sh E r s (t + R * p * p)) then 1 else 0) := n_in A4 (k := 4) (n := 6) (by omega) (pok1 hp (by omega)) (f4 4)
    rw [w3, ob_e, w4] at ho
    have FF : Fs ev m z (sA z1 (rf ev 123 m) (sh (sh E r s t) 0 0 (R * p * p))) := F1.tr (Fs_sA ev m z1 _)
    refine ⟨sh E r s (t + R * p * p), ⟨0, 0, R * p * p, hE4.symm⟩, by rw [← hE4]; exact n4, ?_⟩
    by_cases h4 : p ^ 4 ∣ a4 (sh E r s (t + R * p * p))
    · rw [if_pos h4, if_neg (by decide)] at ho
      simp only [ob_e] at ho
      by_cases h6 : p ^ 6 ∣ a6 (sh E r s (t + R * p * p))
      · rw [if_pos h6, if_neg (by decide)] at ho
        refine ⟨10, 0, Or.inr (Or.inr ⟨h4, h6, rfl, rfl⟩), Or.inr ⟨rfl, ?_⟩⟩
        rw [hE4] at n4
        obtain ⟨F, hFs⟩ := sc_ex n4 h4 h6
        exact ⟨r, s, t + R * p * p, _, F, hr, hs, by omega, ho, FF, by rw [hFs]; exact A4, hFs⟩
      · rw [if_neg h6, if_pos rfl] at ho
        refine ⟨9, 1, Or.inr (Or.inl ⟨h4, h6, rfl, rfl⟩), Or.inl ⟨by omega, by omega, _, ho, ?_⟩⟩
        exact ans_of FF (by omega) rfl rfl rfl rfl rfl rfl
    · rw [if_neg h4, if_pos rfl] at ho
      refine ⟨8, 2, Or.inl ⟨h4, rfl, rfl⟩, Or.inl ⟨by omega, by omega, _, ho, ?_⟩⟩
      exact ans_of FF (by omega) rfl rfl rfl rfl rfl rfl
  · left
    refine ⟨hd, ?_⟩
    rw [if_neg (fun h => hd (i1.mp h)), if_neg (by decide)] at ho
    by_cases hq : qr p 1 y w
    · have h0 : ¬ kk = 0 := by
        rcases r3 with ⟨-, -, h⟩ | ⟨h, -⟩
        · exact absurd (i2.mpr hq) h
        · omega
      rw [if_neg (fun h => h0 (hkn.mp h))] at ho
      exact ⟨3, Or.inl ⟨hq, rfl⟩, Or.inl ⟨by omega, by omega, _, ho, ans_of F1 (by omega) rfl rfl rfl rfl rfl rfl⟩⟩
    · have h0 : kk = 0 := by
        rcases r3 with ⟨-, h, -⟩ | ⟨-, h, -⟩
        · exact h
        · exact absurd (i2.mp h) hq
      rw [if_pos (hkn.mpr h0)] at ho
      exact ⟨1, Or.inr ⟨hq, rfl⟩, Or.inl ⟨by omega, by omega, _, ho, ans_of F1 (by omega) rfl rfl rfl rfl rfl rfl⟩⟩
