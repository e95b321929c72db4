/-! bounds; the model's search for the point -/
theorem mb {x y X Y : Int} (hx : -X ≤ x ∧ x ≤ X) (hy : -Y ≤ y ∧ y ≤ Y) : -(X * Y) ≤ x * y ∧ x * y ≤ X * Y := by
  have hX : 0 ≤ X := by omega
  have hY : 0 ≤ Y := by omega
  have h1 : 0 ≤ (X - x) * (Y - y) := Int.mul_nonneg (by omega) (by omega)
  have h2 : 0 ≤ (X + x) * (Y + y) := Int.mul_nonneg (by omega) (by omega)
  have h3 : 0 ≤ (X - x) * (Y + y) := Int.mul_nonneg (by omega) (by omega)
  have h4 : 0 ≤ (X + x) * (Y - y) := Int.mul_nonneg (by omega) (by omega)
  have e1 : (X - x) * (Y - y) + (X + x) * (Y + y) = 2 * (X * Y) + 2 * (x * y) := by grind
  have e2 : (X - x) * (Y + y) + (X + x) * (Y - y) = 2 * (X * Y) - 2 * (x * y) := by grind
  omega
/-- coefficients that stay in range under the shifts that come -/
def Bnd (E : Cv) : Prop := (-262144 ≤ a1 E ∧ a1 E ≤ 262144) ∧ (-1048576 ≤ a2 E ∧ a2 E ≤ 1048576) ∧ (-2097152 ≤ a3 E ∧ a3 E ≤ 2097152) ∧ (-2147483648 ≤ a4 E ∧ a4 E ≤ 2147483648) ∧ (-35184372088832 ≤ a6 E ∧ a6 E ≤ 35184372088832)
theorem bnd_sh {E : Cv} (h : Bnd E) {r s t : Int} (hr : -1048576 ≤ r ∧ r ≤ 1048576) (hs : -16 ≤ s ∧ s ≤ 16) (ht : -4194304 ≤ t ∧ t ≤ 4194304) :
    (-262200 ≤ a1 (sh E r s t) ∧ a1 (sh E r s t) ≤ 262200) ∧ (-9000000 ≤ a2 (sh E r s t) ∧ a2 (sh E r s t) ≤ 9000000) ∧ (-280000000000 ≤ a3 (sh E r s t) ∧ a3 (sh E r s t) ≤ 280000000000) ∧ (-12000000000000 ≤ a4 (sh E r s t) ∧ a4 (sh E r s t) ≤ 12000000000000) ∧ (-4000000000000000000 ≤ a6 (sh E r s t) ∧ a6 (sh E r s t) ≤ 4000000000000000000) := by
  obtain ⟨h1, h2, h3, h4, h6⟩ := h
  simp only [sh, a1, a2, a3, a4, a6] at *
  have m1 := mb hs h1
  have m2 := mb hs hs
  have m3 := mb hr h1
  have m4 := mb hs h3
  have m5 := mb (show -2097152 ≤ 2 * r ∧ 2 * r ≤ 2097152 by omega) h2
  have m6 := mb hr hs
  have m7 := mb (show -20971520 ≤ t + r * s ∧ t + r * s ≤ 20971520 by omega) h1
  have m8 := mb (show -3145728 ≤ 3 * r ∧ 3 * r ≤ 3145728 by omega) hr
  have m9 := mb (show -32 ≤ 2 * s ∧ 2 * s ≤ 32 by omega) ht
  have n1 := mb hr h4
  have n2 := mb hr hr
  have n3 := mb n2 h2
  have n4 := mb n2 hr
  have n5 := mb ht h3
  have n6 := mb ht ht
  have n7 := mb hr ht
  have n8 := mb n7 h1
  refine ⟨by omega, by omega, by omega, by omega, ?_⟩
  omega
/-- what a curve that is held, or a twist, has -/
def BndS (E : Cv) : Prop := (-131072 ≤ a1 E ∧ a1 E ≤ 131072) ∧ (-131072 ≤ a2 E ∧ a2 E ≤ 131072) ∧ (-131072 ≤ a3 E ∧ a3 E ≤ 131072) ∧ (-1073741824 ≤ a4 E ∧ a4 E ≤ 1073741824) ∧ (-17592186044416 ≤ a6 E ∧ a6 E ≤ 17592186044416)
theorem bndS_sh {E : Cv} (h : BndS E) {r s t : Int} (hr : 0 ≤ r ∧ r ≤ 14) (hs : 0 ≤ s ∧ s ≤ 2) (ht : 0 ≤ t ∧ t ≤ 200) : Bnd (sh E r s t) := by
  obtain ⟨h1, h2, h3, h4, h6⟩ := h
  unfold Bnd
  simp only [sh, a1, a2, a3, a4, a6] at *
  have m1 := mb (show -2 ≤ s ∧ s ≤ 2 by omega) h1
  have m2 := mb (show -2 ≤ s ∧ s ≤ 2 by omega) (show -2 ≤ s ∧ s ≤ 2 by omega)
  have m3 := mb (show -14 ≤ r ∧ r ≤ 14 by omega) h1
  have m4 := mb (show -2 ≤ s ∧ s ≤ 2 by omega) h3
  have m5 := mb (show -28 ≤ 2 * r ∧ 2 * r ≤ 28 by omega) h2
  have m6 := mb (show -14 ≤ r ∧ r ≤ 14 by omega) (show -2 ≤ s ∧ s ≤ 2 by omega)
  have m7 := mb (show -228 ≤ t + r * s ∧ t + r * s ≤ 228 by omega) h1
  have m8 := mb (show -42 ≤ 3 * r ∧ 3 * r ≤ 42 by omega) (show -14 ≤ r ∧ r ≤ 14 by omega)
  have m9 := mb (show -4 ≤ 2 * s ∧ 2 * s ≤ 4 by omega) (show -200 ≤ t ∧ t ≤ 200 by omega)
  have n1 := mb (show -14 ≤ r ∧ r ≤ 14 by omega) h4
  have n2 := mb (show -14 ≤ r ∧ r ≤ 14 by omega) (show -14 ≤ r ∧ r ≤ 14 by omega)
  have n3 := mb n2 h2
  have n4 := mb n2 (show -14 ≤ r ∧ r ≤ 14 by omega)
  have n5 := mb (show -200 ≤ t ∧ t ≤ 200 by omega) h3
  have n6 := mb (show -200 ≤ t ∧ t ≤ 200 by omega) (show -200 ≤ t ∧ t ≤ 200 by omega)
  have n7 := mb (show -14 ≤ r ∧ r ≤ 14 by omega) (show -200 ≤ t ∧ t ≤ 200 by omega)
  have n8 := mb n7 h1
  refine ⟨by omega, by omega, by omega, by omega, by omega⟩
theorem bnd_in {E : Cv} (h : Bnd E) {r s t : Int} (hr : -1048576 ≤ r ∧ r ≤ 1048576) (hs : -16 ≤ s ∧ s ≤ 16) (ht : -4194304 ≤ t ∧ t ≤ 4194304) {k : Nat} : inR (co (sh E r s t) k) := by
  obtain ⟨h1, h2, h3, h4, h6⟩ := bnd_sh h hr hs ht
  unfold co
  split
  · constructor <;> omega
  split
  · constructor <;> omega
  split
  · constructor <;> omega
  split <;> constructor <;> omega
/-- the equation is within bounds, or p is 2 -/
def Fit (p : Int) (E : Cv) : Prop := p = 2 ∨ Bnd E
theorem Fit.co {p : Int} {E : Cv} (h : Fit p E) {r s t : Int} (hr : -1048576 ≤ r ∧ r ≤ 1048576) (hs : -16 ≤ s ∧ s ≤ 16) (ht : -4194304 ≤ t ∧ t ≤ 4194304) (k : Nat) : fit p (co (sh E r s t) k) := by
  rcases h with h | h
  · exact Or.inl h
  · exact Or.inr (bnd_in h hr hs ht)
theorem pok1 {p : Int} (hp : p = 2 ∨ p = 3) {n : Nat} (h : n ≤ 39) : pok p n := by
  rcases hp with h' | h'
  · exact Or.inl ⟨h', by omega⟩
  · exact Or.inr ⟨h', by omega⟩
theorem sh_back (E : Cv) (r t : Int) : sh (sh E r 0 t) (-r) 0 0 = sh E 0 0 t := by rw [sh_sh]; congr 1 <;> omega
theorem sh_back2 (E : Cv) (t : Int) : sh (sh E 0 0 t) 0 0 (-t) = E := by
  rw [sh_sh]
  have : t + -t + 0 * 0 = 0 := by omega
  rw [this]; exact sh_0 E
theorem sh_fwd (E : Cv) (r t : Int) : sh (sh E 0 0 t) r 0 0 = sh E r 0 t := by
  rw [sh_sh]
  have e1 : (0 : Int) + r = r := by omega
  have e2 : t + 0 + 0 * r = t := by omega
  rw [e1, e2]; rfl
theorem z_R : inR 0 := ⟨by omega, by omega⟩
theorem ms_go (ev : EV) (m : Nat) (z : PS) (E : Cv) {p : Int} (hp : p = 2 ∨ p = 3) (k5 : Int64 → Int64 → Int64 → PS → Option PS) {r t : Int} (ht : 0 ≤ t ∧ t < p) (hr : 0 ≤ r ∧ r < p) :
    q_X8_comesToMidst_35 ev m k5 (ph p) (ph r) (ph t) (sA z (rf ev 123 m) (sh E r 0 t)) = (if t + 1 = p then k5 (ph p) (ph (r + 1)) (ph 0) (sA z (rf ev 123 m) (sh E (r + 1) 0 0)) else k5 (ph p) (ph r) (ph (t + 1)) (sA z (rf ev 123 m) (sh E r 0 (t + 1)))) := by
  have hpR : inR p := ⟨by omega, by omega⟩
  have hp0 : ¬ ph p = 0 := by rw [l0, ph_eq hpR z_R]; omega
  unfold q_X8_comesToMidst_35
  rw [ph_neg, l0, n_sh (AM_sA ev m z _), ob_e, sh_back, sA_sA, ph_neg, n_sh (AM_sA ev m z _), ob_e, sh_back2, sA_sA, bd_e, l1, ph_add]
  unfold q_X8_comesToMidst_71
  simp only [bd_e, ck_e hp0, ← l0]
  have j : jr64 (ph (t + 1)) (ph p) = ph (if t + 1 = p then 0 else t + 1) := by
    rw [jr_ph ⟨by omega, by omega⟩ hpR (by omega)]
    congr 1
    rw [Int.tmod_eq_emod_of_nonneg (by omega)]
    by_cases h : t + 1 = p
    · rw [if_pos h, h, Int.emod_self]
    · rw [if_neg h, Int.emod_eq_of_lt (by omega) (by omega)]
  rw [j]
  by_cases h : t + 1 = p
  · rw [if_pos (by rw [h]), if_pos h, if_pos h]
    rw [l0, ph_add, n_sh (AM_sA ev m z E), ob_e, sA_sA, n_sh (AM_sA ev m z _), ob_e, sA_sA, sh_fwd]
  · rw [if_neg (by rw [ph_eq ⟨by omega, by omega⟩ hpR]; exact h), if_neg h, if_neg h]
    rw [l0, ph_add, n_sh (AM_sA ev m z E), ob_e, sA_sA, n_sh (AM_sA ev m z _), ob_e, sA_sA, sh_fwd, show r + 0 = r by omega]
theorem ms_head (ev : EV) (m n : Nat) (z : PS) (E : Cv) {p : Int} (hp : p = 2 ∨ p = 3) (hF : Fit p E) {r t : Int} (ht : 0 ≤ t ∧ t < p) (hr : 0 ≤ r ∧ r < p) :
    (N1 p (sh E r 0 t) → q_X8_comesToMidst_5 ev m (n + 1) (ph p) (ph r) (ph t) (sA z (rf ev 123 m) (sh E r 0 t)) = some (sA z (rf ev 123 m) (sh E r 0 t))) ∧
    (¬ N1 p (sh E r 0 t) → q_X8_comesToMidst_5 ev m (n + 1) (ph p) (ph r) (ph t) (sA z (rf ev 123 m) (sh E r 0 t)) = q_X8_comesToMidst_35 ev m (q_X8_comesToMidst_5 ev m n) (ph p) (ph r) (ph t) (sA z (rf ev 123 m) (sh E r 0 t))) := by
  have f := hF.co (r := r) (s := 0) (t := t) (by omega) (by omega) (by omega)
  have A := AM_sA ev m z (sh E r 0 t)
  have i2 := n_in A (k := 2) (n := 1) (by omega) (pok1 hp (by omega)) (f 2)
  have i3 := n_in A (k := 3) (n := 1) (by omega) (pok1 hp (by omega)) (f 3)
  have i4 := n_in A (k := 4) (n := 1) (by omega) (pok1 hp (by omega)) (f 4)
  rw [Int.pow_one] at i2 i3 i4
  have e2 : co (sh E r 0 t) 2 = a3 (sh E r 0 t) := rfl
  have e3 : co (sh E r 0 t) 3 = a4 (sh E r 0 t) := rfl
  have e4 : co (sh E r 0 t) 4 = a6 (sh E r 0 t) := rfl
  rw [e2] at i2; rw [e3] at i3; rw [e4] at i4
  rw [q_X8_comesToMidst_5]
  have w2 : g_X8_goesIn ev (sA z (rf ev 123 m) (sh E r 0 t)) m (ph p) (2 : Int32) (1 : Int32) = _ := i2
  have w3 : g_X8_goesIn ev (sA z (rf ev 123 m) (sh E r 0 t)) m (ph p) (3 : Int32) (1 : Int32) = _ := i3
  have w4 : g_X8_goesIn ev (sA z (rf ev 123 m) (sh E r 0 t)) m (ph p) (4 : Int32) (1 : Int32) = _ := i4
  rw [w2, w3, w4]
  simp only [ob_e]
  have d1 : ¬ (1 : Int32) = 0 := by decide
  constructor
  · intro ⟨h3, h4, h6⟩
    rw [if_pos h3, if_neg d1, if_pos h4, if_neg d1, if_pos h6, if_neg d1]
  · intro hn
    by_cases h3 : p ∣ a3 (sh E r 0 t)
    · rw [if_pos h3, if_neg d1]
      by_cases h4 : p ∣ a4 (sh E r 0 t)
      · rw [if_pos h4, if_neg d1]
        by_cases h6 : p ∣ a6 (sh E r 0 t)
        · exact absurd ⟨h3, h4, h6⟩ hn
        · rw [if_neg h6, if_pos rfl]
      · rw [if_neg h4, if_pos rfl]
    · rw [if_neg h3, if_pos rfl]
/-- the search ends at the first place from here on -/
theorem ms_loop (ev : EV) (m : Nat) (z : PS) (E : Cv) {p : Int} (hp : p = 2 ∨ p = 3) (hF : Fit p E) {r' t' : Int} (ht' : 0 ≤ t' ∧ t' < p) (hr' : 0 ≤ r' ∧ r' < p) (hN : N1 p (sh E r' 0 t')) : ∀ (d n : Nat) (r t : Int), 0 ≤ t ∧ t < p → 0 ≤ r ∧ r < p → p * r' + t' = p * r + t + d →
    ∃ R T, 0 ≤ R ∧ R < p ∧ 0 ≤ T ∧ T < p ∧ N1 p (sh E R 0 T) ∧ q_X8_comesToMidst_5 ev m (n + d + 1) (ph p) (ph r) (ph t) (sA z (rf ev 123 m) (sh E r 0 t)) = some (sA z (rf ev 123 m) (sh E R 0 T)) := by
  intro d
  induction d with
  | zero =>
    intro n r t ht hr he
    have e1 : r' = r := by rcases hp with rfl | rfl <;> omega
    have e2 : t' = t := by rcases hp with rfl | rfl <;> omega
    subst e1; subst e2
    exact ⟨r', t', hr.1, hr.2, ht.1, ht.2, hN, (ms_head ev m (n + 0) z E hp hF ht hr).1 hN⟩
  | succ d ih =>
    intro n r t ht hr he
    by_cases h : N1 p (sh E r 0 t)
    · exact ⟨r, t, hr.1, hr.2, ht.1, ht.2, h, (ms_head ev m (n + (d + 1)) z E hp hF ht hr).1 h⟩
    · rw [(ms_head ev m (n + (d + 1)) z E hp hF ht hr).2 h, ms_go ev m z E hp _ ht hr]
      by_cases h1 : t + 1 = p
      · rw [if_pos h1]
        exact ih n (r + 1) 0 (by omega) (by rcases hp with rfl | rfl <;> omega) (by rcases hp with rfl | rfl <;> omega)
      · rw [if_neg h1]
        exact ih n r (t + 1) (by omega) hr (by omega)
theorem n_midst {ev : EV} {m : Nat} {z : PS} {E : Cv} (A : AM ev m z E) {p : Int} (hp : p = 2 ∨ p = 3) (hF : Fit p E) (hD : p ∣ dd E) :
    ∃ R T, 0 ≤ R ∧ R < p ∧ 0 ≤ T ∧ T < p ∧ N1 p (sh E R 0 T) ∧ g_X8_comesToMidst ev z m (ph p) = some (sA z (rf ev 123 m) (sh E R 0 T)) := by
  have key : ∃ r' t', (0 ≤ t' ∧ t' < p) ∧ (0 ≤ r' ∧ r' < p) ∧ N1 p (sh E r' 0 t') := by
    rcases hp with rfl | rfl
    · obtain ⟨r, t, h1, h2, h3⟩ := n1_ex2 hD
      exact ⟨r, t, by omega, by omega, h3⟩
    · obtain ⟨r, h1, h3⟩ := n1_ex3 hD
      refine ⟨r, (a3 E + r * a1 E) % 3, by omega, by omega, ?_⟩
      have e : sh E r 0 ((a3 E + r * a1 E) % 3) = sh (sh E r 0 (a3 E + r * a1 E)) 0 0 (-(3 * ((a3 E + r * a1 E) / 3))) := by
        rw [sh_sh]
        congr 1
        · omega
        · generalize a3 E + r * a1 E = w; omega
      rw [e]
      generalize sh E r 0 (a3 E + r * a1 E) = F at h3
      generalize (a3 E + r * a1 E) / 3 = w
      obtain ⟨⟨x3, k3⟩, ⟨x4, k4⟩, ⟨x6, k6⟩⟩ := h3
      simp only [N1, sh, a1, a2, a3, a4, a6] at *
      rw [k3, k4, k6]
      exact ⟨⟨x3 - 2 * w, by grind⟩, ⟨x4 + w * F.1, by grind⟩, ⟨x6 + 3 * w * x3 - 3 * w * w, by grind⟩⟩
  obtain ⟨r', t', ht', hr', hN⟩ := key
  obtain ⟨d, hd⟩ : ∃ d : Nat, p * r' + t' = p * 0 + 0 + d := ⟨(p * r' + t').toNat, by
    have : 0 ≤ p * r' := Int.mul_nonneg (by omega) hr'.1
    omega⟩
  have hd9 : d < 1000000000000 := by
    have : p * r' ≤ 3 * 3 := by rcases hp with rfl | rfl <;> omega
    omega
  obtain ⟨n, hn⟩ := FU_ge hd9
  obtain ⟨R, T, h1, h2, h3, h4, h5, h6⟩ := ms_loop ev m z E hp hF ht' hr' hN d n 0 0 (by omega) (by omega) hd
  refine ⟨R, T, h1, h2, h3, h4, h5, ?_⟩
  unfold g_X8_comesToMidst
  rw [hn, l0]
  rw [sh_0, A.eq] at h6
  exact h6
