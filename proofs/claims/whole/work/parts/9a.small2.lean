/-! the reference's small points -/
def MPt (ev : EV) (m : Nat) (z : PS) (l : List (Int × Int)) : Prop := r32 z 135 m = nI l.length ∧ ∀ (i : Nat) (x y : Int), l[i]? = some (x, y) → rJ z (rf ev 134 m) (2 * i) = ph x ∧ rJ z (rf ev 134 m) (2 * i + 1) = ph y
def Fmp (ev : EV) (m : Nat) (z z' : PS) : Prop := z'.2.1 = z.2.1 ∧ z'.2.2.1 = z.2.2.1 ∧ (∀ i x, ¬ (i = 135 ∧ x = m) → z'.1 i x = z.1 i x) ∧ (∀ b j, b ≠ rf ev 134 m → z'.2.2.2 b j = z.2.2.2 b j)
theorem Fmp.rf (ev : EV) (m : Nat) (z : PS) : Fmp ev m z z := ⟨rfl, rfl, fun _ _ _ => rfl, fun _ _ _ => rfl⟩
theorem Fmp.tr {ev : EV} {m : Nat} {x y z : PS} (h : Fmp ev m x y) (h' : Fmp ev m y z) : Fmp ev m x z := ⟨h'.1.trans h.1, h'.2.1.trans h.2.1, fun i w hw => (h'.2.2.1 i w hw).trans (h.2.2.1 i w hw), fun b j h1 => (h'.2.2.2 b j h1).trans (h.2.2.2 b j h1)⟩
theorem Fmp.fm {ev : EV} {m : Nat} {z z' : PS} (h : Fmp ev m z z') : FM ev m z z' :=
  ⟨fun i x hx => h.2.2.1 i x (fun hh => hx ⟨Or.inr (Or.inr hh.1), hh.2⟩), fun i x _ => by rw [h.1], fun b j _ => by rw [h.2.1], fun b j hb => h.2.2.2 b j hb.2.2.2.2.2.2⟩
theorem Fmp.am {ev : EV} {m : Nat} (hD : DM ev m) {z z' : PS} (h : Fmp ev m z z') {E : Cv} (A : AM ev m z E) : AM ev m z' E := fun k hk => (h.2.2.2 _ k (hD.ne 123 134)).trans (A k hk)
theorem m_adds {ev : EV} {m : Nat} {z : PS} {l : List (Int × Int)} (P : MPt ev m z l) (hl : l.length < 242) (x y : Int) : ∃ z', g_X8_adds ev z m (ph x) (ph y) = some z' ∧ MPt ev m z' (l ++ [(x, y)]) ∧ Fmp ev m z z' := by
  obtain ⟨p1, p2⟩ := P
  refine ⟨w32 (wJ (wJ z (rf ev 134 m) (2 * l.length) (ph x)) (rf ev 134 m) (2 * l.length + 1) (ph y)) 135 m (nI (l.length + 1)), ?_, ⟨?_, ?_⟩, rfl, rfl, ?_, ?_⟩
  · unfold g_X8_adds
    rw [p1, i_mul2, ck_e (inB_n (show 2 * l.length < 484 by omega) (by omega)), nI_clamp (by omega), bd_e]
    rw [show r32 (wJ z (rf ev 134 m) (2 * l.length) (ph x)) 135 m = nI l.length from p1, i_mul2, nI_s, ck_e (inB_n (show 2 * l.length + 1 < 484 by omega) (by omega)), nI_clamp (by omega), bd_e]
    rw [show r32 (wJ (wJ z (rf ev 134 m) (2 * l.length) (ph x)) (rf ev 134 m) (2 * l.length + 1) (ph y)) 135 m = nI l.length from p1, bd_e, bd_e, nI_s]
  · rw [r32_eq, List.length_append]; rfl
  · intro i x' y' hi
    show rJ (wJ (wJ z (rf ev 134 m) (2 * l.length) (ph x)) (rf ev 134 m) (2 * l.length + 1) (ph y)) (rf ev 134 m) (2 * i) = _ ∧ rJ (wJ (wJ z (rf ev 134 m) (2 * l.length) (ph x)) (rf ev 134 m) (2 * l.length + 1) (ph y)) (rf ev 134 m) (2 * i + 1) = _
    rcases get_app hi with ⟨g, h⟩ | ⟨g, h⟩
    · obtain ⟨q1, q2⟩ := p2 i x' y' h
      rw [wr_ne _ _ _ (by omega), wr_ne _ _ _ (by omega), wr_ne _ _ _ (by omega), wr_ne _ _ _ (by omega)]
      exact ⟨q1, q2⟩
    · have e1 := congrArg Prod.fst h
      have e2 := congrArg Prod.snd h
      dsimp only at e1 e2
      subst e1
      subst e2
      subst g
      rw [wr_ne _ _ _ (by omega), wr_eq, wr_eq]
      exact ⟨rfl, rfl⟩
  · intro i w hw
    show (if _ then _ else _) = _
    rw [if_neg hw]; rfl
  · intro b j h1
    show rJ (wJ (wJ z (rf ev 134 m) (2 * l.length) (ph x)) (rf ev 134 m) (2 * l.length + 1) (ph y)) b j = rJ z b j
    simp [rJ, wJ, h1]
theorem lp_go {ev : EV} {m : Nat} (hD : DM ev m) {E : Cv} (hs : S5 E) : ∀ (d n k : Nat) (z : PS), k + d = 121 → AM ev m z E → MPt ev m z (spL E k) → ∃ z', q_X8_laysPoints_9 ev m (n + d + 1) (ph ((k : Int) - 60)) z = some z' ∧ MPt ev m z' (spL E 121) ∧ Fmp ev m z z' := by
  intro d
  induction d with
  | zero =>
    intro n k z hk hE P
    have : k = 121 := by omega
    subst this
    exact ⟨z, by rw [q_X8_laysPoints_9, if_pos (by rw [show (60 : Int64) = ph 60 from rfl, ph_lt ⟨by omega, by omega⟩ ⟨by omega, by omega⟩]; omega)], P, Fmp.rf ev m z⟩
  | succ d ih =>
    intro n k z hk A P
    have hx : -60 ≤ (k : Int) - 60 ∧ (k : Int) - 60 ≤ 60 := by omega
    obtain ⟨r1, r2⟩ := sp_rng hs hx
    obtain ⟨-, -, len⟩ := spL_in hs k (by omega)
    have ek : ((k : Int) - 60) + 1 = ((k + 1 : Nat) : Int) - 60 := by omega
    have nxt : ∀ z1, MPt ev m z1 (spL E k ++ spAt E ((k : Int) - 60)) → Fmp ev m z z1 → ∃ z', q_X8_laysPoints_9 ev m (n + (d + 1)) (ph ((k : Int) - 60 + 1)) z1 = some z' ∧ MPt ev m z' (spL E 121) ∧ Fmp ev m z z' := by
      intro z1 P1 F1
      obtain ⟨z', a, b, c⟩ := ih n (k + 1) z1 (by omega) (F1.am hD A) P1
      rw [ek]
      exact ⟨z', a, b, F1.tr c⟩
    have A0 : rJ z (rf ev 123 m) 0 = ph (a1 E) := A 0 (by omega)
    have A1 : rJ z (rf ev 123 m) 1 = ph (a2 E) := A 1 (by omega)
    have A2 : rJ z (rf ev 123 m) 2 = ph (a3 E) := A 2 (by omega)
    have A3 : rJ z (rf ev 123 m) 3 = ph (a4 E) := A 3 (by omega)
    have A4 : rJ z (rf ev 123 m) 4 = ph (a6 E) := A 4 (by omega)
    generalize hX : (k : Int) - 60 = X at *
    have eD : (a1 E * X + a3 E) * (a1 E * X + a3 E) + 4 * (X * X * X + a2 E * X * X + a4 E * X + a6 E) = spD E X := by unfold spD; grind
    rw [q_X8_laysPoints_9, if_neg (by rw [show (60 : Int64) = ph 60 from rfl, ph_lt ⟨by omega, by omega⟩ ⟨by omega, by omega⟩]; omega), A0, A1, A2, A3, A4, l4]
    simp only [ph_mul, ph_add, bd_e]
    rw [eD]
    by_cases c0 : spD E X < 0
    · rw [if_neg (by rw [l0, ph_le z_R ⟨by omega, by omega⟩]; omega)]
      unfold q_X8_laysPoints_91
      rw [if_pos (by rw [l0, ph_lt ⟨by omega, by omega⟩ z_R]; exact c0), l1, ph_add, bd_e]
      refine nxt z ?_ (Fmp.rf ev m z)
      rw [spAt_0 (fun ⟨w, h1, h2⟩ => by have := Int.mul_nonneg h1 h1; omega), List.append_nil]
      exact P
    · obtain ⟨r, hr, hr2, er⟩ := m_sqrt (d := spD E X) (by omega) (by omega)
      have rr := mb (X := 3000000000) (Y := 3000000000) (x := r) (y := r) (by have := hr.1; omega) (by have := hr.1; omega)
      rw [if_pos (by rw [l0, ph_le z_R ⟨by omega, by omega⟩]; omega), er, ob_e]
      unfold q_X8_laysPoints_91
      rw [if_neg (by rw [l0, ph_lt ⟨by omega, by omega⟩ z_R]; exact c0), ph_mul]
      by_cases c1 : r * r = spD E X
      · have w7 := sp_w hs hx hr.1 c1
        have r0 := hr.1
        obtain ⟨q, q', e1, e2⟩ := sp_par c1
        have y1 : (-(a1 E * X + a3 E) - r) / 2 = q := by omega
        have y2 : (-(a1 E * X + a3 E) + r) / 2 = q' := by omega
        rw [if_pos (by rw [c1]), ph_neg, ph_sub, e1, l2, dvx (by omega) ⟨by omega, by omega⟩ ⟨by omega, by omega⟩]
        obtain ⟨z1, a1', a2', a3'⟩ := m_adds P (by omega) X q
        rw [a1', ob_e]
        rw [spAt_1 hr.1 c1, y1, y2] at nxt
        by_cases c2 : r = 0
        · rw [if_pos (by rw [c2]; exact Int64.le_refl _), l1, ph_add, bd_e]
          rw [if_pos c2] at nxt
          exact nxt z1 a2' a3'
        · obtain ⟨z2, b1, b2', b3⟩ := m_adds a2' (by rw [List.length_append]; show _ + 1 < 242; omega) X q'
          rw [if_neg (by rw [l0, ph_le ⟨by omega, by omega⟩ z_R]; omega), ph_sub, show r - (a1 E * X + a3 E) = 2 * q' by omega, dvx (by omega) ⟨by omega, by omega⟩ ⟨by omega, by omega⟩, b1, ob_e, l1, ph_add, bd_e]
          rw [if_neg c2] at nxt
          refine nxt z2 ?_ (a3'.tr b3)
          rw [List.append_assoc] at b2'
          exact b2'
      · rw [if_neg (by rw [ph_eq ⟨by omega, by omega⟩ ⟨by omega, by omega⟩]; exact c1), l1, ph_add, bd_e]
        refine nxt z ?_ (Fmp.rf ev m z)
        rw [spAt_0 (fun ⟨w, h1, h2⟩ => by have := hr.one h1 h2; subst this; exact c1 h2), List.append_nil]
        exact P
theorem m_lp {ev : EV} {m : Nat} (hD : DM ev m) {E : Cv} (hs : S5 E) {z : PS} (A : AM ev m z E) : ∃ z', g_X8_laysPoints ev z m = some z' ∧ MPt ev m z' (spL E 121) ∧ Fmp ev m z z' := by
  obtain ⟨n, hn⟩ := FU_ge (d := 121) (by omega)
  have F0 : Fmp ev m z (w32 z 135 m 0) := ⟨rfl, rfl, fun i x h => by show (if _ then _ else _) = _; rw [if_neg h], fun _ _ _ => rfl⟩
  obtain ⟨z', a, b, c⟩ := lp_go hD hs 121 n 0 (w32 z 135 m 0) (by omega) A ⟨r32_eq _ _ _ _, fun i x y h => by simp [spL] at h⟩
  refine ⟨z', ?_, b, F0.tr c⟩
  unfold g_X8_laysPoints
  rw [bd_e, hn]
  exact a
/-! the class's, of a held one -/
theorem c_fsp {ev : EV} {th m : Nat} (S : Sep ev th m) {z : PS} {n : Nat} {C L : Nat → Cv} {U : Nat → Int} (I : CI ev th z n C L U) {c : Nat} (hc : c < n) : ∃ z', g_X7_findSmallPoints ev z th (nI c) = some z' ∧ CI ev th z' n C L U ∧ MU ev m z z' ∧ SPt ev (rf ev 104 th) z' (spL (C c) 121) := by
  obtain ⟨i1, i2, i3, i4⟩ := id I
  obtain ⟨f1, f2, f3, f4, f5⟩ := i3 c hc
  unfold g_X7_findSmallPoints
  by_cases h : r32 z 105 th = nI c
  · rw [if_pos h]
    refine ⟨z, rfl, I, MU.rf ev m z, ?_⟩
    rcases i4 with i4 | ⟨d, d1, d2, d3⟩
    · rw [i4] at h
      have := congrArg Int32.toInt h
      rw [nI_toInt (by omega), show (-1 : Int32).toInt = -1 by decide] at this
      omega
    · rw [h, nI_eq (by omega) (by omega)] at d2
      subst d2
      exact d3
  · obtain ⟨z2, a1', a2', a3', a4', a5', a6'⟩ := c_findp (ev := ev) S.aa.1 f4.2.1 f1
    have P' : SPt ev (rf ev 104 th) (w32 z2 105 th (nI c)) (spL (C c) 121) := ⟨(r32_ne _ _ _ _ (by decide)).trans a2'.1, a2'.2⟩
    refine ⟨w32 z2 105 th (nI c), ?_, ⟨?_, i2, ?_, Or.inr ⟨c, hc, r32_eq _ _ _ _, P'⟩⟩, ⟨?_, ?_, a4'⟩, P'⟩
    · rw [if_neg h, ck_e (inB_n (show c < 16 by omega) (by omega)), nI_clamp (by omega), a1', ob_e, bd_e]
    · exact (r32_ne _ _ _ _ (by decide)).trans ((a5' 101 th (by omega)).trans i1)
    · intro i hi
      obtain ⟨n1, n2, -⟩ := S.pa (i := i) (by omega)
      exact (i3 i hi).cg (fun k _ => by show z2.2.1 _ _ = _; rw [a3']) (fun k _ => by show z2.2.1 _ _ = _; rw [a3']) (by show z2.2.1 _ _ = _; rw [a3']) ((r32_ne _ _ _ _ (by decide)).trans (a5' 44 _ (by omega))) ((r32_ne _ _ _ _ (by decide)).trans (a5' 61 _ (by omega))) (fun j => a6' _ j n1 n2)
    · intro i x hi
      exact (r32_ne _ _ _ _ (by omega)).trans (a5' i x (by omega))
    · intro j
      obtain ⟨-, ⟨-, -, n3⟩, ⟨-, -, n6⟩, -⟩ := S.aa
      exact a6' _ j (fun e => n3 e.symm) (fun e => n6 e.symm)
theorem op_small {ev : EV} {th m : Nat} (S : Sep ev th m) {z : PS} (I : IV ev th m z) (l1 : Int32) : OP ev th m (g_X7_small ev z th l1) (fun z1 => g_X8_small ev z1 m l1) := by
  obtain ⟨n, C, L, U, I⟩ := I
  have hD := S.2.2.2
  have h16 := I.1.2.1
  have M0 := I.2.fm hD (w120 ev m z 0)
  have w0 := IV.w0 S I (NEU.rf ev th m z) (MU.rf ev m z) 0
  by_cases hc : ∃ c, c < n ∧ l1 = nI c
  · obtain ⟨c, c1, rfl⟩ := hc
    obtain ⟨f1, f2, f3, f4, f5⟩ := I.1.he c1
    obtain ⟨z1, a1', a2', a3', a4'⟩ := c_fsp (m := m) S I.1 c1
    have M1 := (I.2.mu a3').fm hD (w120 ev m z1 0)
    obtain ⟨z2, b1, b2', b3⟩ := m_lp hD f4.2.1 (AM_sA ev m (w32 z1 120 m 0) (C c))
    refine ⟨nI (spL (C c) 121).length, z1, z2, ?_, ?_, IV.mk (INV.fm S a2' I.2 a3' (((w120 ev m z1 0).tr (FM_sA ev m _ (C c) (Or.inl rfl))).tr b3.fm))⟩
    · unfold g_X7_small
      rw [c_th1 I.1.1 h16 c1, ob_e, if_neg ne10, a1', ob_e, a4'.1]
    · dsimp only
      unfold g_X8_small
      rw [bd_e, m_th1 M1.1.2.1 h16 c1, ob_e, if_neg ne10, n_loads hD M1.1 c1, ob_e, b1, ob_e, b2'.1]
  · refine ⟨-1, z, w32 z 120 m 0, ?_, ?_, w0⟩
    · unfold g_X7_small; rw [c_th0 I.1.1 h16 hc, ob_e, if_pos rfl]
    · dsimp only; unfold g_X8_small; rw [bd_e, m_th0 M0.1.2.1 h16 hc, ob_e, if_pos rfl]
/-! minus -/
def mt (E : Cv) (a b : Int × Int) : Prop := b.1 = a.1 ∧ b.2 = -a.2 - a1 E * a.1 - a3 E
theorem mt_one {E : Cv} {l : List (Int × Int)} (hn : l.Nodup) {a : Int × Int} {i j : Nat} {b c : Int × Int} (hi : l[i]? = some b) (hj : l[j]? = some c) (h1 : mt E a b) (h2 : mt E a c) : i = j := by
  have e : b = c := Prod.ext (h1.1.trans h2.1.symm) (h1.2.trans h2.2.symm)
  subst e
  exact (List.getElem?_inj (List.getElem?_eq_some_iff.mp hi).1 hn).mp (hi.trans hj.symm)
def Pin (p : Int × Int) : Prop := (-60 ≤ p.1 ∧ p.1 ≤ 60) ∧ (-10000000 ≤ p.2 ∧ p.2 ≤ 10000000)
theorem mt_b {E : Cv} (hs : S5 E) {a : Int × Int} (ha : Pin a) : -20000000 ≤ -a.2 - a1 E * a.1 - a3 E ∧ -a.2 - a1 E * a.1 - a3 E ≤ 20000000 := by
  obtain ⟨p1, p2⟩ := ha
  have := (sp_rng hs p1).1
  omega
noncomputable def fnd (E : Cv) (l : List (Int × Int)) (a : Int × Int) : Int32 := @ite _ (∃ (i : Nat) (b : Int × Int), l[i]? = some b ∧ mt E a b) (Classical.propDecidable _) (nI (Classical.epsilon (fun i : Nat => ∃ b, l[i]? = some b ∧ mt E a b))) (-1)
theorem fnd_1 {E : Cv} {l : List (Int × Int)} (hn : l.Nodup) {a b : Int × Int} {i : Nat} (hi : l[i]? = some b) (h : mt E a b) : fnd E l a = nI i := by
  unfold fnd
  rw [if_pos ⟨i, b, hi, h⟩]
  obtain ⟨c, c1, c2⟩ := Classical.epsilon_spec (p := fun i => ∃ b, l[i]? = some b ∧ mt E a b) ⟨i, b, hi, h⟩
  rw [mt_one hn c1 hi c2 h]
theorem fnd_0 {E : Cv} {l : List (Int × Int)} {a : Int × Int} (h : ¬ ∃ (i : Nat) (b : Int × Int), l[i]? = some b ∧ mt E a b) : fnd E l a = -1 := by
  unfold fnd
  rw [if_neg h]
theorem get_ex {α : Type} {l : List α} {i : Nat} (h : i < l.length) : ∃ b, l[i]? = some b := ⟨l[i], List.getElem?_eq_some_iff.mpr ⟨h, rfl⟩⟩
theorem co_loop {ev : EV} {sp e : Nat} {z : PS} {E : Cv} (hs : S5 E) {l : List (Int × Int)} (hl : l.length ≤ 242) (hn : l.Nodup) (hb : ∀ p ∈ l, Pin p) (P : SPt ev sp z l) {i : Nat} {a : Int × Int} (hi : l[i]? = some a) : ∀ (d n j : Nat), j + d = l.length → (∀ k b, k < j → l[k]? = some b → ¬ mt E a b) → q_X6_opposite_38 ev z sp e (n + d + 1) (nI i) (ph (-a.2 - a1 E * a.1 - a3 E)) (nI j) = some (fnd E l a) := by
  have hil := (List.getElem?_eq_some_iff.mp hi).1
  have ha := hb a (List.mem_of_getElem? hi)
  have yb := mt_b hs ha
  intro d
  induction d with
  | zero =>
    intro n j hj hno
    rw [q_X6_opposite_38, P.1, if_pos (by rw [i_le (by omega) (by omega)]; omega), fnd_0]
    intro ⟨k, b, h1, h2⟩
    exact hno k b (by have := (List.getElem?_eq_some_iff.mp h1).1; omega) h1 h2
  | succ d ih =>
    intro n j hj hno
    obtain ⟨b, hj'⟩ := get_ex (show j < l.length by omega)
    have hbb := hb b (List.mem_of_getElem? hj')
    obtain ⟨x1, y1⟩ := P.2 i a.1 a.2 hi
    obtain ⟨x2, y2⟩ := P.2 j b.1 b.2 hj'
    have nxt : ¬ mt E a b → q_X6_opposite_38 ev z sp e (n + (d + 1)) (nI i) (ph (-a.2 - a1 E * a.1 - a3 E)) (nI (j + 1)) = some (fnd E l a) := by
      intro hm
      refine ih n (j + 1) (by omega) (fun k c hk hc => ?_)
      rcases (show k < j ∨ k = j by omega) with h | h
      · exact hno k c h hc
      · subst h
        rw [hj'] at hc
        cases hc
        exact hm
    have qx : hI b.1 = hI a.1 ↔ b.1 = a.1 := hI_eq (by have := hbb.1; omega) (by have := ha.1; omega)
    have qy : ph b.2 = ph (-a.2 - a1 E * a.1 - a3 E) ↔ b.2 = -a.2 - a1 E * a.1 - a3 E := ph_eq ⟨by have := hbb.2; omega, by have := hbb.2; omega⟩ ⟨by omega, by omega⟩
    rw [q_X6_opposite_38, P.1, if_neg (by rw [i_le (by omega) (by omega)]; omega), ck_e (inB_n (show j < 242 by omega) (by omega)), ck_e (inB_n (show i < 242 by omega) (by omega)), ck_e (inB_n (show j < 242 by omega) (by omega)), nI_clamp (show j < 2 ^ 31 by omega), nI_clamp (show i < 2 ^ 31 by omega), x1, x2, y2, hI_L (by have := hbb.2; omega), bd_e, nI_s]
    by_cases c1 : b.1 = a.1
    · rw [if_pos (qx.mpr c1)]
      by_cases c2 : b.2 = -a.2 - a1 E * a.1 - a3 E
      · rw [if_pos (qy.mpr c2), fnd_1 hn hj' ⟨c1, c2⟩]
      · rw [if_neg (fun e => c2 (qy.mp e))]
        exact nxt (fun h => c2 h.2)
    · rw [if_neg (fun e => c1 (qx.mp e))]
      exact nxt (fun h => c1 h.1)
theorem c_opp {ev : EV} {sp e : Nat} {z : PS} {E : Cv} (hE : EQ z e E) (hs : S5 E) {l : List (Int × Int)} (hl : l.length ≤ 242) (hn : l.Nodup) (hb : ∀ p ∈ l, Pin p) (P : SPt ev sp z l) {i : Nat} {a : Int × Int} (hi : l[i]? = some a) : g_X6_opposite ev z sp e (nI i) = some (fnd E l a) := by
  have hil := (List.getElem?_eq_some_iff.mp hi).1
  have ha := hb a (List.mem_of_getElem? hi)
  obtain ⟨f, hf⟩ := FU_ge (d := l.length) (by omega)
  obtain ⟨x1, y1⟩ := P.2 i a.1 a.2 hi
  have := co_loop (e := e) hs hl hn hb P hi l.length f 0 (by omega) (fun k b hk => by omega)
  have en : -hI a.2 = hI (-a.2) := (Int32.ofInt_neg a.2).symm
  unfold g_X6_opposite
  rw [if_neg (nI_pos (by omega)), P.1, if_pos (by rw [nI_ltI (by omega) (by omega)]; omega), ck_e (inB_n (show i < 242 by omega) (by omega)), ck_e (inB_n (show i < 242 by omega) (by omega)), nI_clamp (by omega), x1, y1, hI_L (by have := ha.1; omega), c_slope hE, ob_e, en, hI_L (by have := ha.2; omega), ph_sub, bd_e, hf, show -a.2 - (a1 E * a.1 + a3 E) = -a.2 - a1 E * a.1 - a3 E by omega]
  exact this
theorem mo_loop {ev : EV} {m : Nat} {z : PS} {E : Cv} (A : AM ev m z E) (hs : S5 E) {l : List (Int × Int)} (hl : l.length ≤ 242) (hn : l.Nodup) (hb : ∀ p ∈ l, Pin p) (P : MPt ev m z l) {i : Nat} {a : Int × Int} (hi : l[i]? = some a) : ∀ (d n j : Nat) (f : Int32), j + d = l.length → ((∀ k b, k < j → l[k]? = some b → ¬ mt E a b) → f = -1) → ((∃ k b, k < j ∧ l[k]? = some b ∧ mt E a b) → f = fnd E l a) → q_X8_minus_43 ev m (n + d + 1) (nI i) f (nI j) z = some (fnd E l a, z) := by
  have hil := (List.getElem?_eq_some_iff.mp hi).1
  have ha := hb a (List.mem_of_getElem? hi)
  have yb := mt_b hs ha
  have A0 : rJ z (rf ev 123 m) 0 = ph (a1 E) := A 0 (by omega)
  have A2 : rJ z (rf ev 123 m) 2 = ph (a3 E) := A 2 (by omega)
  intro d
  induction d with
  | zero =>
    intro n j f hj h1 h2
    rw [q_X8_minus_43, P.1, if_pos (by rw [i_le (by omega) (by omega)]; omega)]
    by_cases c : ∃ (k : Nat) (b : Int × Int), l[k]? = some b ∧ mt E a b
    · obtain ⟨k, b, k1, k2⟩ := c
      rw [h2 ⟨k, b, by have := (List.getElem?_eq_some_iff.mp k1).1; omega, k1, k2⟩]
    · rw [h1 (fun k b _ hk hm => c ⟨k, b, hk, hm⟩), fnd_0 c]
  | succ d ih =>
    intro n j f hj h1 h2
    obtain ⟨b, hj'⟩ := get_ex (show j < l.length by omega)
    have hbb := hb b (List.mem_of_getElem? hj')
    obtain ⟨x1, y1⟩ := P.2 i a.1 a.2 hi
    obtain ⟨x2, y2⟩ := P.2 j b.1 b.2 hj'
    have no : ¬ mt E a b → q_X8_minus_43 ev m (n + (d + 1)) (nI i) f (nI (j + 1)) z = some (fnd E l a, z) := by
      intro hm
      refine ih n (j + 1) f (by omega) (fun hh => h1 (fun k c hk => hh k c (by omega))) (fun ⟨k, c, k1, k2, k3⟩ => ?_)
      rcases (show k < j ∨ k = j by omega) with h | h
      · exact h2 ⟨k, c, h, k2, k3⟩
      · subst h
        rw [hj'] at k2
        cases k2
        exact absurd k3 hm
    have yes : mt E a b → q_X8_minus_43 ev m (n + (d + 1)) (nI i) (nI j) (nI (j + 1)) z = some (fnd E l a, z) := by
      intro hm
      exact ih n (j + 1) (nI j) (by omega) (fun hh => absurd hm (hh j b (by omega) hj')) (fun _ => (fnd_1 hn hj' hm).symm)
    have qx : ph b.1 = ph a.1 ↔ b.1 = a.1 := ph_eq ⟨by have := hbb.1; omega, by have := hbb.1; omega⟩ ⟨by have := ha.1; omega, by have := ha.1; omega⟩
    have qy : ph b.2 = ph (-a.2 - a1 E * a.1 - a3 E) ↔ b.2 = -a.2 - a1 E * a.1 - a3 E := ph_eq ⟨by have := hbb.2; omega, by have := hbb.2; omega⟩ ⟨by omega, by omega⟩
    rw [q_X8_minus_43, P.1, if_neg (by rw [i_le (by omega) (by omega)]; omega), i_mul2, i_mul2, nI_s, nI_s, ck_e (inB_n (show 2 * j < 484 by omega) (by omega)), ck_e (inB_n (show 2 * i < 484 by omega) (by omega)), ck_e (inB_n (show 2 * j + 1 < 484 by omega) (by omega)), ck_e (inB_n (show 2 * i + 1 < 484 by omega) (by omega)), ck_e (inB_n (show 2 * i < 484 by omega) (by omega)), nI_clamp (show 2 * j < 2 ^ 31 by omega), nI_clamp (show 2 * i < 2 ^ 31 by omega), nI_clamp (show 2 * j + 1 < 2 ^ 31 by omega), nI_clamp (show 2 * i + 1 < 2 ^ 31 by omega), x1, x2, y1, y2, A0, A2, ph_neg, ph_mul, ph_sub, ph_sub]
    simp only [bd_e, nI_s]
    by_cases c1 : b.1 = a.1
    · rw [if_pos (qx.mpr c1)]
      by_cases c2 : b.2 = -a.2 - a1 E * a.1 - a3 E
      · rw [if_pos (qy.mpr c2), if_neg ne10]
        exact yes ⟨c1, c2⟩
      · rw [if_neg (fun e => c2 (qy.mp e)), if_pos trivial]
        exact no (fun h => c2 h.2)
    · rw [if_neg (fun e => c1 (qx.mp e)), if_pos trivial]
      exact no (fun h => c1 h.1)
