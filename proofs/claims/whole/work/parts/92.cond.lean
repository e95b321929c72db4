/-! primes, conductor, own -/
theorem hi_self {E L : Cv} {u : Int} (h : Pair E L u) (hr : Red L) (hT : TW E) (hQ : QB (dd E)) : PQ L L 1 := by
  have hl := h.lb
  obtain ⟨-, h4, h6⟩ := hl
  obtain ⟨k4, k6⟩ := red_lb hr h4 h6
  obtain ⟨m2, e4, e6, t4, t6, bb, bbb⟩ := red_b hr
  obtain ⟨r1, r2, r3⟩ := id hr
  have p4 : -14000001 ≤ b4 L ∧ b4 L ≤ 14000001 := by omega
  have p6 : -28000000001 ≤ b6 L ∧ b6 L ≤ 28000000001 := by omega
  have z26 := mb (X := 5) (x := b2 L) (by omega) p6
  have z44 := mb p4 p4
  have sy := b_syz L
  have H : HI L L 1 := by
    refine ⟨⟨by omega, by rw [sc_1]; exact Eqv.rf L, h.lb, h.dL0, h.dLb⟩, ⟨⟨by omega, by omega⟩, ⟨by omega, by omega⟩, ⟨by omega, by omega, by omega, by omega, by omega⟩, ⟨by omega, by omega, by omega, by omega⟩⟩, h.min, TW.dn h.pos (hT.eqv h.eqv)⟩
  exact ⟨H.pair, hQ.dv ⟨u ^ 12, by rw [h.ddE]; exact Int.mul_comm _ _⟩⟩
theorem npr0 : ¬ Pr ((0 : Nat) : Int) := fun h => by have := h.1; omega
theorem npr1 : ¬ Pr ((1 : Nat) : Int) := fun h => by have := h.1; omega
theorem pr2' : Pr ((2 : Nat) : Int) := pr_of (by omega) (by decide)
theorem pr3' : Pr ((3 : Nat) : Int) := pr_of (by omega) (by decide)
theorem pr5' : Pr ((5 : Nat) : Int) := pr_of (by omega) (by decide)
theorem pr7' : Pr ((7 : Nat) : Int) := pr_of (by omega) (by decide)
theorem prN_1 {g : Nat → Int64} {D' p : Nat} (hp : Pr p) (h3 : ¬ p ∣ D' → g p = 1) : prN g D' (p + 1) = prN g D' p * g p := by
  by_cases h : p ∣ D'
  · exact (prN_s g D' p).1 ⟨hp, h⟩
  · rw [(prN_s g D' p).2 (fun hh => h hh.2), h3 h, Int64.mul_one]
theorem prN_0 {g : Nat → Int64} {D' p : Nat} (hp : ¬ Pr p) : prN g D' (p + 1) = prN g D' p := (prN_s g D' p).2 (fun hh => hp hh.1)
theorem prN_h {h : Nat → Int64} {D : Nat} : ∀ B, (∀ n, n < B → h n = 1) → prN h D B = 1 := by
  intro B
  induction B with
  | zero => intro _; rfl
  | succ B ih =>
    intro hh
    by_cases c : Pr B ∧ B ∣ D
    · rw [(prN_s h D B).1 c, ih (fun n hn => hh n (by omega)), hh B (by omega)]; rfl
    · rw [(prN_s h D B).2 c, ih (fun n hn => hh n (by omega))]
theorem prN_twb {g h : Nat → Int64} {D D' M : Nat} (hh : ∀ n, n ≤ 7 → h n = 1) (hg : ∀ n, 7 < n → h n = g n) (h1 : ∀ n : Nat, Pr n → 7 < n → n ∣ D → ¬ n ∣ D' → n < M → g n = 1) (h2 : ∀ n : Nat, Pr n → 7 < n → n ∣ D' → n ∣ D) (h3 : ∀ p : Nat, Pr p → ¬ p ∣ D' → p < M → g p = 1) : ∀ d, 8 + d ≤ M → prN g D' (8 + d) = (1 * g 2 * g 3 * g 5 * g 7) * prN h D (8 + d) := by
  intro d
  induction d with
  | zero =>
    intro hM
    rw [prN_h (8 + 0) (fun n hn => hh n (by omega)), Int64.mul_one]
    have e8 : prN g D' (7 + 1) = prN g D' 7 * g 7 := prN_1 pr7' (fun hn => h3 7 pr7' hn (by omega))
    have e7 : prN g D' (6 + 1) = prN g D' 6 := prN_0 (npr_2 (by omega) (by omega))
    have e6 : prN g D' (5 + 1) = prN g D' 5 * g 5 := prN_1 pr5' (fun hn => h3 5 pr5' hn (by omega))
    have e5 : prN g D' (4 + 1) = prN g D' 4 := prN_0 (npr_2 (by omega) (by omega))
    have e4 : prN g D' (3 + 1) = prN g D' 3 * g 3 := prN_1 pr3' (fun hn => h3 3 pr3' hn (by omega))
    have e3 : prN g D' (2 + 1) = prN g D' 2 * g 2 := prN_1 pr2' (fun hn => h3 2 pr2' hn (by omega))
    have e2 : prN g D' (1 + 1) = prN g D' 1 := prN_0 npr1
    have e1 : prN g D' (0 + 1) = prN g D' 0 := prN_0 npr0
    have e0 : prN g D' 0 = 1 := rfl
    rw [← e0, ← e1, ← e2, ← e3, ← e4, ← e5, ← e6, ← e7, ← e8]
  | succ d ih =>
    intro hM
    have ih := ih (by omega)
    show prN g D' ((8 + d) + 1) = _ * prN h D ((8 + d) + 1)
    generalize hB : 8 + d = B at *
    by_cases hp : Pr B
    · by_cases a : B ∣ D'
      · have b := h2 B hp (by omega) a
        rw [(prN_s g D' B).1 ⟨hp, a⟩, (prN_s h D B).1 ⟨hp, b⟩, ih, hg B (by omega), Int64.mul_assoc]
      · by_cases b : B ∣ D
        · rw [(prN_s g D' B).2 (fun hh => a hh.2), (prN_s h D B).1 ⟨hp, b⟩, ih, hg B (by omega), h1 B hp (by omega) b a (by omega), Int64.mul_one]
        · rw [(prN_s g D' B).2 (fun hh => a hh.2), (prN_s h D B).2 (fun hh => b hh.2), ih]
    · rw [(prN_s g D' B).2 (fun hh => hp hh.1), (prN_s h D B).2 (fun hh => hp hh.1), ih]
/-- a reckoning, by the one answer at P -/
theorem c_rk {ev : EV} {m : Nat} (hD : DM ev m) {E L : Cv} {u : Int} (h : Pair E L u) {z : PS} {fl l1 P : Nat} (hne : l1 ≠ rf ev 27 fl) (hE : EQ z l1 L) (hp : Pr P) (hP : P < 2147483648) :
    ∃ z', g_X1_reckon ev z fl l1 (nI P) = some z' ∧ FrC ev fl z z' ∧ (∀ j, j < 6 → r32 z' (20 + j) fl = rvl P L j) ∧ (P ≤ 999983 → r32 z' 26 fl = rvl P L 6) := by
  obtain ⟨z', a, b, c⟩ := c_reckon hp hP hne hE h.lb (h.min P hp) h.dL0 h.dLb (h.pa P hp)
  obtain ⟨d, e⟩ := h.one hD hp hP c
  exact ⟨z', a, b, d, e⟩
theorem FrC.eq {ev : EV} {fl : Nat} {z z' : PS} (h : FrC ev fl z z') {x : Nat} (hx : x ≠ ev.2.2.2.1 27 fl) {E : Cv} (hE : EQ z x E) : EQ z' x E := hE.cg (fun k _ => h.2.2 k x (fun hh => hx hh.2))
theorem FrC.cp {ev : EV} {fl : Nat} {z z' : PS} (h : FrC ev fl z z') {p k : Nat} {f : Nat → Nat} (c : CP ev p z k f) : CP ev p z' k f :=
  ⟨(h.2.1 61 p (by omega)).trans c.1, fun i hi => by show z'.2.2.1 _ _ = _; rw [h.1]; exact c.2 i hi⟩
theorem c_get {ev : EV} {p : Nat} {z : PS} {k i : Nat} {f : Nat → Nat} (c : CP ev p z k f) (hk : k ≤ 16) (hi : i < k) : g_X5_get ev z p (nI i) = some (nI (f i)) := by
  unfold g_X5_get
  rw [if_neg (nI_pos (by omega)), c.1, if_neg (by rw [i_le (by omega) (by omega)]; omega), ck_e (inB_n (show i < 16 by omega) (by omega)), nI_clamp (by omega), c.2 i hi]
noncomputable def hfc (L : Cv) (n : Nat) : Int64 := if 7 < n then fac false L n else 1
theorem cn_loop {ev : EV} {m : Nat} (hD : DM ev m) {E L : Cv} {u : Int} (h : Pair E L u) {th l1 l2 D K : Nat} {f : Nat → Nat} (hP : PL D K f) (hne : l1 ≠ rf ev 27 (rf ev 103 th)) (A : Int64) : ∀ (d n i : Nat) (z : PS), i + d = K → EQ z l1 L → CP ev l2 z K f → ∃ z', q_X7_conductorOf_64 ev th l1 l2 (n + d + 1) (A * prd (hfc L) f i) (nI i) z = some (A * prd (hfc L) f K, z') ∧ FrC ev (rf ev 103 th) z z' := by
  have hK := hP.2.2.2.1
  intro d
  induction d with
  | zero =>
    intro n i z hi hE c
    have : i = K := by omega
    subst this
    exact ⟨z, by rw [q_X7_conductorOf_64, c.1, if_pos (Int32.le_refl _)], FrC.rf ev _ z⟩
  | succ d ih =>
    intro n i z hi hE c
    have hiK : i < K := by omega
    obtain ⟨p1, p2⟩ := hP.2.1 i hiK
    have p9 := hP.2.2.2.2 i hiK
    by_cases h7 : f i ≤ 7
    · obtain ⟨z', a, b⟩ := ih n (i + 1) z (by omega) hE c
      refine ⟨z', ?_, b⟩
      rw [q_X7_conductorOf_64, c.1, if_neg (by rw [i_le (by omega) (by omega)]; omega), c_get c hK hiK, ob_e, if_pos (by rw [show (7 : Int32) = nI 7 from rfl, i_le (by omega) (by omega)]; exact h7), bd_e, nI_s]
      have e : prd (hfc L) f (i + 1) = prd (hfc L) f i := by show _ * hfc L (f i) = _; unfold hfc; rw [if_neg (by omega), Int64.mul_one]
      rw [e] at a
      exact a
    · obtain ⟨z1, r1, r2, r3, -⟩ := c_rk hD h (fl := rf ev 103 th) hne hE p1 (by omega)
      obtain ⟨z', a, b⟩ := ih n (i + 1) z1 (by omega) (r2.eq hne hE) (r2.cp c)
      refine ⟨z', ?_, r2.tr b⟩
      rw [q_X7_conductorOf_64, c.1, if_neg (by rw [i_le (by omega) (by omega)]; omega), c_get c hK hiK, ob_e, if_neg (by rw [show (7 : Int32) = nI 7 from rfl, i_le (by omega) (by omega)]; exact h7), r1, ob_e, nI_L (by omega), r3 2 (by omega), pw4, ob_e, bd_e, bd_e, nI_s, Int64.mul_assoc]
      have e : prd (hfc L) f (i + 1) = prd (hfc L) f i * ph (pwE (f i) (rvl (f i) L 2)) := by show _ * hfc L (f i) = _; unfold hfc fac; rw [if_pos (by omega)]; rfl
      rw [e] at a
      exact a
theorem tw2_v : tw2 0 = nI 2 ∧ tw2 1 = nI 3 ∧ tw2 2 = nI 5 ∧ tw2 3 = nI 7 := by decide
theorem c_cst {ev : EV} {m : Nat} (hD : DM ev m) {E L : Cv} {u : Int} (h : Pair E L u) {th l1 l2 P j : Nat} (hne : l1 ≠ rf ev 27 (rf ev 103 th)) (hp : Pr P) (hP : P < 2147483648) (hj : j < 4) (ht : tw2 j = nI P) (n : Nat) (A : Int64) (z : PS) (hE : EQ z l1 L) : ∃ z', q_X7_conductorOf_15 ev th l1 l2 (n + 1) A (4 : Int32) (nI j) z = q_X7_conductorOf_15 ev th l1 l2 n (A * fac false L P) (4 : Int32) (nI (j + 1)) z' ∧ FrC ev (rf ev 103 th) z z' := by
  obtain ⟨z1, r1, r2, r3, -⟩ := c_rk hD h (fl := rf ev 103 th) hne hE hp hP
  refine ⟨z1, ?_, r2⟩
  rw [q_X7_conductorOf_15, if_neg (by rw [show (4 : Int32) = nI 4 from rfl, i_le (by omega) (by omega)]; omega), ck_e (inB_n hj (by omega)), nI_clamp (by omega), ht, bd_e, r1, ob_e, nI_L hP, r3 2 (by omega), pw4, ob_e, bd_e, bd_e, nI_s]
  rfl
theorem c_cond {ev : EV} {m : Nat} (hD : DM ev m) {E L : Cv} {u : Int} (h : Pair E L u) {z : PS} {th l1 l2 D K : Nat} {f : Nat → Nat} (hP : PL D K f) (hne : l1 ≠ rf ev 27 (rf ev 103 th)) (hE : EQ z l1 L) (c : CP ev l2 z K f) (h2 : ∀ n : Nat, Pr n → 7 < n → n ∣ (dd E).natAbs → n ∣ D) : ∃ z', g_X7_conductorOf ev z th l1 l2 = some (prN (fac false L) (dd E).natAbs 1000000000, z') ∧ FrC ev (rf ev 103 th) z z' := by
  have hK := hP.2.2.2.1
  obtain ⟨n, hn⟩ := FU_ge (d := 4) (by omega)
  obtain ⟨t0, t1', t2', t3'⟩ := tw2_v
  obtain ⟨z1, a1', b1⟩ := c_cst (l2 := l2) hD h hne pr2' (by omega) (by omega) t0 (n + 4) 1 z hE
  obtain ⟨z2, a2', b2'⟩ := c_cst (l2 := l2) hD h hne pr3' (by omega) (by omega) t1' (n + 3) (1 * fac false L 2) z1 (b1.eq hne hE)
  have f2 := b1.tr b2'
  obtain ⟨z3, a3', b3⟩ := c_cst (l2 := l2) hD h hne pr5' (by omega) (by omega) t2' (n + 2) (1 * fac false L 2 * fac false L 3) z2 (f2.eq hne hE)
  have f3 := f2.tr b3
  obtain ⟨z4, a4', b4'⟩ := c_cst (l2 := l2) hD h hne pr7' (by omega) (by omega) t3' (n + 1) (1 * fac false L 2 * fac false L 3 * fac false L 5) z3 (f3.eq hne hE)
  have f4 := f3.tr b4'
  obtain ⟨fn, hfn⟩ := FU_ge (d := K) (by omega)
  obtain ⟨z5, a5, b5⟩ := cn_loop hD h (th := th) (l2 := l2) hP hne (1 * fac false L 2 * fac false L 3 * fac false L 5 * fac false L 7) K fn 0 z4 (by omega) (f4.eq hne hE) (f4.cp c)
  refine ⟨z5, ?_, f4.tr b5⟩
  have e0 : (1 * fac false L 2 * fac false L 3 * fac false L 5 * fac false L 7) * prd (hfc L) f 0 = 1 * fac false L 2 * fac false L 3 * fac false L 5 * fac false L 7 := Int64.mul_one _
  rw [e0] at a5
  have dn : ∀ {q : Nat}, ¬ q ∣ (dd E).natAbs → ¬ (q : Int) ∣ dd L := fun {q} hq hd => hq (by
    apply Int.ofNat_dvd_left.mp
    rw [h.ddE]; exact Int.dvd_mul_of_dvd_right hd)
  have f1 : ∀ q : Nat, Pr q → ¬ q ∣ (dd E).natAbs → q < 1000000000 → fac false L q = 1 := fun q hq hn hl => h.fac1 ev hq (by omega) (dn hn) false
  have key : prN (fac false L) (dd E).natAbs 1000000000 = (1 * fac false L 2 * fac false L 3 * fac false L 5 * fac false L 7) * prd (hfc L) f K := by
    rw [prd_all hP]
    exact prN_twb (fun n hn => by unfold hfc; rw [if_neg (by omega)]) (fun n hn => by unfold hfc; rw [if_pos hn]) (fun q hq _ _ hn hl => f1 q hq hn hl) h2 f1 999999992 (Nat.le_refl _)
  rw [key]
  unfold g_X7_conductorOf
  rw [hn, show (0 : Int32) = nI 0 from rfl, show n + 4 + 1 = n + 4 + 1 from rfl, a1', show n + 4 = n + 3 + 1 from rfl, a2', show n + 3 = n + 2 + 1 from rfl, a3', show n + 2 = n + 1 + 1 from rfl, a4', q_X7_conductorOf_15, if_pos (by decide), hfn]
  exact a5
