/-! LEAST for all is one; what is asked of a held equation -/
theorem no_sc {P : Nat} (hp : Pr P) {L L' : Cv} {a a' : Int} (h : Eqv (sc L a) (sc L' a')) (ha : (P : Int) ∣ a) (ha' : ¬ (P : Int) ∣ a') (hm : Min P L') : False := by
  obtain ⟨b, hb⟩ := ha
  have hne := hp.ne
  have nd : ∀ n : Nat, ¬ (P : Int) ∣ a' ^ n := fun n hh => ha' (hp.pow n hh)
  have e4 : a' ^ 4 * c4 L' = (P : Int) ^ 4 * c4 (sc L b) := by
    rw [← c4_sc L' a', h.c4, c4_sc L a, c4_sc L b, hb, Int.mul_pow, Int.mul_assoc]
  have e6 : a' ^ 6 * c6 L' = (P : Int) ^ 6 * c6 (sc L b) := by
    rw [← c6_sc L' a', h.c6, c6_sc L a, c6_sc L b, hb, Int.mul_pow, Int.mul_assoc]
  have e12 : a' ^ 12 * dd L' = (P : Int) ^ 12 * dd (sc L b) := by
    rw [← dd_sc L' a', h.dd, dd_sc L a, dd_sc L b, hb, Int.mul_pow, Int.mul_assoc]
  obtain ⟨x, hx⟩ : (P : Int) ^ 4 ∣ c4 L' := hp.can (nd 4) 4 ⟨_, e4⟩
  obtain ⟨y, hy⟩ : (P : Int) ^ 6 ∣ c6 L' := hp.can (nd 6) 6 ⟨_, e6⟩
  obtain ⟨D, hD⟩ : (P : Int) ^ 12 ∣ dd L' := hp.can (nd 12) 12 ⟨_, e12⟩
  have f4 : a' ^ 4 * x = c4 (sc L b) := by
    apply Int.eq_of_mul_eq_mul_left (a := (P : Int) ^ 4) (Int.pow_ne_zero hne)
    rw [← e4, hx]; generalize (P : Int) ^ 4 = A; generalize a' ^ 4 = B; grind
  have f6 : a' ^ 6 * y = c6 (sc L b) := by
    apply Int.eq_of_mul_eq_mul_left (a := (P : Int) ^ 6) (Int.pow_ne_zero hne)
    rw [← e6, hy]; generalize (P : Int) ^ 6 = A; generalize a' ^ 6 = B; grind
  have hw : Whl P x y := by
    refine ⟨fun h2 => ?_, fun h3 => ?_⟩
    · have : ¬ (2 : Int) ∣ a' := by rw [h2] at ha'; exact ha'
      exact K2_u (u := a') (by omega) (by rw [f4, f6]; exact K2_of _)
    · have : ¬ (3 : Int) ∣ a' := by rw [h3] at ha'; exact ha'
      exact K3_u (u := a') this (by rw [f6]; exact K3_of _)
  obtain ⟨G, -, -, -, gE⟩ := low_ex (k := 1) hp hx hy hD hw
  rw [Int.pow_one] at gE
  exact hm ⟨G, gE⟩
theorem fac_pos {p v : Int} (hp : 2 ≤ p) (h : 0 < p * v) : 0 < v ∧ v < p * v := by
  have h0 : 0 < v := by
    rcases (show v ≤ 0 ∨ 0 < v by omega) with h1 | h1
    · have := Int.mul_nonneg (show 0 ≤ p by omega) (show 0 ≤ -v by omega)
      have e : p * -v = -(p * v) := by grind
      omega
    · exact h1
  have := Int.mul_le_mul_of_nonneg_right hp (show 0 ≤ v by omega)
  exact ⟨h0, by omega⟩
theorem gcd_ex : ∀ (n : Nat) (u u' : Int), 0 < u → 0 < u' → u.natAbs < n → ∃ g a a' : Int, 0 < g ∧ 0 < a ∧ 0 < a' ∧ u = a * g ∧ u' = a' * g ∧ ∀ P : Nat, Pr P → (P : Int) ∣ a → ¬ (P : Int) ∣ a' := by
  intro n
  induction n with
  | zero => intro u u' _ _ h; omega
  | succ n ih =>
    intro u u' hu hu' hn
    by_cases h : ∃ P : Nat, Pr P ∧ (P : Int) ∣ u ∧ (P : Int) ∣ u'
    · obtain ⟨P, hp, ⟨v, hv⟩, ⟨v', hv'⟩⟩ := h
      have hp1 := hp.1
      obtain ⟨v0, vl⟩ := fac_pos hp1 (by rw [← hv]; exact hu)
      obtain ⟨v0', -⟩ := fac_pos hp1 (by rw [← hv']; exact hu')
      obtain ⟨g, a, a', g0, a0, a0', e, e', hc⟩ := ih v v' v0 v0' (by omega)
      refine ⟨g * P, a, a', Int.mul_pos g0 (by omega), a0, a0', ?_, ?_, hc⟩
      · rw [hv, e]; grind
      · rw [hv', e']; grind
    · exact ⟨1, u, u', by omega, hu, hu', by omega, by omega, fun P hp h1 h2 => h ⟨P, hp, h1, h2⟩⟩
theorem no_sc1 {L L' : Cv} {a a' : Int} (h : Eqv (sc L a) (sc L' a')) (ha : 0 < a) (hc : ∀ P : Nat, Pr P → (P : Int) ∣ a → ¬ (P : Int) ∣ a') (hm : ∀ P : Nat, Pr P → Min P L') : a = 1 := by
  rcases (show a = 1 ∨ 2 ≤ a by omega) with h1 | h1
  · exact h1
  · exfalso
    obtain ⟨Q, q1, q2⟩ := pr_ex (n := a.toNat) (by omega)
    have hQ : (Q : Int) ∣ a := by have := nd_int.mpr q2; rwa [show ((a.toNat : Nat) : Int) = a by omega] at this
    exact no_sc q1 h hQ (hc Q q1 hQ) (hm Q q1)
theorem lm_one {E L L' : Cv} {u u' : Int} (hu : 0 < u) (hu' : 0 < u') (h : Eqv E (sc L u)) (h' : Eqv E (sc L' u')) (r : Red L) (r' : Red L') (hm : ∀ P : Nat, Pr P → Min P L) (hm' : ∀ P : Nat, Pr P → Min P L') : L = L' ∧ u = u' := by
  have hE : Eqv (sc L u) (sc L' u') := h.sy.tr h'
  obtain ⟨g, a, a', hg, ha, ha', e, e', hc⟩ := gcd_ex (u.natAbs + 1) u u' hu hu' (by omega)
  have hE2 : Eqv (sc L a) (sc L' a') := by
    apply eqv_canc (u := g) (by omega)
    rw [sc_sc, sc_sc, ← e, ← e']; exact hE
  have p1 := no_sc1 hE2 ha hc hm'
  have p2 := no_sc1 hE2.sy ha' (fun P hp h1 h2 => hc P hp h2 h1) hm
  subst p1
  subst p2
  rw [sc_1, sc_1] at hE2
  refine ⟨?_, by rw [e, e']⟩
  have h2 := lead_red r'
  rw [hE2.c4, hE2.c6] at h2
  exact (lead_red r).symm.trans h2
/-! bounds -/
theorem red_b {L : Cv} (r : Red L) : (-4 ≤ b2 L ∧ b2 L ≤ 5) ∧ (b2 L * b2 L - c4 L = 24 * b4 L) ∧ (36 * b2 L * b4 L - b2 L * b2 L * b2 L - c6 L = 216 * b6 L) ∧ (0 ≤ b4 L - 2 * a4 L ∧ b4 L - 2 * a4 L ≤ 1) ∧ (0 ≤ b6 L - 4 * a6 L ∧ b6 L - 4 * a6 L ≤ 1) ∧ (-25 ≤ b2 L * b2 L ∧ b2 L * b2 L ≤ 25) ∧ (-125 ≤ b2 L * b2 L * b2 L ∧ b2 L * b2 L * b2 L ≤ 125) := by
  obtain ⟨r1, r2, r3⟩ := r
  have q1 : a1 L * a1 L = a1 L := by rcases r1 with h | h <;> rw [h] <;> rfl
  have q3 : a3 L * a3 L = a3 L := by rcases r3 with h | h <;> rw [h] <;> rfl
  have q13 : 0 ≤ a1 L * a3 L ∧ a1 L * a3 L ≤ 1 := by rcases r1 with h | h <;> rw [h] <;> omega
  have m2 : -4 ≤ b2 L ∧ b2 L ≤ 5 := by unfold b2; rw [q1]; omega
  have bb := mb (X := 5) (Y := 5) (x := b2 L) (y := b2 L) (by omega) (by omega)
  have bbb := mb bb (show -5 ≤ b2 L ∧ b2 L ≤ 5 by omega)
  refine ⟨m2, by unfold c4; omega, by unfold c6; omega, by unfold b4; omega, by unfold b6; rw [q3]; omega, by omega, by omega⟩
theorem red_ub {L : Cv} (r : Red L) {A B : Int} (h4 : -A ≤ c4 L ∧ c4 L ≤ A) (h6 : -B ≤ c6 L ∧ c6 L ≤ B) : (-(A + 49) ≤ 48 * a4 L ∧ 48 * a4 L ≤ A + 49) ∧ (-(15 * A + 2 * B + 1057) ≤ 1728 * a6 L ∧ 1728 * a6 L ≤ 15 * A + 2 * B + 1057) := by
  obtain ⟨m2, e4, e6, t4, t6, bb, bbb⟩ := red_b r
  have b24 := mb (X := 5) (Y := A + 25) (x := b2 L) (y := 24 * b4 L) (by omega) (by omega)
  have e : b2 L * (24 * b4 L) = 24 * (b2 L * b4 L) := by grind
  have e' : 36 * b2 L * b4 L = 36 * (b2 L * b4 L) := by grind
  rw [e] at b24
  rw [e'] at e6
  exact ⟨by omega, by omega⟩
theorem red_lb {L : Cv} (r : Red L) {A B : Int} (h4 : -A ≤ a4 L ∧ a4 L ≤ A) (h6 : -B ≤ a6 L ∧ a6 L ≤ B) : (-(48 * A + 49) ≤ c4 L ∧ c4 L ≤ 48 * A + 49) ∧ (-(360 * A + 864 * B + 521) ≤ c6 L ∧ c6 L ≤ 360 * A + 864 * B + 521) := by
  obtain ⟨m2, e4, e6, t4, t6, bb, bbb⟩ := red_b r
  have b24 := mb (X := 5) (Y := 2 * A + 1) (x := b2 L) (y := b4 L) (by omega) (by omega)
  have e' : 36 * b2 L * b4 L = 36 * (b2 L * b4 L) := by grind
  rw [e'] at e6
  exact ⟨by omega, by omega⟩
def B5 (L : Cv) : Prop := (-100000 ≤ a4 L ∧ a4 L ≤ 100000) ∧ (-100000 ≤ a6 L ∧ a6 L ≤ 100000)
def S5 (E : Cv) : Prop := (-100000 ≤ a1 E ∧ a1 E ≤ 100000) ∧ (-100000 ≤ a2 E ∧ a2 E ≤ 100000) ∧ (-100000 ≤ a3 E ∧ a3 E ≤ 100000) ∧ (-100000 ≤ a4 E ∧ a4 E ≤ 100000) ∧ (-100000 ≤ a6 E ∧ a6 E ≤ 100000)
def D8 (E : Cv) : Prop := -1000000000000000000 ≤ dd E ∧ dd E ≤ 1000000000000000000
theorem red_LB {L : Cv} (r : Red L) (h4 : -7000000 ≤ a4 L ∧ a4 L ≤ 7000000) (h6 : -7000000000 ≤ a6 L ∧ a6 L ≤ 7000000000) : LB L := by
  obtain ⟨r1, r2, r3⟩ := r
  exact ⟨⟨by omega, by omega, by omega⟩, h4, h6⟩
/-- what makes an equation fit to be held, its own size aside -/
def KG (E L : Cv) (u : Int) : Prop := 0 < u ∧ Eqv E (sc L u) ∧ Red L ∧ (∀ P : Nat, Pr P → Min P L) ∧ dd E ≠ 0 ∧ TW E ∧ QB (dd E)
/-- a held equation -/
def HG (E L : Cv) (u : Int) : Prop := KG E L u ∧ S5 E ∧ D8 E ∧ B5 L
theorem u_31 {D u d : Int} (hu : 0 < u) (h0 : D ≠ 0) (hb : -1000000000000000000 ≤ D ∧ D ≤ 1000000000000000000) (e : D = u ^ 12 * d) : u ≤ 31 := by
  rcases (show u ≤ 31 ∨ 32 ≤ u by omega) with h | h
  · exact h
  · exfalso
    have hd : u ^ 12 ∣ D := ⟨d, e⟩
    have h1 := pw_ge (P := u.toNat) (m := 32) (n := 12) (by omega)
    rw [show ((u.toNat : Nat) : Int) = u by omega] at h1
    have h2 : ((32 : Nat) : Int) ^ 12 = 1152921504606846976 := by decide
    rcases (show 0 < D ∨ 0 < -D by omega) with h3 | h3
    · have := Int.le_of_dvd h3 hd; omega
    · have := Int.le_of_dvd h3 (Int.dvd_neg.mpr hd); omega
theorem pw_31 {u : Int} (hu : 0 < u) (h : u ≤ 31) : (1 ≤ u ^ 4 ∧ u ^ 4 ≤ 923521) ∧ (1 ≤ u ^ 6 ∧ u ^ 6 ≤ 887503681) := by
  have h4 := pw_ge (P := 31) (m := u.toNat) (n := 4) (by omega)
  have h6 := pw_ge (P := 31) (m := u.toNat) (n := 6) (by omega)
  rw [show ((u.toNat : Nat) : Int) = u by omega] at h4 h6
  have e4 : ((31 : Nat) : Int) ^ 4 = 923521 := by decide
  have e6 : ((31 : Nat) : Int) ^ 6 = 887503681 := by decide
  have p4 : 0 < u ^ 4 := Int.pow_pos hu
  have p6 : 0 < u ^ 6 := Int.pow_pos hu
  exact ⟨⟨by omega, by omega⟩, ⟨by omega, by omega⟩⟩
theorem kg_c {E L : Cv} {u : Int} (h : KG E L u) (h5 : B5 L) (h8 : D8 E) : (-10000000000000 ≤ c4 E ∧ c4 E ≤ 10000000000000) ∧ (-200000000000000000 ≤ c6 E ∧ c6 E ≤ 200000000000000000) := by
  obtain ⟨hu, hE, hr, -, h0, -, -⟩ := h
  have e12 : dd E = u ^ 12 * dd L := by rw [← hE.dd, dd_sc]
  have e4 : c4 E = u ^ 4 * c4 L := by rw [← hE.c4, c4_sc]
  have e6 : c6 E = u ^ 6 * c6 L := by rw [← hE.c6, c6_sc]
  have h31 := u_31 hu h0 h8 e12
  obtain ⟨p4, p6⟩ := pw_31 hu h31
  obtain ⟨k4, k6⟩ := red_lb hr h5.1 h5.2
  have m4 := mb (X := 923521) (x := u ^ 4) (by omega) k4
  have m6 := mb (X := 887503681) (x := u ^ 6) (by omega) k6
  rw [e4, e6]
  exact ⟨by omega, by omega⟩
theorem d8_big {D : Int} (h0 : D ≠ 0) (hb : -1000000000000000000 ≤ D ∧ D ≤ 1000000000000000000) : ∀ Q : Nat, Pr Q → 32 ≤ Q → ¬ (Q : Int) ^ 12 ∣ D := by
  intro Q _ hq hd
  have h1 := pw_ge (P := Q) (m := 32) (n := 12) hq
  have h2 : ((32 : Nat) : Int) ^ 12 = 1152921504606846976 := by decide
  rcases (show 0 < D ∨ 0 < -D by omega) with h3 | h3
  · have := Int.le_of_dvd h3 hd; omega
  · have := Int.le_of_dvd h3 (Int.dvd_neg.mpr hd); omega
theorem s5_b {E : Cv} (h : S5 E) : BndU E ∧ BndB E := by
  obtain ⟨h1, h2, h3, h4, h6⟩ := h
  have m11 := mb h1 h1
  have m13 := mb h1 h3
  have m33 := mb h3 h3
  have m116 := mb m11 h6
  have m26 := mb (show -400000 ≤ 4 * a2 E ∧ 4 * a2 E ≤ 400000 by omega) h6
  have m134 := mb m13 h4
  have m23 := mb (mb h2 h3) h3
  have m44 := mb h4 h4
  refine ⟨⟨by omega, by omega, by omega, by omega, by omega⟩, ?_, ?_, ?_, ?_⟩
  · unfold b2; omega
  · unfold b4; omega
  · unfold b6; omega
  · unfold b8; omega
theorem HG.hi {E L : Cv} {u : Int} (h : HG E L u) : HI E L u := by
  obtain ⟨k, s5, d8, h5⟩ := h
  obtain ⟨q4, q6⟩ := kg_c k h5 d8
  obtain ⟨hu, hE, hr, hm, h0, hT, -⟩ := k
  obtain ⟨bu, bb⟩ := s5_b s5
  have h51 := h5.1
  have h52 := h5.2
  refine ⟨⟨hu, hE, red_LB hr (by omega) (by omega), h0, ?_⟩, ⟨?_, ?_, bu, bb⟩, hm, hT⟩
  · exact ⟨by have := d8.1; omega, by have := d8.2; omega⟩
  · exact ⟨by omega, by omega⟩
  · exact ⟨by omega, by omega⟩
theorem HG.pq {E L : Cv} {u : Int} (h : HG E L u) : PQ E L u := ⟨h.hi.pair, h.1.2.2.2.2.2.2⟩
/-- the class's lower, where the least one is known -/
theorem c_low {ev : EV} {z : PS} {l6 : Nat} {E L : Cv} {u : Int} (k : KG E L u) (h5 : B5 L) (h8 : D8 E) : g_X3_lower ev z (ph (c4 E)) (ph (c6 E)) (ph (dd E)) l6 = some (ph u, sE z l6 L) := by
  obtain ⟨q4, q6⟩ := kg_c k h5 h8
  obtain ⟨hu, hE, hr, hm, h0, -, -⟩ := k
  obtain ⟨L', u', g1, g2, g3, g4, g5⟩ := c_lower (ev := ev) (z := z) (l6 := l6) h0 ⟨by have := h8.1; omega, by have := h8.2; omega⟩ ⟨by omega, by omega⟩ ⟨by omega, by omega⟩ (d8_big h0 h8)
  obtain ⟨e1, e2⟩ := lm_one g1 hu g2 hE g3 hr g4 hm
  rw [g5, e1, e2]
/-! whence fit ones come -/
theorem KG.sh {E L : Cv} {u : Int} (k : KG E L u) (r s t : Int) : KG (sh E r s t) L u := by
  obtain ⟨hu, hE, hr, hm, h0, hT, hQ⟩ := k
  have e := Eqv.sh E r s t
  exact ⟨hu, e.sy.tr hE, hr, hm, by rw [dd_sh]; exact h0, hT.eqv e, by rw [dd_sh]; exact hQ⟩
theorem KG.least {E L : Cv} {u : Int} (k : KG E L u) : KG L L 1 := by
  obtain ⟨hu, hE, hr, hm, h0, hT, hQ⟩ := k
  have e12 : dd E = u ^ 12 * dd L := by rw [← hE.dd, dd_sc]
  refine ⟨by omega, by rw [sc_1]; exact Eqv.rf L, hr, hm, ?_, TW.dn hu (hT.eqv hE), hQ.dv ⟨u ^ 12, by rw [e12]; exact Int.mul_comm _ _⟩⟩
  intro h
  rw [h, Int.mul_zero] at e12
  exact h0 e12
theorem KG.up {E L : Cv} {u : Int} (k : KG E L u) {v : Nat} (h2 : 2 ≤ v) (h9 : v ≤ 9) : KG (sc E v) L (u * v) := by
  obtain ⟨hu, hE, hr, hm, h0, hT, hQ⟩ := k
  have hv : 0 < (v : Int) := by omega
  refine ⟨Int.mul_pos hu hv, ?_, hr, hm, ?_, hT.up hv, ?_⟩
  · have := hE.sc (v : Int)
    rwa [sc_sc] at this
  · rw [dd_sc]
    exact Int.mul_ne_zero (Int.pow_ne_zero (by omega)) h0
  · rw [dd_sc]
    have := hQ.mul (m := v ^ 12) (fun Q hq hd => by
      have h1 := hq.pow 12 (x := (v : Int)) (by have := nd_int.mpr hd; rwa [Int.natCast_pow] at this)
      have := Int.le_of_dvd hv h1
      omega)
    rwa [Int.natCast_pow] at this
theorem KG.dn (ev : EV) {F L : Cv} {u v : Int} (hv : 2 ≤ v) (k : KG (sc F v) L u) (h5 : B5 L) (h8 : D8 (sc F v)) : ∃ u', KG F L u' := by
  obtain ⟨q4, q6⟩ := kg_c k h5 h8
  obtain ⟨hu, hE, hr, hm, h0, hT, hQ⟩ := k
  have v4 : 1 ≤ v ^ 4 := Int.pow_pos (show 0 < v by omega)
  have v6 : 1 ≤ v ^ 6 := Int.pow_pos (show 0 < v by omega)
  have v12 : 1 ≤ v ^ 12 := Int.pow_pos (show 0 < v by omega)
  have b4 := dvd_ab v4 (c4_sc F v) q4
  have b6 := dvd_ab v6 (c6_sc F v) q6
  have b12 := dvd_ab v12 (dd_sc F v) h8
  have d0 : dd F ≠ 0 := by intro h; rw [dd_sc, h, Int.mul_zero] at h0; exact h0 rfl
  obtain ⟨L', u', g1, g2, g3, g4, -⟩ := c_lower (ev := ev) (z := (fun _ _ => 0, fun _ _ => 0, fun _ _ => 0, fun _ _ => 0)) (l6 := 0) d0 ⟨by omega, by omega⟩ ⟨by omega, by omega⟩ ⟨by omega, by omega⟩ (d8_big d0 b12)
  have h2 : Eqv (sc F v) (sc L' (u' * v)) := by
    have := g2.sc v
    rwa [sc_sc] at this
  obtain ⟨e1, -⟩ := lm_one (Int.mul_pos g1 (show 0 < v by omega)) hu h2 hE g3 hr g4 hm
  subst e1
  exact ⟨u', g1, g2, g3, g4, d0, hT.dn (by omega), hQ.dv ⟨v ^ 12, by rw [dd_sc]; exact Int.mul_comm _ _⟩⟩
