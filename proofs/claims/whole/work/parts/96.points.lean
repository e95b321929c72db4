/-! points, trace -/
def ptW (E : Cv) (x y : Int) : Int := y * y + a1 E * x * y + a3 E * y - x * x * x - a2 E * x * x - a4 E * x - a6 E
def ptR (E : Cv) (P x : Nat) : Nat := cs (fun y => if (P : Int) ∣ ptW E x y then 1 else 0) P
def ptN (E : Cv) (P : Nat) : Nat := cs (ptR E P) P
theorem pt_rng {E : Cv} (h : S5 E) {x y : Int} (hx : 0 ≤ x ∧ x ≤ 199) (hy : 0 ≤ y ∧ y ≤ 199) : (-1000000000000000000 ≤ ptW E x y ∧ ptW E x y ≤ 1000000000000000000) ∧ (-1000000000000000000 ≤ spD E x ∧ spD E x ≤ 1000000000000000000) := by
  obtain ⟨h1, h2, h3, h4, h6⟩ := h
  have hx' : -199 ≤ x ∧ x ≤ 199 := by omega
  have hy' : -199 ≤ y ∧ y ≤ 199 := by omega
  have n1 := mb hy' hy'
  have n2 := mb h1 hx'
  have n3 := mb n2 hy'
  have n4 := mb h3 hy'
  have n5 := mb hx' hx'
  have n6 := mb n5 hx'
  have n7 := mb h2 hx'
  have n8 := mb n7 hx'
  have n9 := mb h4 hx'
  have n10 := mb (X := 20000000) (Y := 20000000) (x := a1 E * x + a3 E) (y := a1 E * x + a3 E) (by omega) (by omega)
  have n11 := mb (X := 100199) (x := x + a2 E) (by omega) hx'
  have n12 := mb (X := 20100000) (x := (x + a2 E) * x + a4 E) (by omega) hx'
  refine ⟨?_, ?_⟩
  · unfold ptW; omega
  · unfold spD; omega
theorem po_in {ev : EV} {m P x A : Nat} {z : PS} {E : Cv} (Am : AM ev m z E) (hs : S5 E) (h2 : 2 ≤ P) (hP : P ≤ 199) (hx : x < P) (k5 : Int64 → Int32 → Int64 → Option Int32) : ∀ (d n y : Nat), y + d = P → q_X8_pointsOf_15 ev z m k5 (n + d + 1) (ph P) (nI (A + cs (fun y => if (P : Int) ∣ ptW E x y then 1 else 0) y)) (ph x) (ph y) = k5 (ph P) (nI (A + ptR E P x)) (ph ((x + 1 : Nat) : Int)) := by
  have hR : inR (P : Int) := ⟨by omega, by omega⟩
  have n0 : ¬ ph (P : Int) = 0 := by rw [l0, ph_eq hR z_R]; omega
  have A0 : rJ z (rf ev 123 m) 0 = ph (a1 E) := Am 0 (by omega)
  have A1 : rJ z (rf ev 123 m) 1 = ph (a2 E) := Am 1 (by omega)
  have A2 : rJ z (rf ev 123 m) 2 = ph (a3 E) := Am 2 (by omega)
  have A3 : rJ z (rf ev 123 m) 3 = ph (a4 E) := Am 3 (by omega)
  have A4 : rJ z (rf ev 123 m) 4 = ph (a6 E) := Am 4 (by omega)
  intro d
  induction d with
  | zero =>
    intro n y hy
    have : y = P := by omega
    subst this
    rw [q_X8_pointsOf_15, if_pos (by rw [ph_le hR hR]; omega), bd_e, l1, ph_add]
    rfl
  | succ d ih =>
    intro n y hy
    obtain ⟨r1, -⟩ := pt_rng hs (x := x) (y := y) (by omega) (by omega)
    have es : ph (y : Int) + (1 : Int64) = ph ((y + 1 : Nat) : Int) := by rw [l1, ph_add]; rfl
    have jd : jr64 (ph (ptW E x y)) (ph P) = (0 : Int64) ↔ (P : Int) ∣ ptW E x y := jr_0 (Or.inl ⟨by omega, by omega⟩) hR (by omega)
    rw [q_X8_pointsOf_15, if_neg (by rw [ph_le hR ⟨by omega, by omega⟩]; omega), A0, A1, A2, A3, A4]
    simp only [ph_mul, ph_add, ph_sub, bd_e, es]
    rw [ck_e n0]
    have := ih n (y + 1) (by omega)
    rw [cs_s] at this
    by_cases h : (P : Int) ∣ ptW E x y
    · rw [if_pos h, ← Nat.add_assoc] at this
      rw [if_pos (show jr64 (ph ((y : Int) * y + a1 E * x * y + a3 E * y - x * x * x - a2 E * x * x - a4 E * x - a6 E)) (ph P) = 0 from jd.mpr h), nI_s]
      exact this
    · rw [if_neg h] at this
      rw [if_neg (show ¬ jr64 (ph ((y : Int) * y + a1 E * x * y + a3 E * y - x * x * x - a2 E * x * x - a4 E * x - a6 E)) (ph P) = 0 from fun e => h (jd.mp e)), show (0 : Int32) = nI 0 from rfl, i_add]
      exact this
theorem m_pts {ev : EV} {m P : Nat} {z : PS} {E : Cv} (Am : AM ev m z E) (hs : S5 E) (h2 : 2 ≤ P) (hP : P ≤ 199) : g_X8_pointsOf ev z m (ph P) = some (nI (1 + ptN E P)) := by
  have hR : inR (P : Int) := ⟨by omega, by omega⟩
  have loop : ∀ (d n x : Nat), x + d = P → q_X8_pointsOf_5 ev z m (n + d + 1) (ph P) (nI (1 + cs (ptR E P) x)) (ph x) = some (nI (1 + ptN E P)) := by
    intro d
    induction d with
    | zero =>
      intro n x hx
      have : x = P := by omega
      subst this
      rw [q_X8_pointsOf_5, if_pos (by rw [ph_le hR hR]; omega)]
      rfl
    | succ d ih =>
      intro n x hx
      obtain ⟨fn, hfn⟩ := FU_ge (d := P) (by omega)
      have := po_in (A := 1 + cs (ptR E P) x) Am hs h2 hP (show x < P by omega) (q_X8_pointsOf_5 ev z m (n + (d + 1))) P fn 0 (by omega)
      rw [q_X8_pointsOf_5, if_neg (by rw [ph_le hR ⟨by omega, by omega⟩]; omega), hfn]
      refine Eq.trans this ?_
      have := ih n (x + 1) (by omega)
      rw [cs_s, ← Nat.add_assoc] at this
      exact this
  obtain ⟨fn, hfn⟩ := FU_ge (d := P) (by omega)
  unfold g_X8_pointsOf
  rw [hfn]
  exact loop P fn 0 (by omega)
/-! the class's -/
def F106 (ev : EV) (th : Nat) (z z' : PS) : Prop := z'.1 = z.1 ∧ z'.2.1 = z.2.1 ∧ z'.2.2.2 = z.2.2.2 ∧ ∀ b j, b ≠ rf ev 106 th → z'.2.2.1 b j = z.2.2.1 b j
theorem F106.rf (ev : EV) (th : Nat) (z : PS) : F106 ev th z z := ⟨rfl, rfl, rfl, fun _ _ _ => rfl⟩
theorem F106.tr {ev : EV} {th : Nat} {x y z : PS} (h : F106 ev th x y) (h' : F106 ev th y z) : F106 ev th x z := ⟨h'.1.trans h.1, h'.2.1.trans h.2.1, h'.2.2.1.trans h.2.2.1, fun b j hb => (h'.2.2.2 b j hb).trans (h.2.2.2 b j hb)⟩
theorem F106.wI (ev : EV) (th : Nat) (z : PS) (j : Nat) (v : Int32) : F106 ev th z (wI z (ev.2.2.2.1 106 th) j v) := ⟨rfl, rfl, rfl, fun b i hb => by show (if _ then _ else _) = _; rw [if_neg (fun hh => hb hh.1)]⟩
theorem F106.neu {ev : EV} {th m : Nat} {z z' : PS} (h : F106 ev th z z') : NEU ev th m z z' := ⟨fun i x _ _ => by rw [h.1], fun i x _ _ => by rw [h.2.1], fun b j hb _ => h.2.2.2 b j hb⟩
theorem F106.mu {ev : EV} {th m : Nat} (S : Sep ev th m) {z z' : PS} (h : F106 ev th z z') : MU ev m z z' := ⟨fun i x _ => by rw [h.1], fun j => h.2.2.2 _ j (fun e => S.aa.2.2.2 e.symm), h.2.2.1⟩
theorem F106.eq {ev : EV} {th : Nat} {z z' : PS} (h : F106 ev th z z') {x : Nat} {E : Cv} (hE : EQ z x E) : EQ z' x E := hE.cg (fun k _ => by rw [h.2.1])
theorem rI_eq (z : PS) (a i : Nat) (v : Int32) : rI (wI z a i v) a i = v := by simp [rI, wI]
theorem rI_ne (z : PS) (a : Nat) {i j : Nat} (v : Int32) (h : j ≠ i) : rI (wI z a i v) a j = rI z a j := by simp [rI, wI, h]
theorem z_loop {ev : EV} {th l1 P : Nat} (hP : P ≤ 199) : ∀ (d n v : Nat) (z : PS), v + d = P → (∀ j, j < v → rI z (rf ev 106 th) j = 0) → ∃ z', q_X7_pointsOn_12 ev th l1 (n + d + 1) (nI P) (nI v) z = q_X7_pointsOn_32 ev th l1 FU (nI P) (0 : Int32) z' ∧ F106 ev th z z' ∧ ∀ j, j < P → rI z' (rf ev 106 th) j = 0 := by
  intro d
  induction d with
  | zero =>
    intro n v z hv h
    have : v = P := by omega
    subst this
    exact ⟨z, by rw [q_X7_pointsOn_12, if_pos (Int32.le_refl _)], F106.rf ev th z, h⟩
  | succ d ih =>
    intro n v z hv h
    obtain ⟨z', a, b, c⟩ := ih n (v + 1) (wI z (rf ev 106 th) v 0) (by omega) (fun j hj => by
      rcases (show j = v ∨ j < v by omega) with e | e
      · subst e; exact rI_eq _ _ _ _
      · rw [rI_ne _ _ _ (by omega)]; exact h j e)
    refine ⟨z', ?_, (F106.wI ev th z v 0).tr b, c⟩
    rw [q_X7_pointsOn_12, if_neg (by rw [i_le (by omega) (by omega)]; omega), ck_e (inB_n (show v < 199 by omega) (by omega)), nI_clamp (by omega), bd_e, bd_e, nI_s]
    exact a
def sqc (P j : Nat) (k : Nat) : Nat := cs (fun t => if t * t % P = j then 1 else 0) k
theorem sq_loop {ev : EV} {th l1 P : Nat} (h2 : 2 ≤ P) (hP : P ≤ 199) : ∀ (d n y : Nat) (z : PS), y + d = P → (∀ j, j < P → rI z (rf ev 106 th) j = nI (sqc P j y)) → ∃ z', q_X7_pointsOn_32 ev th l1 (n + d + 1) (nI P) (nI y) z = q_X7_pointsOn_68 ev th l1 FU (nI P) (1 : Int32) (0 : Int32) z' ∧ F106 ev th z z' ∧ ∀ j, j < P → rI z' (rf ev 106 th) j = nI (sqc P j P) := by
  intro d
  induction d with
  | zero =>
    intro n y z hy h
    have : y = P := by omega
    subst this
    exact ⟨z, by rw [q_X7_pointsOn_32, if_pos (Int32.le_refl _)], F106.rf ev th z, h⟩
  | succ d ih =>
    intro n y z hy h
    have hm := Nat.mod_lt (y * y) (show 0 < P by omega)
    have hyy : y * y ≤ 199 * 199 := Nat.mul_le_mul (by omega) (by omega)
    have e1 : ((y : Int) * y) % P = ((y * y % P : Nat) : Int) := by push_cast; rfl
    generalize hj : y * y % P = J at *
    obtain ⟨z', a, b, c⟩ := ih n (y + 1) (wI z (rf ev 106 th) J (nI (sqc P J y + 1))) (by omega) (fun j hj' => by
      unfold sqc
      rw [cs_s]
      rcases (show j = J ∨ j ≠ J by omega) with e | e
      · subst e; rw [rI_eq, if_pos hj]
      · rw [rI_ne _ _ _ e, if_neg (by omega)]; exact h j hj')
    refine ⟨z', ?_, (F106.wI ev th z J _).tr b, c⟩
    rw [q_X7_pointsOn_32, if_neg (by rw [i_le (by omega) (by omega)]; omega), nI_L (by omega), nI_L (by omega), ph_mul, c_rest (by omega) ⟨by omega, by omega⟩ (Or.inl ⟨by omega, by omega⟩), ob_e, e1, ph_i32 (by omega), ck_e (inB_n (show J < 199 by omega) (by omega)), bd_e, ck_e (inB_n (show J < 199 by omega) (by omega)), nI_clamp (by omega), h J hm, bd_e, bd_e, nI_s, nI_s]
    exact a
theorem ad_loop {ev : EV} {th l1 P : Nat} (h2 : 2 ≤ P) (hP : P ≤ 199) {z : PS} {E : Cv} (hE : EQ z l1 E) (hs : S5 E) (hT : ∀ j, j < P → rI z (rf ev 106 th) j = nI (sqc P j P)) : ∀ (d n x : Nat), x + d = P → q_X7_pointsOn_68 ev th l1 (n + d + 1) (nI P) (nI (1 + cs (fun x => sqc P (spD E x % P).toNat P) x)) (nI x) z = some (nI (1 + cs (fun x => sqc P (spD E x % P).toNat P) P), z) := by
  intro d
  induction d with
  | zero =>
    intro n x hx
    have : x = P := by omega
    subst this
    rw [q_X7_pointsOn_68, if_pos (Int32.le_refl _)]
  | succ d ih =>
    intro n x hx
    obtain ⟨-, r2⟩ := pt_rng hs (x := x) (y := 0) (by omega) (by omega)
    have bx := em_lt (p := (P : Int)) (x := spD E x) (by omega)
    have e1 : spD E x % P = (((spD E x % P).toNat : Nat) : Int) := by omega
    rw [q_X7_pointsOn_68, if_neg (by rw [i_le (by omega) (by omega)]; omega), nI_L (by omega), c_disc hE, ob_e, nI_L (by omega), show ph ((a1 E * (x : Int) + a3 E) * (a1 E * x + a3 E) + 4 * (((x + a2 E) * x + a4 E) * x + a6 E)) = ph (spD E x) from rfl, c_rest (by omega) ⟨by omega, by omega⟩ (Or.inl ⟨by omega, by omega⟩), ob_e, e1, ph_i32 (by omega), ck_e (inB_n (show (spD E x % P).toNat < 199 by omega) (by omega)), nI_clamp (by omega), hT _ (by omega), i_add, bd_e, bd_e, nI_s]
    have := ih n (x + 1) (by omega)
    rw [cs_s, ← Nat.add_assoc] at this
    exact this
theorem sq_pt {P : Nat} (hp : Pr P) (h3 : 3 ≤ P) (E : Cv) (x : Nat) : sqc P (spD E x % P).toNat P = ptR E P x := by
  have bx := em_lt (p := (P : Int)) (x := spD E x) (by omega)
  have n2 : ¬ (P : Int) ∣ 2 := fun hd => by have := Int.le_of_dvd (by omega) hd; omega
  have key := cs_aff hp (α := 2) (β := a1 E * x + a3 E) n2 (Q := fun v => (P : Int) ∣ v * v - spD E x) (fun a b hab => by
    obtain ⟨q, hq⟩ := hab
    apply dv_iff
    refine ⟨-(q * (a + b)), ?_⟩
    have : b * b - spD E x - (a * a - spD E x) = -((a - b) * (a + b)) := by grind
    rw [this, hq]; grind)
  have e1 : sqc P (spD E x % P).toNat P = cs (fun T => if (P : Int) ∣ (T : Int) * T - spD E x then 1 else 0) P := by
    unfold sqc
    apply cs_cg
    intro t _
    have : t * t % P = (spD E x % P).toNat ↔ (P : Int) ∣ (t : Int) * t - spD E x := by
      have e : ((t * t % P : Nat) : Int) = (t : Int) * t % P := by push_cast; rfl
      rw [← Int.emod_eq_emod_iff_emod_sub_eq_zero.trans (show ((t : Int) * t - spD E x) % P = 0 ↔ (P : Int) ∣ (t : Int) * t - spD E x from ⟨Int.dvd_of_emod_eq_zero, Int.emod_eq_zero_of_dvd⟩)]
      omega
    by_cases h : (P : Int) ∣ (t : Int) * t - spD E x
    · rw [if_pos (this.mpr h), if_pos h]
    · rw [if_neg (fun e => h (this.mp e)), if_neg h]
  rw [e1, ← key]
  unfold ptR
  apply cs_cg
  intro y _
  have : (P : Int) ∣ (2 * (y : Int) + (a1 E * x + a3 E)) * (2 * y + (a1 E * x + a3 E)) - spD E x ↔ (P : Int) ∣ ptW E x y := by
    have e : (2 * (y : Int) + (a1 E * x + a3 E)) * (2 * y + (a1 E * x + a3 E)) - spD E x = 2 * (2 * ptW E x y) := by unfold spD ptW; grind
    rw [e]
    exact ⟨fun h => hp.c2 (by omega) (hp.c2 (by omega) h), fun h => Int.dvd_mul_of_dvd_right (Int.dvd_mul_of_dvd_right h)⟩
  by_cases h : (P : Int) ∣ ptW E x y
  · rw [if_pos (this.mpr h), if_pos h]
  · rw [if_neg (fun e => h (this.mp e)), if_neg h]
theorem p2_in {ev : EV} {z : PS} {l0' x A : Nat} {E : Cv} (hE : EQ z l0' E) (hs : S5 E) (hx : x < 2) (k4 : Int32 → Int32 → Option Int32) : ∀ (d n y : Nat), y + d = 2 → q_X7_pointsAtTwo_11 ev z l0' k4 (n + d + 1) (nI (A + cs (fun y => if (((2 : Nat) : Int)) ∣ ptW E x y then 1 else 0) y)) (nI x) (nI y) = k4 (nI (A + ptR E 2 x)) (nI (x + 1)) := by
  intro d
  induction d with
  | zero =>
    intro n y hy
    have : y = 2 := by omega
    subst this
    rw [q_X7_pointsAtTwo_11, if_pos (by decide), bd_e, nI_s]
    rfl
  | succ d ih =>
    intro n y hy
    obtain ⟨r1, -⟩ := pt_rng hs (x := x) (y := y) (by omega) (by omega)
    have hyy : y * y ≤ 2 * 2 := Nat.mul_le_mul (by omega) (by omega)
    have e0 : (y : Int) * y + (a1 E * x + a3 E) * y - (((x + a2 E) * x + a4 E) * x + a6 E) = ptW E x y := by unfold ptW; grind
    have md : ph (ptW E x y % 2) = 0 ↔ (((2 : Nat) : Int)) ∣ ptW E x y := mod_0 (p := 2) (by omega) (by omega)
    have st : q_X7_pointsAtTwo_11 ev z l0' k4 (n + (d + 1) + 1) (nI (A + cs (fun y => if (((2 : Nat) : Int)) ∣ ptW E x y then 1 else 0) y)) (nI x) (nI y) = if ph (ptW E x y % 2) = 0 then q_X7_pointsAtTwo_11 ev z l0' k4 (n + d + 1) (nI (A + cs (fun y => if (((2 : Nat) : Int)) ∣ ptW E x y then 1 else 0) y + 1)) (nI x) (nI (y + 1)) else q_X7_pointsAtTwo_11 ev z l0' k4 (n + d + 1) (nI (A + cs (fun y => if (((2 : Nat) : Int)) ∣ ptW E x y then 1 else 0) y)) (nI x) (nI (y + 1)) := by
      rw [q_X7_pointsAtTwo_11, if_neg (by rw [show (2 : Int32) = nI 2 from rfl, i_le (by omega) (by omega)]; omega), nI_L (show x < 2147483648 by omega), c_slope hE, ob_e, i_mulN, nI_L (show y * y < 2147483648 by omega), nI_L (show y < 2147483648 by omega), ph_mul, ph_add, bd_e, c_right hE, ob_e, ph_sub, show (((y * y : Nat) : Int)) = (y : Int) * y by push_cast; rfl, e0, show (2 : Int64) = ph 2 from rfl, c_rest (by omega) ⟨by omega, by omega⟩ (Or.inl ⟨by omega, by omega⟩), ob_e]
      simp only [bd_e, nI_s]
      rfl
    rw [st]
    have := ih n (y + 1) (by omega)
    rw [cs_s] at this
    by_cases h : (((2 : Nat) : Int)) ∣ ptW E x y
    · rw [if_pos h, ← Nat.add_assoc] at this
      rw [if_pos (md.mpr h)]
      exact this
    · rw [if_neg h] at this
      rw [if_neg (fun e => h (md.mp e))]
      exact this
theorem c_p2 {ev : EV} {z : PS} {l0' : Nat} {E : Cv} (hE : EQ z l0' E) (hs : S5 E) : g_X7_pointsAtTwo ev z l0' = some (nI (1 + ptN E 2)) := by
  have loop : ∀ (d n x : Nat), x + d = 2 → q_X7_pointsAtTwo_4 ev z l0' (n + d + 1) (nI (1 + cs (ptR E 2) x)) (nI x) = some (nI (1 + ptN E 2)) := by
    intro d
    induction d with
    | zero =>
      intro n x hx
      have : x = 2 := by omega
      subst this
      rw [q_X7_pointsAtTwo_4, if_pos (by decide)]
      rfl
    | succ d ih =>
      intro n x hx
      obtain ⟨fn, hfn⟩ := FU_ge (d := 2) (by omega)
      have := p2_in (ev := ev) (A := 1 + cs (ptR E 2) x) hE hs (show x < 2 by omega) (q_X7_pointsAtTwo_4 ev z l0' (n + (d + 1))) 2 fn 0 (by omega)
      rw [q_X7_pointsAtTwo_4, if_neg (by rw [show (2 : Int32) = nI 2 from rfl, i_le (by omega) (by omega)]; omega), hfn]
      refine Eq.trans this ?_
      have := ih n (x + 1) (by omega)
      rw [cs_s, ← Nat.add_assoc] at this
      exact this
  obtain ⟨fn, hfn⟩ := FU_ge (d := 2) (by omega)
  unfold g_X7_pointsAtTwo
  rw [hfn]
  exact loop 2 fn 0 (by omega)
theorem c_pts {ev : EV} {th l1 P : Nat} {z : PS} {E : Cv} (hE : EQ z l1 E) (hs : S5 E) (hp : Pr P) (hP : P ≤ 199) : ∃ z', g_X7_pointsOn ev z th l1 (nI P) = some (nI (1 + ptN E P), z') ∧ F106 ev th z z' := by
  have h2 := pr_2 hp
  unfold g_X7_pointsOn
  by_cases e2 : P = 2
  · subst e2
    exact ⟨z, by rw [if_pos (by decide), c_p2 hE hs, ob_e], F106.rf ev th z⟩
  · rw [if_neg (show ¬ nI P = (2 : Int32) from nI_ne (b := 2) (by omega) (by omega) e2)]
    obtain ⟨fn, hfn⟩ := FU_ge (d := P) (by omega)
    obtain ⟨z1, a1', a2', a3'⟩ := z_loop (ev := ev) (th := th) (l1 := l1) hP P fn 0 z (by omega) (fun j hj => by omega)
    obtain ⟨z2, b1, b2', b3⟩ := sq_loop (ev := ev) (th := th) (l1 := l1) h2 hP P fn 0 z1 (by omega) (fun j hj => a3' j hj)
    have c := ad_loop (ev := ev) (th := th) h2 hP (b2'.eq (a2'.eq hE)) hs b3 P fn 0 (by omega)
    refine ⟨z2, ?_, a2'.tr b2'⟩
    have e : cs (fun x : Nat => sqc P (spD E x % P).toNat P) P = ptN E P := cs_cg P (fun x _ => sq_pt hp (by omega) E x)
    rw [e] at c
    rw [hfn]
    refine Eq.trans a1' ?_
    rw [hfn]
    refine Eq.trans b1 ?_
    rw [hfn]
    exact c
