/-! Kraus's conditions under a unit -/
theorem odd_sq {u : Int} (h : u % 2 = 1) : ∃ t, u * u = 8 * t + 1 := by
  obtain ⟨v, rfl⟩ : ∃ v, u = 2 * v + 1 := ⟨u / 2, by omega⟩
  obtain ⟨q, i, rfl, hi⟩ := md2 v
  rcases hi with rfl | rfl
  · exact ⟨2 * q * q + q, by grind⟩
  · exact ⟨2 * q * q + 3 * q + 1, by grind⟩
theorem K2_u {u x y : Int} (h : u % 2 = 1) (k : K2 (u ^ 4 * x) (u ^ 6 * y)) : K2 x y := by
  obtain ⟨t, ht⟩ := odd_sq h
  have e4 : u ^ 4 = 16 * (4 * t * t + t) + 1 := by rw [show u ^ 4 = (u * u) * (u * u) by grind, ht]; grind
  have e6 : u ^ 6 = 8 * (64 * t * t * t + 24 * t * t + 3 * t) + 1 := by rw [show u ^ 6 = (u * u) * (u * u) * (u * u) by grind, ht]; grind
  rw [e4, e6] at k
  generalize 4 * t * t + t = A at *
  generalize 64 * t * t * t + 24 * t * t + 3 * t = B at *
  have x1 : (16 * A + 1) * x = 16 * (A * x) + x := by grind
  have y1 : (8 * B + 1) * y = 8 * (B * y) + y := by grind
  rw [x1, y1] at k
  unfold K2 at *
  rcases k with k | ⟨k1, k2⟩
  · left; omega
  · right
    refine ⟨by omega, ?_⟩
    have h8 : y % 8 = 0 := by omega
    obtain ⟨w, rfl⟩ : ∃ w, y = 8 * w := ⟨y / 8, by omega⟩
    have : 8 * (B * (8 * w)) = 64 * (B * w) := by grind
    rw [this] at k2
    omega
theorem K3_u {u y : Int} (h : ¬ (3 : Int) ∣ u) (k : K3 (u ^ 6 * y)) : K3 y := by
  have hu := pow_nd (Or.inr rfl) h 6
  unfold K3 at *
  rcases k with k | k
  · left
    intro h9
    apply k
    obtain ⟨w, hw⟩ : (9 : Int) ∣ y := Int.dvd_of_emod_eq_zero h9
    exact Int.emod_eq_zero_of_dvd ⟨u ^ 6 * w, by rw [hw]; grind⟩
  · right
    have h27 : (3 : Int) ^ 3 ∣ u ^ 6 * y := Int.dvd_of_emod_eq_zero k
    have := (cop_dv (Or.inr rfl) hu 3 y).mp h27
    exact Int.emod_eq_zero_of_dvd this
/-- an equation with these c4, c6 -/
theorem kr_ex {x y D : Int} (h : x * x * x - y * y = 1728 * D) (k2 : K2 x y) (k3 : K3 y) : ∃ G, c4 G = x ∧ c6 G = y := ⟨lead x y, kraus h k2 k3⟩
theorem Min.f {P : Nat} (hp : Pr P) (h5 : 5 ≤ P) {L : Cv} (h : Min P L) : MinF P L := by
  intro ⟨⟨x, hx⟩, ⟨y, hy⟩⟩
  apply h
  have hne := hp.ne
  have h1728 : ¬ (P : Int) ∣ 1728 := by
    have h5' : 5 ≤ (P : Int) := by omega
    have n1 : ¬ (P : Int) ∣ 1 := fun hd => by have := Int.le_of_dvd (by omega) hd; omega
    have := (hp.n23 h5' (hp.n23 h5' (hp.n23 h5' (hp.n23 h5' (hp.n23 h5' (hp.n23 h5' (hp.n23 h5' (hp.n23 h5' (hp.n23 h5' n1).2).2).2).1).1).1).1).1).1
    exact this
  have e := dd_1728 L
  rw [hx, hy] at e
  obtain ⟨D, hD⟩ : (P : Int) ^ 12 ∣ dd L := by
    apply hp.can h1728 12
    exact ⟨x * x * x - y * y, by rw [e]; grind⟩
  have e2 : x * x * x - y * y = 1728 * D := by
    apply Int.eq_of_mul_eq_mul_left (a := (P : Int) ^ 12) (Int.pow_ne_zero hne)
    rw [hD] at e
    grind
  have hodd := hp.odd (by omega)
  obtain ⟨G, g4, g6⟩ := kr_ex e2 (K2_u (u := P) (by omega) (by rw [← hx, ← hy]; exact K2_of L)) (K3_u (u := P) (fun h => by
    rcases (show P % 3 = 0 by omega) with h3
    rcases hp.2 3 ((P / 3 : Nat) : Int) ⟨1, by omega⟩ with h | h
    · exact hp.n3 (by omega) h
    · have := Int.le_of_dvd (by omega) h; omega) (by rw [← hy]; exact K3_of L))
  refine ⟨G, eqv_of_c ?_ ?_⟩
  · rw [c4_sc, g4, hx]
  · rw [c6_sc, g6, hy]
/-- an equation E worked with, its least one L, and by how much -/
def Pair (E L : Cv) (u : Int) : Prop := (0 < u) ∧ (Eqv E (sc L u)) ∧ (LB L) ∧ (dd E ≠ 0) ∧ (b9 (dd E)) ∧ (b9 (c4 E)) ∧ (b9 (c6 E)) ∧ (BndU E) ∧ (BndB E) ∧ (∀ P : Nat, Pr P → Min P L) ∧ (∀ P : Nat, Pr P → PA P L) ∧ (∀ P : Nat, Pr P → (P : Int) ∣ c4 L → (P : Int) ^ 4 ∣ dd L → P ≤ 165) ∧ (H3 3 E)
theorem Pair.pos {E L : Cv} {u : Int} (h : Pair E L u) : 0 < u := h.1
theorem Pair.eqv {E L : Cv} {u : Int} (h : Pair E L u) : Eqv E (sc L u) := h.2.1
theorem Pair.lb {E L : Cv} {u : Int} (h : Pair E L u) : LB L := h.2.2.1
theorem Pair.d0 {E L : Cv} {u : Int} (h : Pair E L u) : dd E ≠ 0 := h.2.2.2.1
theorem Pair.db {E L : Cv} {u : Int} (h : Pair E L u) : b9 (dd E) := h.2.2.2.2.1
theorem Pair.b4 {E L : Cv} {u : Int} (h : Pair E L u) : b9 (c4 E) := h.2.2.2.2.2.1
theorem Pair.b6 {E L : Cv} {u : Int} (h : Pair E L u) : b9 (c6 E) := h.2.2.2.2.2.2.1
theorem Pair.bu {E L : Cv} {u : Int} (h : Pair E L u) : BndU E := h.2.2.2.2.2.2.2.1
theorem Pair.bb {E L : Cv} {u : Int} (h : Pair E L u) : BndB E := h.2.2.2.2.2.2.2.2.1
theorem Pair.min {E L : Cv} {u : Int} (h : Pair E L u) : ∀ P : Nat, Pr P → Min P L := h.2.2.2.2.2.2.2.2.2.1
theorem Pair.pa {E L : Cv} {u : Int} (h : Pair E L u) : ∀ P : Nat, Pr P → PA P L := h.2.2.2.2.2.2.2.2.2.2.1
theorem Pair.p4 {E L : Cv} {u : Int} (h : Pair E L u) : ∀ P : Nat, Pr P → (P : Int) ∣ c4 L → (P : Int) ^ 4 ∣ dd L → P ≤ 165 := h.2.2.2.2.2.2.2.2.2.2.2.1
theorem Pair.h3 {E L : Cv} {u : Int} (h : Pair E L u) : H3 3 E := h.2.2.2.2.2.2.2.2.2.2.2.2
theorem Pair.ddE {E L : Cv} {u : Int} (h : Pair E L u) : dd E = u ^ 12 * dd L := by rw [← h.eqv.dd, dd_sc]
theorem Pair.dL0 {E L : Cv} {u : Int} (h : Pair E L u) : dd L ≠ 0 := by
  intro h0
  have := h.ddE
  rw [h0, Int.mul_zero] at this
  exact h.d0 this
theorem Pair.dLb {E L : Cv} {u : Int} (h : Pair E L u) : b9 (dd L) := by
  have h12 : 0 < u ^ 12 := Int.pow_pos h.pos
  have := dv_bnd (q := u ^ 12) (b := dd L) (m := 1) (by omega) (by omega) (by rw [← h.ddE]; exact h.db)
  exact ⟨by omega, by omega⟩
/-- how often p goes into u -/
theorem val_ex {P : Nat} (hp : Pr P) : ∀ (n : Nat) (u : Int), 0 < u → u.natAbs < n → ∃ (k : Nat) (w : Int), u = w * (P : Int) ^ k ∧ ¬ (P : Int) ∣ w ∧ 0 < w := by
  intro n
  induction n with
  | zero => intro u _ h; omega
  | succ n ih =>
    intro u hu hn
    by_cases hd : (P : Int) ∣ u
    · obtain ⟨v, hv⟩ := hd
      have hp1 := hp.1
      have hv0 : 0 < v := by
        rcases (show v ≤ 0 ∨ 0 < v by omega) with h | h
        · have := Int.mul_nonneg (show 0 ≤ (P : Int) by omega) (show 0 ≤ -v by omega)
          have e : (P : Int) * -v = -(P * v) := by grind
          omega
        · exact h
      have hlt : v < u := by
        have := Int.mul_le_mul_of_nonneg_right hp1 (show 0 ≤ v by omega)
        omega
      obtain ⟨k, w, h1, h2, h3⟩ := ih v hv0 (by omega)
      exact ⟨k + 1, w, by rw [hv, h1, Int.pow_succ]; grind, h2, h3⟩
    · exact ⟨0, u, by rw [Int.pow_zero, Int.mul_one], hd, hu⟩
theorem Pair.lays {E L : Cv} {u : Int} (h : Pair E L u) {ev : EV} {m P : Nat} {z : PS} (hd : rf ev 123 m ≠ rf ev 129 m) (A : AM ev m z E) (hp : Pr P) (hP : P < 2147483648) {v : Nat → Int32} (hv : RekG P L v) {k : Nat} {w : Int} (hu : u = w * (P : Int) ^ k) (hw : ¬ (P : Int) ∣ w) :
    ∃ z', g_X8_laysAt ev z m (ph P) = some z' ∧ Fr ev m z z' ∧ rI z' (rf ev 127 m) 7 = nI k ∧ (∀ j, j < 6 → rI z' (rf ev 127 m) j = v j) ∧ (P ≤ 999983 → rI z' (rf ev 127 m) 6 = v 6) := by
  have hE := h.eqv
  rw [hu] at hE
  by_cases h23 : P = 2 ∨ P = 3
  · have hp' : (P : Int) = 2 ∨ (P : Int) = 3 := by omega
    obtain ⟨z', F, nn, g1, g2, g3, g4, g5, g6⟩ := n_lays hd hp' A h.bu (Or.inr h.bb) h.d0 h.db (by
      intro h3 F n hF
      exact h.h3 rfl F n hF)
    obtain ⟨e1, e2⟩ := at23 hp' g3 g6 hE hw (hv.ends h23)
    exact ⟨z', g1, g4, by rw [g5, e1], fun j hj => e2 j (by omega), fun _ => e2 6 (by omega)⟩
  · have h5 : 5 ≤ P := by rcases pr_cases hp with h | h | h <;> omega
    obtain ⟨z', g1, g2, g3, g4, g5⟩ := m_far (z := wI z (rf ev 127 m) 7 0) (show AM ev m (wI z (rf ev 127 m) 7 0) E from A) hp h5 hP hw hE h.b4 h.b6 h.db h.d0 ((h.min P hp).f hp h5) hv (h.p4 P hp) (h.pa P hp).2.1
    refine ⟨z', ?_, (Fr_at ev m z 7 0).tr g2, g3, g4, g5⟩
    unfold g_X8_laysAt
    rw [bd_e, if_neg (by rw [show (3 : Int64) = ph 3 from rfl, ph_le ⟨by omega, by omega⟩ ⟨by omega, by omega⟩]; omega), g1, ob_e]
