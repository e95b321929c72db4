/-! shrinking is told of by the list; the end is one -/
theorem Out_nonmin {p : Int} (G : Cv) : Out p (sc G p) 10 0 0 0 := by
  have e1 : a1 (sc G p) = p * a1 G := rfl
  have e2 : a2 (sc G p) = p ^ 2 * a2 G := rfl
  have e3 : a3 (sc G p) = p ^ 3 * a3 G := rfl
  have e4 : a4 (sc G p) = p ^ 4 * a4 G := rfl
  have e6 : a6 (sc G p) = p ^ 6 * a6 G := rfl
  have m : ∀ (j k : Nat) (x : Int), j ≤ k → p ^ j ∣ p ^ k * x := fun j k x h => Int.dvd_trans (dv_pow (Int.dvd_refl _) h) ⟨x, rfl⟩
  have m1 : ∀ (k : Nat) (x : Int), 1 ≤ k → p ∣ p ^ k * x := fun k x h => by have := m 1 k x h; rwa [Int.pow_one] at this
  refine ⟨sc G p, Eqv.rf _, ⟨?_, ?_, ?_⟩, Or.inr ⟨?_, rfl, Or.inr (Or.inr (Or.inr ⟨?_, ?_, ?_, sc G p, Eqv.rf _, ⟨?_, ?_, ?_, ?_, ?_⟩, ?_⟩))⟩⟩
  · rw [e3]; exact m1 _ _ (by omega)
  · rw [e4]; exact m1 _ _ (by omega)
  · rw [e6]; exact m1 _ _ (by omega)
  · rw [b2_sc]; exact m1 _ _ (by omega)
  · rw [e6]; exact m _ _ _ (by omega)
  · rw [b8_sc]; exact m _ _ _ (by omega)
  · rw [b6_sc]; exact m _ _ _ (by omega)
  · rw [e1]; exact ⟨_, rfl⟩
  · rw [e2]; exact m1 _ _ (by omega)
  · rw [e3]; exact m _ _ _ (by omega)
  · rw [e4]; exact m _ _ _ (by omega)
  · rw [e6]; exact m _ _ _ (by omega)
  · refine ⟨p * a2 G, p ^ 2 * a4 G, p ^ 3 * a6 G, by rw [e2]; grind, by rw [e4]; grind, by rw [e6]; grind, Or.inr (Or.inr ⟨?_, ?_, rfl, sc G p, Eqv.rf _, ⟨?_, ?_, ?_, ?_, ?_⟩, p * a3 G, -(p ^ 2 * a6 G), by rw [e3]; grind, by rw [e6]; grind, Or.inr ⟨?_, sc G p, Eqv.rf _, ⟨?_, ?_, ?_, ?_, ?_⟩, Or.inr (Or.inr ⟨?_, ?_, rfl, rfl⟩)⟩⟩)⟩
    · unfold cubD
      exact ⟨p ^ 5 * (18 * a2 G * a4 G * a6 G + a2 G * a2 G * a4 G * a4 G - 4 * a2 G * a2 G * a2 G * a6 G - 4 * a4 G * a4 G * a4 G - 27 * a6 G * a6 G), by grind⟩
    · exact ⟨p * (a2 G * a2 G - 3 * a4 G), by grind⟩
    · rw [e1]; exact ⟨_, rfl⟩
    · rw [e2]; exact m _ _ _ (by omega)
    · rw [e3]; exact m _ _ _ (by omega)
    · rw [e4]; exact m _ _ _ (by omega)
    · rw [e6]; exact m _ _ _ (by omega)
    · exact ⟨p * (a3 G * a3 G + 4 * a6 G), by grind⟩
    · rw [e1]; exact ⟨_, rfl⟩
    · rw [e2]; exact m _ _ _ (by omega)
    · rw [e3]; exact m _ _ _ (by omega)
    · rw [e4]; exact m _ _ _ (by omega)
    · rw [e6]; exact m _ _ _ (by omega)
    · rw [e4]; exact m _ _ _ (by omega)
    · rw [e6]; exact m _ _ _ (by omega)
/-- it can't be shrunk by p -/
def Min (p : Int) (F : Cv) : Prop := ¬ ∃ G, Eqv F (sc G p)
theorem Out_min {p : Int} (hp : p = 2 ∨ p = 3) {F : Cv} {k i c sp : Nat} (h : Out p F k i c sp) (hk : k ≠ 10) : Min p F := by
  intro ⟨G, hG⟩
  exact hk (Out_one hp hG h (Out_nonmin G)).1
theorem min_dd {p : Int} {F : Cv} (h : ¬ p ∣ dd F) : Min p F := by
  intro ⟨G, hG⟩
  obtain ⟨r, s, t, e⟩ := hG
  have : dd F = p ^ 12 * dd G := by rw [← dd_sc, e, dd_sh]
  exact h (by rw [this]; exact ⟨p ^ 11 * dd G, by grind⟩)
theorem Ends.min {p : Int} (hp : p = 2 ∨ p = 3) {F : Cv} {v : Nat → Int32} (h : Ends p F v) : Min p F := by
  rcases h with ⟨h, -⟩ | ⟨-, N, k, i, c, sp, -, -, h, hk, -⟩
  · exact min_dd h
  · exact Out_min hp h hk
theorem Eqv.dd {E F : Cv} (h : Eqv E F) : dd F = dd E := by obtain ⟨r, s, t, rfl⟩ := h; exact dd_sh E r s t
theorem Eqv.c4 {E F : Cv} (h : Eqv E F) : c4 F = c4 E := by obtain ⟨r, s, t, rfl⟩ := h; exact c4_sh E r s t
theorem Eqv.c6 {E F : Cv} (h : Eqv E F) : c6 F = c6 E := by obtain ⟨r, s, t, rfl⟩ := h; exact c6_sh E r s t
theorem eqv_canc {E F : Cv} {u : Int} (hu : u ≠ 0) (h : Eqv (sc E u) (sc F u)) : Eqv E F := by
  have h4 := h.c4
  have h6 := h.c6
  rw [c4_sc, c4_sc] at h4
  rw [c6_sc, c6_sc] at h6
  refine eqv_of_c ?_ ?_
  · exact Int.eq_of_mul_eq_mul_left (Int.pow_ne_zero hu) h4.symm
  · exact Int.eq_of_mul_eq_mul_left (Int.pow_ne_zero hu) h6.symm
theorem n_one {p : Int} (hp : 2 ≤ p) {E F F' : Cv} {n n' : Nat} (h : Eqv E (sc F (p ^ n))) (h' : Eqv E (sc F' (p ^ n'))) (hm : Min p F) (hm' : Min p F') : n = n' ∧ Eqv F F' := by
  have key : ∀ {F F' : Cv} {n n' : Nat}, Eqv E (sc F (p ^ n)) → Eqv E (sc F' (p ^ n')) → Min p F → n ≤ n' → n = n' ∧ Eqv F F' := by
    intro F F' n n' h h' hm hn
    obtain ⟨d, rfl⟩ : ∃ d, n' = d + n := ⟨n' - n, by omega⟩
    have h1 := h.sy.tr h'
    rw [Int.pow_add, ← sc_sc] at h1
    have h2 := eqv_canc (Int.pow_ne_zero (by omega)) h1
    cases d with
    | zero => rw [Int.pow_zero, sc_1] at h2; exact ⟨by omega, h2⟩
    | succ d =>
      rw [Int.pow_succ, ← sc_sc] at h2
      exact absurd ⟨_, h2⟩ hm
  rcases Nat.le_total n n' with hn | hn
  · exact key h h' hm hn
  · have := key h' h hm' hn
    exact ⟨this.1.symm, this.2.sy⟩
theorem v_one {p x : Int} {N N' : Nat} (h1 : p ^ N ∣ x) (h2 : ¬ p ^ (N + 1) ∣ x) (h3 : p ^ N' ∣ x) (h4 : ¬ p ^ (N' + 1) ∣ x) : N = N' := by
  rcases Nat.lt_trichotomy N N' with h | h | h
  · exact absurd (dv_pow h3 (by omega)) h2
  · exact h
  · exact absurd (dv_pow h1 (by omega)) h4
theorem Ends_one {p : Int} (hp : p = 2 ∨ p = 3) {F F' : Cv} {v v' : Nat → Int32} (hE : Eqv F F') (h : Ends p F v) (h' : Ends p F' v') : ∀ j, j < 7 → v j = v' j := by
  have hd := hE.dd
  rcases h with ⟨h1, h2⟩ | ⟨h1, N, k, i, c, sp, h2, h3, h4, h5, h6⟩ <;> rcases h' with ⟨g1, g2⟩ | ⟨g1, N', k', i', c', sp', g2, g3, g4, g5, g6⟩
  · intro j hj; rw [h2 j hj, g2 j hj]
  · rw [hd] at g1; exact absurd g1 h1
  · rw [hd] at g1; exact absurd h1 g1
  · rw [hd] at g2 g3
    have hN := v_one h2 h3 g2 g3
    obtain ⟨e1, e2, e3, e4⟩ := Out_one hp hE h4 g4
    intro j hj
    rw [h6 j hj, g6 j hj, hN, e1, e2, e3, e4]
theorem Ends_sc {p : Int} (hp : p = 2 ∨ p = 3) {u : Int} (hu : ¬ p ∣ u) {F : Cv} {v : Nat → Int32} (h : Ends p F v) : Ends p (sc F u) v := by
  have hu12 := pow_nd hp hu 12
  have e : ∀ n, p ^ n ∣ dd (sc F u) ↔ p ^ n ∣ dd F := fun n => by rw [dd_sc]; exact cop_dv hp hu12 n _
  have e1 := e 1
  rw [Int.pow_one] at e1
  rcases h with ⟨h1, h2⟩ | ⟨h1, N, k, i, c, sp, h2, h3, h4, h5, h6⟩
  · exact Or.inl ⟨fun h => h1 (e1.mp h), h2⟩
  · exact Or.inr ⟨e1.mpr h1, N, k, i, c, sp, (e N).mpr h2, fun h => h3 ((e (N + 1)).mp h), Out_sc hp hu h4, h5, h6⟩
/-- both at once: the model's end of E and a reading of L, of which E is a multiple -/
theorem at23 {p : Int} (hp : p = 2 ∨ p = 3) {E F L : Cv} {n k : Nat} {u : Int} {v v' : Nat → Int32} (h : Eqv E (sc F (p ^ n))) (hF : Ends p F v) (hL : Eqv E (sc L (u * p ^ k))) (hu : ¬ p ∣ u) (hE : Ends p L v') : n = k ∧ ∀ j, j < 7 → v j = v' j := by
  rw [← sc_sc] at hL
  have e' := Ends_sc hp hu hE
  obtain ⟨h1, h2⟩ := n_one (by omega) h hL (hF.min hp) (e'.min hp)
  exact ⟨h1, Ends_one hp h2 hF e'⟩
