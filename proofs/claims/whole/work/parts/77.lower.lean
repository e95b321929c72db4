/-! the class's Lowering -/
theorem pr_n3 {P : Nat} (hp : Pr P) (h : P ≠ 3) : ¬ (3 : Int) ∣ (P : Int) := by
  intro hd
  have hp1 := hp.1
  obtain ⟨m, hm⟩ := hd
  rcases hp.2 3 m ⟨1, by omega⟩ with h1 | h1
  · have := Int.le_of_dvd (by omega) h1
    have : P = 2 := by omega
    subst this
    omega
  · have := Int.le_of_dvd (by omega) h1; omega
theorem pr_n2 {P : Nat} (hp : Pr P) (h : P ≠ 2) : ¬ (2 : Int) ∣ (P : Int) := by
  have := hp.1
  have := hp.odd (by omega)
  omega
def Whl (P : Nat) (x y : Int) : Prop := (P = 2 → K2 x y) ∧ (P = 3 → K3 y)
theorem pw_pw (p : Int) (k n : Nat) : (p ^ k) ^ n = p ^ (n * k) := by rw [← Int.pow_mul, Nat.mul_comm]
theorem low_ex {P : Nat} (hp : Pr P) {G : Cv} {k : Nat} {x y D : Int} (e4 : c4 G = (P : Int) ^ (4 * k) * x) (e6 : c6 G = (P : Int) ^ (6 * k) * y) (e12 : dd G = (P : Int) ^ (12 * k) * D) (hw : Whl P x y) : ∃ G', c4 G' = x ∧ c6 G' = y ∧ dd G' = D ∧ Eqv G (sc G' ((P : Int) ^ k)) := by
  have hne := hp.ne
  have e := dd_1728 G
  have f12 : (P : Int) ^ (12 * k) = P ^ (4 * k) * P ^ (4 * k) * P ^ (4 * k) := by rw [← Int.pow_add, ← Int.pow_add]; congr 1; omega
  have f12' : (P : Int) ^ (12 * k) = P ^ (6 * k) * P ^ (6 * k) := by rw [← Int.pow_add]; congr 1; omega
  have e2 : x * x * x - y * y = 1728 * D := by
    apply Int.eq_of_mul_eq_mul_left (a := (P : Int) ^ (12 * k)) (Int.pow_ne_zero hne)
    have g1 : (P : Int) ^ (12 * k) * (x * x * x - y * y) = c4 G * c4 G * c4 G - c6 G * c6 G := by
      rw [Int.mul_sub]
      have a : (P : Int) ^ (12 * k) * (x * x * x) = c4 G * c4 G * c4 G := by rw [f12, e4]; generalize (P : Int) ^ (4 * k) = A; grind
      have b : (P : Int) ^ (12 * k) * (y * y) = c6 G * c6 G := by rw [f12', e6]; generalize (P : Int) ^ (6 * k) = A; grind
      rw [a, b]
    rw [g1, ← e, e12]; generalize (P : Int) ^ (12 * k) = A; grind
  have hk2 : K2 x y := by
    by_cases h2 : P = 2
    · exact hw.1 h2
    · have := pow_nd (p := 2) (Or.inl rfl) (pr_n2 hp h2) k
      refine K2_u (u := (P : Int) ^ k) (by omega) ?_
      rw [pw_pw, pw_pw, ← e4, ← e6]; exact K2_of G
  have hk3 : K3 y := by
    by_cases h3 : P = 3
    · exact hw.2 h3
    · have := pow_nd (p := 3) (Or.inr rfl) (pr_n3 hp h3) k
      refine K3_u (u := (P : Int) ^ k) this ?_
      rw [pw_pw, ← e6]; exact K3_of G
  obtain ⟨G', g4, g6⟩ := kr_ex e2 hk2 hk3
  refine ⟨G', g4, g6, ?_, eqv_of_c ?_ ?_⟩
  · have := dd_1728 G'
    rw [g4, g6, e2] at this
    omega
  · rw [c4_sc, pw_pw, g4, e4]
  · rw [c6_sc, pw_pw, g6, e6]
theorem v_le {p x : Int} {v : Nat} (h1 : p ^ v ∣ x) (h2 : ¬ p ^ (v + 1) ∣ x) (j : Nat) : j ≤ v ↔ p ^ j ∣ x := by
  constructor
  · intro h; exact dv_pow h1 h
  · intro h
    rcases Nat.lt_or_ge v j with h3 | h3
    · exact absurd (dv_pow h h3) h2
    · exact h3
theorem i_min {a b : Nat} (ha : a < 1000) (hb : b < 1000) : (if nI a < nI b then nI a else nI b) = nI (min a b) := by
  by_cases h : a < b
  · rw [if_pos ((nI_ltI (by omega) (by omega)).mpr h)]; congr 1; omega
  · rw [if_neg (fun h' => h ((nI_ltI (by omega) (by omega)).mp h'))]; congr 1; omega
theorem c_most {P : Nat} (hp : Pr P) (hP : P < 2147483648) {x y D : Int} (hx : inR x) (hy : inR y) (hD : inR D) (hD0 : D ≠ 0) : ∃ K, K ≤ 5 ∧ g_X3_mostShrinks (ph x) (ph y) (ph D) (ph P) = some (nI K) ∧ ∀ j, j ≤ K ↔ ((P : Int) ^ (4 * j) ∣ x ∧ (P : Int) ^ (6 * j) ∣ y ∧ (P : Int) ^ (12 * j) ∣ D) := by
  obtain ⟨w, w1, w2, w3, w4⟩ := c_times (p := P) (x := D) hp.1 (by omega) hD0 hD
  have hw := v_le w2 w3
  unfold g_X3_mostShrinks
  rw [w4, ob_e, bd_e, show (12 : Int32) = nI 12 from rfl, i_div (by omega) (by omega) (by omega)]
  have zx : ∀ q : Int, inR q → ((ph q = (0 : Int64)) ↔ q = 0) := fun q hq => by rw [l0, ph_eq hq z_R]
  have d0 : ∀ q : Int, q ∣ 0 := fun q => ⟨0, by omega⟩
  by_cases h4 : x = 0
  · rw [if_pos ((zx x hx).mpr h4)]
    by_cases h6 : y = 0
    · rw [if_pos ((zx y hy).mpr h6)]
      refine ⟨w / 12, by omega, rfl, fun j => ?_⟩
      rw [h4, h6, ← hw]
      constructor
      · intro h; exact ⟨d0 _, d0 _, by omega⟩
      · intro h; have := h.2.2; omega
    · rw [if_neg (fun h => h6 ((zx y hy).mp h))]
      obtain ⟨b, b1, b2, b3, b4⟩ := c_times (p := P) (x := y) hp.1 (by omega) h6 hy
      have hb := v_le b2 b3
      rw [b4, ob_e, show (6 : Int32) = nI 6 from rfl, i_div (by omega) (by omega) (by omega), i_min (by omega) (by omega), bd_e]
      refine ⟨_, by omega, rfl, fun j => ?_⟩
      rw [h4, ← hw, ← hb]
      constructor
      · intro h; exact ⟨d0 _, by omega, by omega⟩
      · intro ⟨_, h1, h2⟩; omega
  · rw [if_neg (fun h => h4 ((zx x hx).mp h))]
    obtain ⟨a, a1, a2, a3, a4⟩ := c_times (p := P) (x := x) hp.1 (by omega) h4 hx
    have ha := v_le a2 a3
    rw [a4, ob_e, show (4 : Int32) = nI 4 from rfl, i_div (by omega) (by omega) (by omega), i_min (by omega) (by omega), bd_e]
    by_cases h6 : y = 0
    · rw [if_pos ((zx y hy).mpr h6)]
      refine ⟨_, by omega, rfl, fun j => ?_⟩
      rw [h6, ← hw, ← ha]
      constructor
      · intro h; exact ⟨by omega, d0 _, by omega⟩
      · intro ⟨h1, _, h2⟩; omega
    · rw [if_neg (fun h => h6 ((zx y hy).mp h))]
      obtain ⟨b, b1, b2, b3, b4⟩ := c_times (p := P) (x := y) hp.1 (by omega) h6 hy
      have hb := v_le b2 b3
      rw [b4, ob_e, show (6 : Int32) = nI 6 from rfl, i_div (by omega) (by omega) (by omega), i_min (by omega) (by omega), bd_e]
      refine ⟨_, by omega, rfl, fun j => ?_⟩
      rw [← hw, ← hb, ← ha]
      constructor
      · intro h; exact ⟨by omega, by omega, by omega⟩
      · intro ⟨h1, h2, h3⟩; omega
theorem c_shr {P e : Nat} (hk : PK P e) (he : e < 1000) {x : Int} (hR : inR ((P : Int) ^ e * x)) : g_X3_shrunk (ph ((P : Int) ^ e * x)) (ph P) (nI e) = some (ph x) := by
  unfold g_X3_shrunk
  rw [c_power _ (by omega), ob_e, c_quot_ex hk.2.2.1 hk.2.2.2.1 hR, ob_e]
theorem ph_m {x m k : Int} (hm : 0 < m) (hm2 : m < 1000) (hk : 0 ≤ k ∧ k < 1000) : ph (x % m) = ph k ↔ x % m = k := by
  have k1 := Int.emod_nonneg x (show m ≠ 0 by omega)
  have k2 := Int.emod_lt_of_pos x hm
  rw [ph_eq ⟨by omega, by omega⟩ ⟨by omega, by omega⟩]
theorem c_whole {P : Nat} (hP : P < 2147483648) {x y : Int} (hx : inR x) (hy : inR y) : (Whl P x y → g_X3_isWhole (ph x) (ph y) (nI P) = some 1) ∧ (¬ Whl P x y → g_X3_isWhole (ph x) (ph y) (nI P) = some 0) := by
  have r : ∀ (q m : Int), inR q → 0 < m → m < 1000 → g_X4_rest (ph q) (ph m) = some (ph (q % m)) := fun q m hq h1 h2 => c_rest h1 ⟨by omega, by omega⟩ (Or.inl hq)
  unfold g_X3_isWhole
  by_cases h2 : P = 2
  · have hw : Whl P x y ↔ K2 x y := ⟨fun h => h.1 h2, fun h => ⟨fun _ => h, fun h3 => by omega⟩⟩
    rw [hw, if_pos (by rw [h2]; rfl), show (32 : Int64) = ph 32 from rfl, show (4 : Int64) = ph 4 from rfl, show (16 : Int64) = ph 16 from rfl, show (3 : Int64) = ph 3 from rfl, show (8 : Int64) = ph 8 from rfl, l0,
      r y 32 hy (by omega) (by omega), ob_e, r y 4 hy (by omega) (by omega), ob_e, r x 16 hx (by omega) (by omega)]
    unfold K2
    by_cases c1 : y % 4 = 3
    · rw [if_pos ((ph_m (by omega) (by omega) (by omega)).mpr c1)]
      exact ⟨fun _ => rfl, fun h => absurd (Or.inl c1) h⟩
    · rw [if_neg (fun h => c1 ((ph_m (by omega) (by omega) (by omega)).mp h)), ob_e]
      by_cases c2 : x % 16 = 0
      · rw [if_pos ((ph_m (by omega) (by omega) (by omega)).mpr c2)]
        by_cases c3 : y % 32 = 0
        · rw [if_pos ((ph_m (by omega) (by omega) (by omega)).mpr c3)]
          exact ⟨fun _ => rfl, fun h => absurd (Or.inr ⟨c2, Or.inl c3⟩) h⟩
        · rw [if_neg (fun h => c3 ((ph_m (by omega) (by omega) (by omega)).mp h))]
          by_cases c4 : y % 32 = 8
          · rw [if_pos ((ph_m (by omega) (by omega) (by omega)).mpr c4)]
            exact ⟨fun _ => rfl, fun h => absurd (Or.inr ⟨c2, Or.inr c4⟩) h⟩
          · rw [if_neg (fun h => c4 ((ph_m (by omega) (by omega) (by omega)).mp h))]
            exact ⟨fun h => absurd h (by omega), fun _ => rfl⟩
      · rw [if_neg (fun h => c2 ((ph_m (by omega) (by omega) (by omega)).mp h))]
        exact ⟨fun h => absurd h (by omega), fun _ => rfl⟩
  · have n2 : ¬ nI P = (2 : Int32) := fun h => h2 ((nI_eq (by omega) (by omega)).mp (show nI P = nI 2 from h))
    rw [if_neg n2]
    by_cases h3 : P = 3
    · have hw : Whl P x y ↔ K3 y := ⟨fun h => h.2 h3, fun h => ⟨fun h2 => by omega, fun _ => h⟩⟩
      rw [hw, if_pos (by rw [h3]; rfl), show (9 : Int64) = ph 9 from rfl, show (27 : Int64) = ph 27 from rfl, l0, r y 9 hy (by omega) (by omega), ob_e, r y 27 hy (by omega) (by omega)]
      unfold K3
      by_cases c1 : y % 9 = 0
      · rw [if_pos ((ph_m (by omega) (by omega) (by omega)).mpr c1), ob_e]
        by_cases c2 : y % 27 = 0
        · rw [if_pos ((ph_m (by omega) (by omega) (by omega)).mpr c2)]
          exact ⟨fun _ => rfl, fun h => absurd (Or.inr c2) h⟩
        · rw [if_neg (fun h => c2 ((ph_m (by omega) (by omega) (by omega)).mp h))]
          exact ⟨fun h => absurd h (by omega), fun _ => rfl⟩
      · rw [if_neg (fun h => c1 ((ph_m (by omega) (by omega) (by omega)).mp h))]
        exact ⟨fun _ => rfl, fun h => absurd (Or.inl c1) h⟩
    · have n3 : ¬ nI P = (3 : Int32) := fun h => h3 ((nI_eq (by omega) (by omega)).mp (show nI P = nI 3 from h))
      rw [if_neg n3]
      exact ⟨fun _ => rfl, fun h => absurd ⟨fun h' => absurd h' h2, fun h' => absurd h' h3⟩ h⟩
theorem low50 {ev : EV} {l6 P : Nat} (hP : P < 2147483648) {x y D : Int} (hx : inR x) (hy : inR y) (hD0 : D ≠ 0) (hDb : b9 D) (hp2 : 2 ≤ P) (k22 : Int64 → Int64 → Int64 → Int64 → Int32 → Int32 → PS → Option (Int64 × PS)) (l4 l7 : Int64) (l14 l15 : Int32) (z : PS) :
    ∀ (k n : Nat), k ≤ 5 → (P : Int) ^ (4 * k) ∣ x → (P : Int) ^ (6 * k) ∣ y → (P : Int) ^ (12 * k) ∣ D →
      ∃ (j : Nat) (x' y' : Int), j ≤ k ∧ x = (P : Int) ^ (4 * j) * x' ∧ y = (P : Int) ^ (6 * j) * y' ∧ (j = 0 ∨ Whl P x' y') ∧
        (∀ (i : Nat) (u v : Int), j < i → i ≤ k → x = (P : Int) ^ (4 * i) * u → y = (P : Int) ^ (6 * i) * v → ¬ Whl P u v) ∧
        q_X3_lower_50 ev l6 k22 (n + k + 1) l4 l7 (ph x) (ph y) l14 l15 (nI P) (nI k) z = k22 l4 (l7 * ph ((P : Int) ^ j)) (ph x') (ph y') l14 (l15 + 1) z := by
  have fin : ∀ (k : Nat) (x' y' : Int), k ≤ 5 → x = (P : Int) ^ (4 * k) * x' → y = (P : Int) ^ (6 * k) * y' → (P : Int) ^ (12 * k) ∣ D → q_X3_lower_94 ev l6 k22 l4 l7 (ph x) (ph y) l14 l15 (nI P) (nI k) z = k22 l4 (l7 * ph ((P : Int) ^ k)) (ph x') (ph y') l14 (l15 + 1) z := by
    intro k x' y' hk ex ey hd
    have kk : PK P (12 * k) := PK_D hp2 hP hD0 hDb (fun h => by omega) hd
    unfold q_X3_lower_94
    rw [show (4 : Int32) = nI 4 from rfl, show (6 : Int32) = nI 6 from rfl, i_mulN, i_mulN, nI_L hP, ex, ey, c_shr (kk.dn (by omega)) (by omega) (by rw [← ex]; exact hx), ob_e, c_shr (kk.dn (by omega)) (by omega) (by rw [← ey]; exact hy), ob_e, c_power _ (by omega), ob_e, bd_e, bd_e]
  intro k
  induction k with
  | zero =>
    intro n _ _ _ _
    refine ⟨0, x, y, by omega, by rw [Nat.mul_zero, Int.pow_zero, Int.one_mul], by rw [Nat.mul_zero, Int.pow_zero, Int.one_mul], Or.inl rfl, fun i _ _ h1 h2 => by omega, ?_⟩
    rw [q_X3_lower_50, if_pos (show nI 0 ≤ 0 from by decide)]
    exact fin 0 x y (by omega) (by rw [Nat.mul_zero, Int.pow_zero, Int.one_mul]) (by rw [Nat.mul_zero, Int.pow_zero, Int.one_mul]) (by rw [Nat.mul_zero, Int.pow_zero]; exact Int.one_dvd D)
  | succ k ih =>
    intro n hk h4 h6 h12
    have kk : PK P (12 * (k + 1)) := PK_D hp2 hP hD0 hDb (fun h => by omega) h12
    obtain ⟨x', ex⟩ := h4
    obtain ⟨y', ey⟩ := h6
    have hx' : inR x' := wo_R (kk.dn (j := 4 * (k + 1)) (by omega)) (by rw [← ex]; exact hx)
    have hy' : inR y' := wo_R (kk.dn (j := 6 * (k + 1)) (by omega)) (by rw [← ey]; exact hy)
    have s4 : g_X3_shrunk (ph x) (ph P) (nI (4 * (k + 1))) = some (ph x') := by rw [ex]; exact c_shr (kk.dn (by omega)) (by omega) (by rw [← ex]; exact hx)
    have s6 : g_X3_shrunk (ph y) (ph P) (nI (6 * (k + 1))) = some (ph y') := by rw [ey]; exact c_shr (kk.dn (by omega)) (by omega) (by rw [← ey]; exact hy)
    have hc := c_whole hP hx' hy'
    rw [q_X3_lower_50, if_neg (nI_nle (by omega) (by omega)), show (4 : Int32) = nI 4 from rfl, show (6 : Int32) = nI 6 from rfl, i_mulN, i_mulN, nI_L hP, s4, ob_e, s6, ob_e]
    by_cases hw : Whl P x' y'
    · refine ⟨k + 1, x', y', by omega, ex, ey, Or.inr hw, fun i _ _ h1 h2 => by omega, ?_⟩
      rw [hc.1 hw, ob_e, if_neg (by decide)]
      exact fin (k + 1) x' y' hk ex ey h12
    · obtain ⟨j, u, v, j1, j2, j3, j4, j5, j6⟩ := ih n (by omega) (dv_pow (n := 4 * (k + 1)) ⟨x', ex⟩ (by omega)) (dv_pow (n := 6 * (k + 1)) ⟨y', ey⟩ (by omega)) (dv_pow h12 (by omega))
      refine ⟨j, u, v, by omega, j2, j3, j4, ?_, ?_⟩
      · intro i u' v' h1 h2 e1 e2
        rcases (show i ≤ k ∨ i = k + 1 by omega) with h | h
        · exact j5 i u' v' h1 h e1 e2
        · subst h
          have a : u' = x' := Int.eq_of_mul_eq_mul_left (a := (P : Int) ^ (4 * (k + 1))) (Int.pow_ne_zero (by omega)) (by rw [← e1, ← ex])
          have b : v' = y' := Int.eq_of_mul_eq_mul_left (a := (P : Int) ^ (6 * (k + 1))) (Int.pow_ne_zero (by omega)) (by rw [← e2, ← ey])
          rw [a, b]; exact hw
      · rw [hc.2 hw, ob_e, if_pos (by rfl), bd_e, show nI (k + 1) + (-1 : Int32) = nI k from by rw [← nI_pred k]; exact (Int32.sub_eq_add_neg _ _).symm, show n + (k + 1) = n + k + 1 by omega, j6]
