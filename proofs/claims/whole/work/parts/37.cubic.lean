/-! the model's cubic -/
theorem qd {p a : Int} {j : Nat} (hj : pok p (j + 1)) (f : fit p (p ^ j * a)) : ∃ w, ph (p ^ j * a) / ph (p ^ j) = ph w ∧ inR w ∧ p ∣ w - a ∧ (p = 2 ∨ w = a) := by
  have hj0 : pok p j := by rcases hj with ⟨h1, h2⟩ | ⟨h1, h2⟩
                           · exact Or.inl ⟨h1, by omega⟩
                           · exact Or.inr ⟨h1, by omega⟩
  obtain ⟨h1, h2⟩ := pow_ok hj0
  rcases f with h | h
  · have hj2 : j + 1 ≤ 62 := by rcases hj with ⟨_, h3⟩ | ⟨h3, _⟩ <;> omega
    obtain ⟨w, k1, k2, k3⟩ := dv_q (a := a) (b := p ^ j) (c := p) (Or.inr ⟨2 ^ (64 - (j + 1)), by
      have := (pow2_all ⟨j + 1, by omega⟩).2.2
      dsimp only at this
      rw [h, ← Int.pow_succ]; exact this⟩) h1 h2
    exact ⟨w, k1, k2, k3, Or.inl h⟩
  · refine ⟨a, by rw [ph_div h h1 h2, td_ex (by omega)], by have := td_inR h h2; rwa [td_ex (by omega)] at this, ⟨0, by omega⟩, Or.inr rfl⟩
theorem em_cg {p a b : Int} (h : p ∣ a - b) : a % p = b % p := Int.emod_eq_emod_iff_emod_sub_eq_zero.mpr (Int.emod_eq_zero_of_dvd h)
theorem em_dv (p a : Int) : p ∣ a % p - a := ⟨-(a / p), by have := Int.emod_add_mul_ediv a p; grind⟩
/-- a coefficient's quotient, modulo p -/
theorem qm {p a : Int} {j : Nat} (hp : p = 2 ∨ p = 3) (hj : pok p (j + 1)) (f : fit p (p ^ j * a)) : g_X8_modulo (ph (p ^ j * a) / ph (p ^ j)) (ph p) = some (ph (a % p)) := by
  obtain ⟨w, h1, h2, h3, -⟩ := qd hj f
  rw [h1, m_mod (p_rng hp).1 (p_rng hp).2 (Or.inl h2), em_cg h3]
theorem qm_neg {p a : Int} {j : Nat} (hp : p = 2 ∨ p = 3) (hj : pok p (j + 1 + 1)) (f : fit p (p ^ (j + 1) * a)) : g_X8_modulo (-(ph (p ^ (j + 1) * a) / ph (p ^ (j + 1)))) (ph p) = some (ph (-a % p)) := by
  obtain ⟨w, h1, h2, h3, h4⟩ := qd hj f
  rw [h1, ph_neg]
  have e : -w % p = -a % p := em_cg (by obtain ⟨k, hk⟩ := h3; exact ⟨-k, by grind⟩)
  rcases hp with rfl | rfl
  · rw [m_mod (by omega) (by omega) (Or.inr ⟨9223372036854775808, by omega⟩), e]
  · have hw : w = a := by omega
    have hr : inR (3 ^ (j + 1) * a) := by rcases f with f | f
                                          · omega
                                          · exact f
    have hne : w ≠ -9223372036854775808 := by
      intro hh
      rw [hw] at hh
      rw [hh, Int.pow_succ] at hr
      have : 0 < (3 : Int) ^ j := Int.pow_pos (by omega)
      obtain ⟨k1, k2⟩ := hr
      generalize (3 : Int) ^ j = u at *
      omega
    rw [m_mod (by omega) (by omega) (Or.inl ⟨by have := h2.2; omega, by have := h2.1; omega⟩), e]
/-- the cubic's three coefficients, by a flat equation -/
def CB (p : Int) (E : Cv) (b c d : Int) : Prop := a2 E = p * b ∧ a4 E = p ^ 2 * c ∧ a6 E = p ^ 3 * d
theorem FL.cb {p : Int} {E : Cv} (h : FL p E) : ∃ b c d, CB p E b c d := by
  obtain ⟨-, ⟨b, e2⟩, -, ⟨c, e4⟩, ⟨d, e6⟩⟩ := h
  exact ⟨b, c, d, e2, e4, e6⟩
theorem ph_pow1 (p : Int) : ph p = ph (p ^ 1) := by rw [Int.pow_one]
theorem ph_pow2 (p : Int) : ph p * ph p = ph (p ^ 2) := by rw [ph_mul]; congr 1; grind
theorem ph_pow3 (p : Int) : ph p * ph p * ph p = ph (p ^ 3) := by rw [ph_mul, ph_mul]; congr 1; grind
theorem pw_n0 {p : Int} {n : Nat} (h : pok p n) : ¬ ph (p ^ n) = 0 := by
  obtain ⟨h1, h2⟩ := pow_ok h
  rw [l0, ph_eq h1 z_R]; omega
theorem AM.v1 {ev : EV} {m : Nat} {z : PS} {E : Cv} (A : AM ev m z E) : rJ z (rf ev 123 m) 1 = ph (a2 E) := A 1 (by omega)
theorem AM.v2 {ev : EV} {m : Nat} {z : PS} {E : Cv} (A : AM ev m z E) : rJ z (rf ev 123 m) 2 = ph (a3 E) := A 2 (by omega)
theorem AM.v3 {ev : EV} {m : Nat} {z : PS} {E : Cv} (A : AM ev m z E) : rJ z (rf ev 123 m) 3 = ph (a4 E) := A 3 (by omega)
theorem AM.v4 {ev : EV} {m : Nat} {z : PS} {E : Cv} (A : AM ev m z E) : rJ z (rf ev 123 m) 4 = ph (a6 E) := A 4 (by omega)
theorem cb_mod {p b c d : Int} : (p ∣ cubD (b % p) (c % p) (d % p) ↔ p ∣ cubD b c d) ∧ (p ∣ (b % p) * (b % p) - 3 * (c % p) ↔ p ∣ b * b - 3 * c) := by
  have h1 : p ∣ b % p - (b + 3 * 0) := by have := em_dv p b; rwa [show b + 3 * 0 = b by omega]
  have h2 : p ∣ c % p - (c + 2 * 0 * b + 3 * 0 * 0) := by have := em_dv p c; rwa [show c + 2 * 0 * b + 3 * 0 * 0 = c by grind]
  have h3 : p ∣ d % p - (d + 0 * c + 0 * 0 * b + 0 * 0 * 0) := by have := em_dv p d; rwa [show d + 0 * c + 0 * 0 * b + 0 * 0 * 0 = d by grind]
  exact ⟨(cubD_sh h1 h2 h3).symm, (cubT_sh h1 h2).symm⟩
theorem n_unlike {ev : EV} {m : Nat} {z : PS} {E : Cv} {b c d : Int} (A : AM ev m z E) {p : Int} (hp : p = 2 ∨ p = 3) (f : ∀ k, fit p (co E k)) (hc : CB p E b c d) :
    g_X8_unlikeRoots ev z m (ph p) = some (if p ∣ cubD b c d then (if p ∣ b * b - 3 * c then 1 else 2) else 3) := by
  obtain ⟨e2, e4, e6⟩ := hc
  have hp0 := p_rng hp
  have hpR : inR p := ⟨by omega, by omega⟩
  have q0 : ¬ ph p = 0 := by rw [ph_pow1]; exact pw_n0 (pok1 hp (by omega))
  have q2 : ¬ ph p * ph p = 0 := by rw [ph_pow2]; exact pw_n0 (pok1 hp (by omega))
  have q3 : ¬ ph p * ph p * ph p = 0 := by rw [ph_pow3]; exact pw_n0 (pok1 hp (by omega))
  have f2 : fit p (p ^ 1 * b) := by have := f 1; rw [Int.pow_one, ← e2]; exact this
  have f4 : fit p (p ^ 2 * c) := by have := f 3; rw [← e4]; exact this
  have f6 : fit p (p ^ 3 * d) := by have := f 4; rw [← e6]; exact this
  unfold g_X8_unlikeRoots
  simp only [ck_e q0, ck_e q2, ck_e q3, A.v1, A.v3, A.v4, e2, e4, e6]
  have m2 := qm (j := 1) hp (pok1 hp (by omega)) f2
  have m4 := qm (j := 2) hp (pok1 hp (by omega)) f4
  have m6 := qm (j := 3) hp (pok1 hp (by omega)) f6
  rw [Int.pow_one] at m2
  rw [ph_pow3 p, ph_pow2 p]
  simp only [m2, m4, m6, ob_e, bd_e]
  have b1 := Int.emod_nonneg b (show p ≠ 0 by omega)
  have b2 := Int.emod_lt_of_pos b hp0.1
  have c1 := Int.emod_nonneg c (show p ≠ 0 by omega)
  have c2 := Int.emod_lt_of_pos c hp0.1
  have d1 := Int.emod_nonneg d (show p ≠ 0 by omega)
  have d2 := Int.emod_lt_of_pos d hp0.1
  obtain ⟨i1, i2⟩ := cb_mod (p := p) (b := b) (c := c) (d := d)
  generalize b % p = B at *
  generalize c % p = C at *
  generalize d % p = D at *
  have hp3 : p ≤ 3 := by omega
  rw [show (18 : Int64) = ph 18 from rfl, l27, l4, l3]
  simp only [ph_mul, ph_sub, ph_add]
  have eD : 27 * D * D - B * B * C * C + 4 * B * B * B * D - 18 * B * C * D + 4 * C * C * C = -cubD B C D := by unfold cubD; grind
  have rD : inR (27 * D * D - B * B * C * C + 4 * B * B * B * D - 18 * B * C * D + 4 * C * C * C) := by
    have hB : B = 0 ∨ B = 1 ∨ B = 2 := by omega
    have hC : C = 0 ∨ C = 1 ∨ C = 2 := by omega
    have hD : D = 0 ∨ D = 1 ∨ D = 2 := by omega
    apply small_R <;> rcases hB with rfl | rfl | rfl <;> rcases hC with rfl | rfl | rfl <;> rcases hD with rfl | rfl | rfl <;> omega
  have rT : inR (3 * C - B * B) := by
    have hB : B = 0 ∨ B = 1 ∨ B = 2 := by omega
    apply small_R <;> rcases hB with rfl | rfl | rfl <;> omega
  have j1 := jr_0 (Or.inl rD) hpR hp0.1
  have j2 := jr_0 (Or.inl rT) hpR hp0.1
  have k1 : p ∣ 27 * D * D - B * B * C * C + 4 * B * B * B * D - 18 * B * C * D + 4 * C * C * C ↔ p ∣ cubD b c d := by rw [eD, Int.dvd_neg]; exact i1
  have k2 : p ∣ 3 * C - B * B ↔ p ∣ b * b - 3 * c := by rw [← Int.dvd_neg, show -(3 * C - B * B) = B * B - 3 * C by omega]; exact i2
  by_cases h1 : p ∣ cubD b c d
  · rw [if_pos (j1.mpr (k1.mpr h1)), if_pos h1]
    by_cases h2 : p ∣ b * b - 3 * c
    · rw [if_pos (j2.mpr (k2.mpr h2)), if_pos h2]
    · rw [if_neg (fun hh => h2 (k2.mp (j2.mp hh))), if_neg h2]
  · rw [if_neg (fun hh => h1 (k1.mp (j1.mp hh))), if_neg h1]
theorem small_mul {t w : Int} (ht : 0 ≤ t ∧ t < 3) (hw : -1000000000000000000 ≤ w ∧ w ≤ 1000000000000000000) : -2000000000000000000 ≤ w * t ∧ w * t ≤ 2000000000000000000 := by
  rcases (show t = 0 ∨ t = 1 ∨ t = 2 by omega) with rfl | rfl | rfl <;> omega
/-- the cubic's value -/
theorem n_cubic {ev : EV} {m : Nat} {z : PS} {E : Cv} {b c d : Int} (A : AM ev m z E) {p : Int} (hp : p = 2 ∨ p = 3) (f : ∀ k, fit p (co E k)) (hc : CB p E b c d) {t : Int} (ht : 0 ≤ t ∧ t < 3) (hb : p = 2 ∨ (-100000000000000000 ≤ b ∧ b ≤ 100000000000000000 ∧ -100000000000000000 ≤ c ∧ c ≤ 100000000000000000 ∧ -1000000000000000000 ≤ d ∧ d ≤ 1000000000000000000)) :
    g_X8_cubic ev z m (ph p) (ph t) = some (ph (cub b c d t % p)) ∧ g_X8_slope ev z m (ph p) (ph t) = some (ph ((3 * t * t + 2 * b * t + c) % p)) := by
  obtain ⟨e2, e4, e6⟩ := hc
  have hp0 := p_rng hp
  have q0 : ¬ ph p = 0 := by rw [ph_pow1]; exact pw_n0 (pok1 hp (by omega))
  have q2 : ¬ ph p * ph p = 0 := by rw [ph_pow2]; exact pw_n0 (pok1 hp (by omega))
  have q3 : ¬ ph p * ph p * ph p = 0 := by rw [ph_pow3]; exact pw_n0 (pok1 hp (by omega))
  have f2 : fit p (p ^ 1 * b) := by have := f 1; rw [Int.pow_one, ← e2]; exact this
  have f4 : fit p (p ^ 2 * c) := by have := f 3; rw [← e4]; exact this
  have f6 : fit p (p ^ 3 * d) := by have := f 4; rw [← e6]; exact this
  obtain ⟨wb, g1, g2, g3, g4⟩ := qd (j := 1) (pok1 hp (by omega)) f2
  obtain ⟨wc, h1, h2, h3, h4⟩ := qd (j := 2) (pok1 hp (by omega)) f4
  obtain ⟨wd, i1, i2, i3, i4⟩ := qd (j := 3) (pok1 hp (by omega)) f6
  rw [Int.pow_one] at g1
  have hor : ∀ v : Int, (p = 3 → inR v) → inR v ∨ p ∣ 18446744073709551616 := fun v hv => by
    rcases hp with rfl | rfl
    · exact Or.inr ⟨9223372036854775808, by omega⟩
    · exact Or.inl (hv rfl)
  constructor
  · unfold g_X8_cubic
    simp only [ck_e q0, ck_e q2, ck_e q3, A.v1, A.v3, A.v4, e2, e4, e6]
    rw [ph_pow3 p, ph_pow2 p, g1, h1, i1]
    simp only [ph_mul, ph_add]
    have hcg : (t * t * t + wb * t * t + wc * t + wd) % p = cub b c d t % p := by
      apply em_cg
      obtain ⟨x, hx⟩ := g3; obtain ⟨y, hy⟩ := h3; obtain ⟨w, hw⟩ := i3
      unfold cub
      exact ⟨x * t * t + y * t + w, by grind⟩
    rw [m_mod hp0.1 hp0.2 (hor _ (fun h3 => ?_)), ob_e, hcg]
    have eb : wb = b := by omega
    have ec : wc = c := by omega
    have ed : wd = d := by omega
    obtain ⟨n1, n2, n3, n4, n5, n6⟩ := hb.resolve_left (by omega)
    subst eb; subst ec; subst ed
    have m1 := small_mul ht (w := wc) (by omega)
    have m2 : -2000000000000000000 ≤ wb * t * t ∧ wb * t * t ≤ 2000000000000000000 := by
      rcases (show t = 0 ∨ t = 1 ∨ t = 2 by omega) with rfl | rfl | rfl <;> omega
    have m3 : 0 ≤ t * t * t ∧ t * t * t ≤ 8 := by
      rcases (show t = 0 ∨ t = 1 ∨ t = 2 by omega) with rfl | rfl | rfl <;> omega
    constructor <;> omega
  · unfold g_X8_slope
    simp only [ck_e q0, ck_e q2, A.v1, A.v3, e2, e4]
    rw [ph_pow2 p, g1, h1, l3, l2]
    simp only [ph_mul, ph_add]
    have hcg : (3 * t * t + 2 * wb * t + wc) % p = (3 * t * t + 2 * b * t + c) % p := by
      apply em_cg
      obtain ⟨x, hx⟩ := g3; obtain ⟨y, hy⟩ := h3
      exact ⟨2 * x * t + y, by grind⟩
    rw [m_mod hp0.1 hp0.2 (hor _ (fun h3 => ?_)), ob_e, hcg]
    have eb : wb = b := by omega
    have ec : wc = c := by omega
    obtain ⟨n1, n2, n3, n4, n5, n6⟩ := hb.resolve_left (by omega)
    subst eb; subst ec
    have m2 : -2000000000000000000 ≤ 2 * wb * t ∧ 2 * wb * t ≤ 2000000000000000000 := by
      rcases (show t = 0 ∨ t = 1 ∨ t = 2 by omega) with rfl | rfl | rfl <;> omega
    have m3 : 0 ≤ 3 * t * t ∧ 3 * t * t ≤ 12 := by
      rcases (show t = 0 ∨ t = 1 ∨ t = 2 by omega) with rfl | rfl | rfl <;> omega
    constructor <;> omega
