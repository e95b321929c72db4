/-! the model's working equation -/
theorem bd_e {α β : Type} (a : α) (k : α → Option β) : bd a k = k a := rfl
theorem ob_e {α β : Type} (a : α) (k : α → Option β) : ob (some a) k = k a := rfl
theorem ck_e {β : Type} {c : Prop} [Decidable c] (h : c) (x : Option β) : ck c x = x := by unfold ck; rw [if_pos h]
/-- the row at A holds the coefficients of E -/
def sA (z : PS) (A : Nat) (E : Cv) : PS := (z.1, z.2.1, z.2.2.1, fun b j => if b = A then (if j = 0 then ph (a1 E) else if j = 1 then ph (a2 E) else if j = 2 then ph (a3 E) else if j = 3 then ph (a4 E) else if j = 4 then ph (a6 E) else z.2.2.2 b j) else z.2.2.2 b j)
theorem sA_0 (z : PS) (A : Nat) (E : Cv) : rJ (sA z A E) A 0 = ph (a1 E) := by simp [sA, rJ]
theorem sA_1 (z : PS) (A : Nat) (E : Cv) : rJ (sA z A E) A 1 = ph (a2 E) := by simp [sA, rJ]
theorem sA_2 (z : PS) (A : Nat) (E : Cv) : rJ (sA z A E) A 2 = ph (a3 E) := by simp [sA, rJ]
theorem sA_3 (z : PS) (A : Nat) (E : Cv) : rJ (sA z A E) A 3 = ph (a4 E) := by simp [sA, rJ]
theorem sA_4 (z : PS) (A : Nat) (E : Cv) : rJ (sA z A E) A 4 = ph (a6 E) := by simp [sA, rJ]
theorem sA_sA (z : PS) (A : Nat) (E F : Cv) : sA (sA z A E) A F = sA z A F := by
  unfold sA
  refine Prod.ext rfl (Prod.ext rfl (Prod.ext rfl ?_))
  funext b j
  dsimp only
  split
  · repeat (first | rfl | split)
    all_goals (first | rfl | contradiction)
  · rfl
theorem m_b2 (ev : EV) (z : PS) (m : Nat) (E : Cv) : g_X8_b2 ev (sA z (rf ev 123 m) E) m = some (ph (b2 E)) := by
  unfold g_X8_b2; rw [sA_0, sA_1, l4, ph_mul, ph_mul, ph_add]; rfl
theorem m_b4 (ev : EV) (z : PS) (m : Nat) (E : Cv) : g_X8_b4 ev (sA z (rf ev 123 m) E) m = some (ph (b4 E)) := by
  unfold g_X8_b4; rw [sA_0, sA_2, sA_3, l2, ph_mul, ph_mul, ph_add]; rfl
theorem m_b6 (ev : EV) (z : PS) (m : Nat) (E : Cv) : g_X8_b6 ev (sA z (rf ev 123 m) E) m = some (ph (b6 E)) := by
  unfold g_X8_b6; rw [sA_2, sA_4, l4, ph_mul, ph_mul, ph_add]; rfl
theorem m_b8 (ev : EV) (z : PS) (m : Nat) (E : Cv) : g_X8_b8 ev (sA z (rf ev 123 m) E) m = some (ph (b8 E)) := by
  unfold g_X8_b8; rw [sA_0, sA_1, sA_2, sA_3, sA_4, l4]; simp only [ph_mul, ph_add, ph_sub]; rfl
theorem m_c4 (ev : EV) (z : PS) (m : Nat) (E : Cv) : g_X8_c4 ev (sA z (rf ev 123 m) E) m = some (ph (c4 E)) := by
  unfold g_X8_c4; simp only [m_b2, m_b4, ob_e, l24, ph_mul, ph_add, ph_sub]; rfl
theorem m_c6 (ev : EV) (z : PS) (m : Nat) (E : Cv) : g_X8_c6 ev (sA z (rf ev 123 m) E) m = some (ph (c6 E)) := by
  unfold g_X8_c6; simp only [m_b2, m_b4, m_b6, ob_e, l36, l216, ph_mul, ph_add, ph_sub]; rfl
theorem m_dd (ev : EV) (z : PS) (m : Nat) (E : Cv) : g_X8_disc ev (sA z (rf ev 123 m) E) m = some (ph (dd E)) := by
  unfold g_X8_disc; simp only [m_b2, m_b4, m_b6, m_b8, ob_e, l9, l8, l27, ph_mul, ph_add, ph_sub]; rfl
theorem wJ_sA (z : PS) (A : Nat) (E F : Cv) : wJ (wJ (wJ (wJ (wJ (sA z A E) A 0 (ph (a1 F))) A 1 (ph (a2 F))) A 2 (ph (a3 F))) A 3 (ph (a4 F))) A 4 (ph (a6 F)) = sA z A F := by
  unfold sA wJ
  refine Prod.ext rfl (Prod.ext rfl (Prod.ext rfl ?_))
  funext b j
  dsimp only
  by_cases hb : b = A
  · subst hb
    by_cases h0 : j = 0
    · simp [h0]
    by_cases h1 : j = 1
    · simp [h1]
    by_cases h2 : j = 2
    · simp [h2]
    by_cases h3 : j = 3
    · simp [h3]
    by_cases h4 : j = 4
    · simp [h4]
    simp [h0, h1, h2, h3, h4]
  · simp [hb]
theorem m_sh (ev : EV) (z : PS) (m : Nat) (E : Cv) (r s t : Int) : g_X8_changes ev (sA z (rf ev 123 m) E) m (ph r) (ph s) (ph t) = some (sA z (rf ev 123 m) (sh E r s t)) := by
  unfold g_X8_changes
  simp only [bd_e]
  have e4 : ∀ v0 v1 v2 v3 : Int64, rJ (wJ (wJ (wJ (wJ (sA z (rf ev 123 m) E) (rf ev 123 m) 0 v0) (rf ev 123 m) 1 v1) (rf ev 123 m) 2 v2) (rf ev 123 m) 3 v3) (rf ev 123 m) 4 = ph (a6 E) := by
    intro v0 v1 v2 v3; simp [wJ, rJ, sA]
  rw [e4, sA_0, sA_1, sA_2, sA_3]
  simp only [l2, l3, ph_mul, ph_add, ph_sub]
  congr 1
  exact wJ_sA z (rf ev 123 m) E (sh E r s t)
/-- coefficients by their places -/
def co (E : Cv) (k : Nat) : Int := if k = 0 then a1 E else if k = 1 then a2 E else if k = 2 then a3 E else if k = 3 then a4 E else a6 E
theorem sA_co (z : PS) (A : Nat) (E : Cv) {k : Nat} (hk : k < 5) : rJ (sA z A E) A k = ph (co E k) := by
  rcases (show k = 0 ∨ k = 1 ∨ k = 2 ∨ k = 3 ∨ k = 4 by omega) with rfl | rfl | rfl | rfl | rfl <;> simp [sA, rJ, co]
/-- numbers that are fit for 2 or 3 -/
def fit (p a : Int) : Prop := p = 2 ∨ inR a
def pok (p : Int) (n : Nat) : Prop := (p = 2 ∧ n ≤ 62) ∨ (p = 3 ∧ n ≤ 39)
theorem pow2_all : ∀ n : Fin 63, (2 : Int) ^ n.val < 9223372036854775808 ∧ 0 < (2 : Int) ^ n.val ∧ (2 : Int) ^ n.val * 2 ^ (64 - n.val) = 18446744073709551616 := by decide +kernel
theorem pow3_all : ∀ n : Fin 40, (3 : Int) ^ n.val < 9223372036854775808 ∧ 0 < (3 : Int) ^ n.val := by decide +kernel
theorem pow_ok {p : Int} {n : Nat} (h : pok p n) : inR (p ^ n) ∧ 0 < p ^ n := by
  rcases h with ⟨rfl, h⟩ | ⟨rfl, h⟩
  · have := pow2_all ⟨n, by omega⟩; dsimp only at this; exact ⟨⟨by omega, by omega⟩, by omega⟩
  · have := pow3_all ⟨n, by omega⟩; dsimp only at this; exact ⟨⟨by omega, by omega⟩, by omega⟩
theorem pow_d2 {n : Nat} (h : n ≤ 62) : (2 : Int) ^ n ∣ 18446744073709551616 := ⟨2 ^ (64 - n), by have := pow2_all ⟨n, by omega⟩; dsimp only at this; omega⟩
theorem fit_or {p a : Int} {n : Nat} (h : pok p n) (f : fit p a) : inR a ∨ p ^ n ∣ 18446744073709551616 := by
  rcases f with rfl | f
  · rcases h with ⟨-, h⟩ | ⟨h, -⟩
    · exact Or.inr (pow_d2 h)
    · omega
  · exact Or.inl f
theorem cl (k : Nat) (hk : k < 5) : (nI k).toNatClampNeg = k := nI_clamp (by omega)
theorem m_in (ev : EV) (z : PS) (m : Nat) (E : Cv) {p : Int} {k n : Nat} (hk : k < 5) (hn : pok p n) (f : fit p (co E k)) : g_X8_goesIn ev (sA z (rf ev 123 m) E) m (ph p) (nI k) (nI n) = some (if p ^ n ∣ co E k then 1 else 0) := by
  obtain ⟨h1, h2⟩ := pow_ok hn
  unfold g_X8_goesIn
  have hb : inB (nI k) 5 := vp_in_nI hk (by omega)
  rw [ck_e hb, g_power8 p (by rcases hn with h | h <;> omega), ob_e, cl k hk, sA_co z _ E hk]
  have h0 : ¬ ph (p ^ n) = 0 := by rw [l0, ph_eq h1 (by constructor <;> omega)]; omega
  rw [ck_e h0]
  have := jr_0 (a := co E k) (fit_or hn f) h1 h2
  by_cases hd : p ^ n ∣ co E k
  · rw [if_pos (this.mpr hd), if_pos hd]
  · rw [if_neg (fun q => hd (this.mp q)), if_neg hd]
/-- modulo -/
theorem m_mod {v p : Int} (hp : 0 < p) (hp2 : p < 2147483648) (f : inR v ∨ p ∣ 18446744073709551616) : g_X8_modulo (ph v) (ph p) = some (ph (v % p)) := by
  have hR : inR p := ⟨by omega, by omega⟩
  have h0 : ¬ ph p = 0 := by rw [l0, ph_eq hR (by constructor <;> omega)]; omega
  unfold g_X8_modulo
  rw [ck_e h0, ck_e h0]
  congr 1
  obtain ⟨n, hn, e⟩ := ph_of (ph v)
  have hvn : v % p = n % p := by
    rcases f with f | f
    · rw [(ph_eq f hn).mp e]
    · exact Int.emod_eq_emod_iff_emod_sub_eq_zero.mpr (Int.emod_eq_zero_of_dvd (Int.dvd_trans f (ph_cg' e)))
  rw [e, jr_ph hn hR hp, ph_add]
  have t1 := Int.lt_tmod_of_pos n hp
  have t2 := Int.tmod_lt_of_pos n hp
  rw [jr_ph ⟨by omega, by omega⟩ hR hp, hvn]
  congr 1
  rw [Int.tmod_eq_emod_of_nonneg (by omega), Int.add_emod_right]
  have := Int.tmod_add_mul_tdiv n p
  have e2 : n % p = (n.tmod p) % p := by
    calc n % p = (n.tmod p + p * n.tdiv p) % p := by rw [this]
      _ = n.tmod p % p := Int.add_mul_emod_self_left _ _ _
  exact e2.symm
