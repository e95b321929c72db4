/-! products over the primes of a row -/
def pwE (b : Int) (x : Int32) : Int := if x < 0 then 1 else b ^ x.toNatClampNeg
theorem pw8 (b : Int) (x : Int32) : g_X8_power (ph b) x = some (ph (pwE b x)) := by
  unfold pwE
  by_cases h : x < 0
  · rw [if_pos h]
    unfold g_X8_power
    rw [show FU = 999999999999 + 1 from rfl, q_X8_power_5, if_pos (Int32.le_of_lt h)]; rfl
  · rw [if_neg h]
    obtain ⟨j, j1, rfl⟩ := nI_of h
    rw [nI_clamp j1, g_power8 b (by omega)]
theorem pw4 (b : Int) (x : Int32) : g_X4_power (ph b) x = some (ph (pwE b x)) := by
  unfold pwE
  by_cases h : x < 0
  · rw [if_pos h]
    unfold g_X4_power
    rw [show FU = 999999999999 + 1 from rfl, q_X4_power_5, if_pos (Int32.le_of_lt h)]; rfl
  · rw [if_neg h]
    obtain ⟨j, j1, rfl⟩ := nI_of h
    rw [nI_clamp j1, c_power b (by omega)]
def prd (g : Nat → Int64) (f : Nat → Nat) : Nat → Int64
  | 0 => 1
  | k + 1 => prd g f k * g (f k)
noncomputable def fac (own : Bool) (L : Cv) (P : Nat) : Int64 := if own then (rvl P L 4).toInt64 else ph (pwE P (rvl P L 2))
theorem b01 (own : Bool) : (if own then (1 : Int32) else 0) = 0 ↔ own = false := by cases own <;> decide
theorem tg_loop {ev : EV} {m : Nat} (hD : DM ev m) {E L : Cv} {u : Int} (h : Pair E L u) {K : Nat} {f : Nat → Nat} (hP : PL (dd E).natAbs K f) (own : Bool) : ∀ (d n i : Nat) (z : PS), i + d = K → AH ev m z 131 E → MP ev m z K f →
    ∃ z', q_X8_together_17 ev m (n + d + 1) (if own then 1 else 0) (prd (fac own L) f i) (nI i) z = some (prd (fac own L) f K, z') ∧ AH ev m z' 123 E ∧ FM ev m z z' := by
  have hK16 := hP.2.2.2.1
  intro d
  induction d with
  | zero =>
    intro n i z hi A C
    have : i = K := by omega
    subst this
    refine ⟨sA z (rf ev 123 m) E, ?_, AH_sA ev m z 123 E, FM_sA ev m z E (Or.inl rfl)⟩
    rw [q_X8_together_17, C.1, if_pos (Int32.le_refl _), n_wholeA hD A, ob_e]
  | succ d ih =>
    intro n i z hi A C
    have hiK : i < K := by omega
    obtain ⟨p1, p2⟩ := hP.2.1 i hiK
    have p9 := hP.2.2.2.2 i hiK
    obtain ⟨k, w', k1, k2, k3⟩ := val_ex p1 (u.natAbs + 1) u h.pos (by omega)
    obtain ⟨z', g1, g2, g3, g4, -⟩ := h.lays (hD.ne 123 129) (AM_sA ev m z E) p1 (by omega) (h.rv ev p1 (by omega)) k1 k2
    have C' := g2.mp hD (C.sA (a := 123) (E := E) (hD.ne 125 123))
    have A' : AH ev m z' 131 E := g2.ah (hD.ne 131 123) (hD.ne 131 129) (A.ne (hD.ne 131 123))
    obtain ⟨z2, b1, b2, b3⟩ := ih n (i + 1) z' (by omega) A' C'
    refine ⟨z2, ?_, b2, ((FM_sA ev m z E (Or.inl rfl)).tr g2.fm).tr b3⟩
    rw [q_X8_together_17, C.1, if_neg (by rw [i_le (by omega) (by omega)]; omega), n_wholeA hD A, ob_e, ck_e (inB_n (show i < 20 by omega) (by omega)), show rJ (sA z (rf ev 123 m) E) (rf ev 125 m) (nI i).toNatClampNeg = ph (f i) by rw [nI_clamp (by omega)]; exact (C.sA (hD.ne 125 123)).2 i hiK, g1, ob_e]
    cases own with
    | false =>
      rw [if_pos (by decide), ck_e (inB_n (show i < 20 by omega) (by omega)), nI_clamp (by omega), C'.2 i hiK, g4 2 (by omega), pw8, ob_e, bd_e, bd_e, nI_s]
      exact b1
    | true =>
      rw [if_neg (by decide), g4 4 (by omega), bd_e, bd_e, nI_s]
      exact b1
theorem n_tog {ev : EV} {m : Nat} (hD : DM ev m) {z : PS} {E L : Cv} {u : Int} (h : PQ E L u) (A : AH ev m z 123 E) (own : Bool) : ∃ z' k f, g_X8_together ev z m (if own then 1 else 0) = some (prd (fac own L) f k, z') ∧ PL (dd E).natAbs k f ∧ AH ev m z' 123 E ∧ FM ev m z z' := by
  obtain ⟨hp, hQ⟩ := h
  have A1 : AH ev m (sA z (rf ev 131 m) E) 123 E := A.ne (hD.ne 123 131)
  obtain ⟨z3, k, f, a1, a2, a3, a4⟩ := n_laysP (ev := ev) (m := m) (z := sA z (rf ev 131 m) E) hp.d0 hp.db hQ
  have A3 : AH ev m z3 131 E := a4.ah (hD.ne 131 125) (AH_sA ev m z 131 E)
  obtain ⟨n, hn⟩ := FU_ge (d := k) (by have := a3.2.2.2.1; omega)
  obtain ⟨z', b1, b2, b3⟩ := tg_loop hD hp a3 own k n 0 z3 (by omega) A3 a2
  refine ⟨z', k, f, ?_, a3, b2, ((FM_sA ev m z E (by omega)).tr a4.fm).tr b3⟩
  unfold g_X8_together
  rw [n_keepsW hD A, ob_e, n_dd A1, ob_e, a1, ob_e, hn]
  exact b1
/-- products over all primes below a bound -/
noncomputable def prN (g : Nat → Int64) (D : Nat) : Nat → Int64
  | 0 => 1
  | n + 1 => prN g D n * (@ite _ (Pr n ∧ n ∣ D) (Classical.propDecidable _) (g n) 1)
theorem prN_s (g : Nat → Int64) (D n : Nat) : (Pr n ∧ n ∣ D → prN g D (n + 1) = prN g D n * g n) ∧ (¬ (Pr n ∧ n ∣ D) → prN g D (n + 1) = prN g D n) := by
  constructor
  · intro h; show prN g D n * (@ite _ _ (Classical.propDecidable _) _ _) = _; rw [if_pos h]
  · intro h; show prN g D n * (@ite _ _ (Classical.propDecidable _) _ _) = _; rw [if_neg h, Int64.mul_one]
theorem prd_prN {D K : Nat} {f : Nat → Nat} (hP : PL D K f) (g : Nat → Int64) : ∀ B i, i ≤ K → (∀ j, j < K → (f j < B ↔ j < i)) → prN g D B = prd g f i := by
  intro B
  induction B with
  | zero =>
    intro i hi h
    rcases Nat.eq_zero_or_pos i with h0 | h0
    · subst h0; rfl
    · have := (h 0 (by omega)).mpr h0; omega
  | succ B ih =>
    intro i hi h
    by_cases hB : Pr B ∧ B ∣ D
    · obtain ⟨j, j1, j2⟩ := hP.2.2.1 B hB.1 hB.2
      have hji : j < i := (h j j1).mp (by omega)
      have hj1 : i = j + 1 := by
        rcases Nat.lt_or_ge (j + 1) i with h1 | h1
        · have := (h (j + 1) (by omega)).mpr h1
          have := hP.1 j (j + 1) (by omega) (by omega)
          omega
        · omega
      subst hj1
      rw [(prN_s g D B).1 hB, ih j (by omega) (fun l hl => ?_)]
      · show _ = prd g f j * g (f j); rw [j2]
      · constructor
        · intro h1
          have := (h l hl).mp (by omega)
          rcases (show l = j ∨ l < j by omega) with h2 | h2
          · subst h2; omega
          · exact h2
        · intro h1
          have := hP.1 l j h1 j1
          omega
    · rw [(prN_s g D B).2 hB]
      refine ih i hi (fun j hj => ?_)
      rw [← h j hj]
      constructor
      · intro h1; omega
      · intro h1
        rcases (show f j = B ∨ f j < B by omega) with h2 | h2
        · exact absurd (by rw [← h2]; exact hP.2.1 j hj) hB
        · exact h2
theorem prd_all {D K : Nat} {f : Nat → Nat} (hP : PL D K f) (g : Nat → Int64) : prd g f K = prN g D 1000000000 := (prd_prN hP g 1000000000 K (Nat.le_refl _) (fun j hj => ⟨fun _ => hj, fun _ => hP.2.2.2.2 j hj⟩)).symm
theorem prN_cg {g : Nat → Int64} {D D' : Nat} (h1 : ∀ n : Nat, Pr n → n ∣ D → ¬ n ∣ D' → g n = 1) (h2 : ∀ n : Nat, Pr n → n ∣ D' → ¬ n ∣ D → g n = 1) : ∀ B, prN g D B = prN g D' B := by
  intro B
  induction B with
  | zero => rfl
  | succ B ih =>
    by_cases hp : Pr B
    · by_cases a : B ∣ D
      · by_cases b : B ∣ D'
        · rw [(prN_s g D B).1 ⟨hp, a⟩, (prN_s g D' B).1 ⟨hp, b⟩, ih]
        · rw [(prN_s g D B).1 ⟨hp, a⟩, (prN_s g D' B).2 (fun h => b h.2), ih, h1 B hp a b, Int64.mul_one]
      · by_cases b : B ∣ D'
        · rw [(prN_s g D B).2 (fun h => a h.2), (prN_s g D' B).1 ⟨hp, b⟩, ih, h2 B hp b a, Int64.mul_one]
        · rw [(prN_s g D B).2 (fun h => a h.2), (prN_s g D' B).2 (fun h => b h.2), ih]
    · rw [(prN_s g D B).2 (fun h => hp h.1), (prN_s g D' B).2 (fun h => hp h.1), ih]
/-- where p does not go in DISC: 1 -/
theorem Pair.fac1 {E L : Cv} {u : Int} (h : Pair E L u) (ev : EV) {P : Nat} (hp : Pr P) (hP : P < 2147483648) (hd : ¬ (P : Int) ∣ dd L) (own : Bool) : fac own L P = 1 := by
  have hr := h.rv ev hp hP
  rcases hr with ⟨-, hv⟩ | ⟨hd', -⟩
  · unfold fac
    cases own with
    | true => rw [if_pos rfl, hv 4 (by omega)]; decide
    | false => rw [if_neg (by decide), hv 2 (by omega)]; rfl
  · exact absurd hd' hd
