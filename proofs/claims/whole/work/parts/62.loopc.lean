def TC (P k : Nat) (r s t : Int) : Prop := P = 2 ∨ ((0 ≤ s ∧ s < P) ∧ (0 ≤ r ∧ r < (P : Int) ^ ((k + 3) / 2)) ∧ ∃ τ ρ : Int, t = τ + s * ρ ∧ (0 ≤ τ ∧ τ < (P : Int) ^ ((k + 4) / 2)) ∧ (0 ≤ ρ ∧ ρ ≤ r))
theorem add_dig {a q R p : Int} (ha : 0 ≤ a ∧ a < q) (hR : 0 ≤ R ∧ R < p) : 0 ≤ a + R * q ∧ a + R * q < q * p := by
  have h1 : 0 ≤ R * q := Int.mul_nonneg (by omega) (by omega)
  have h2 := Int.mul_le_mul_of_nonneg_right (show R ≤ p - 1 by omega) (show 0 ≤ q by omega)
  have h3 : (p - 1) * q = q * p - q := by grind
  omega
theorem TC.next {P k : Nat} {r s t : Int} (h : TC P k r s t) {R : Int} (hR : 0 ≤ R ∧ R < P) : TC P (k + 1) (r + mvR P k R) s (t + mvT P k R + s * mvR P k R) := by
  rcases h with h | ⟨hs, hr, τ, ρ, rfl, hτ, hρ⟩
  · exact Or.inl h
  · right
    refine ⟨hs, ?_⟩
    unfold mvR mvT
    by_cases ho : k % 2 = 1
    · rw [if_pos ho, if_pos ho]
      rw [show (k + 4) / 2 = (k + 3) / 2 by omega] at hτ
      rw [show (k + 1 + 3) / 2 = (k + 3) / 2 by omega, show (k + 1 + 4) / 2 = (k + 3) / 2 + 1 by omega, Int.pow_succ]
      generalize (P : Int) ^ ((k + 3) / 2) = q at *
      exact ⟨by omega, τ + R * q, ρ, by grind, add_dig hτ hR, by omega⟩
    · rw [if_neg ho, if_neg ho]
      have he : (k + 4) / 2 = (k + 3) / 2 + 1 := by omega
      rw [show (k + 1 + 3) / 2 = (k + 3) / 2 + 1 by omega, show (k + 1 + 4) / 2 = (k + 3) / 2 + 1 by omega, show (k + 3) / 2 + 1 - 1 = (k + 3) / 2 by omega]
      rw [he] at hτ
      rw [Int.pow_succ] at *
      generalize (P : Int) ^ ((k + 3) / 2) = q at *
      have := add_dig hr hR
      have h1 : 0 ≤ R * q := Int.mul_nonneg (by omega) (by omega)
      exact ⟨this, τ, ρ + R * q, by grind, hτ, by omega⟩
theorem pow_mono {P : Nat} (hp : 1 ≤ P) {a b : Nat} (h : a ≤ b) : (P : Int) ^ a ≤ (P : Int) ^ b := by
  obtain ⟨d, rfl⟩ : ∃ d, b = a + d := ⟨b - a, by omega⟩
  rw [Int.pow_add]
  have h1 : 1 ≤ (P : Int) ^ d := Int.pow_pos (by omega)
  have h2 : 0 ≤ (P : Int) ^ a := Int.le_of_lt (Int.pow_pos (by omega))
  have := Int.mul_le_mul_of_nonneg_left h1 h2
  omega
/-- what is known of p, N and the equation, behind the cubic -/
def NB (P N : Nat) : Prop := (P = 2 ∧ N ≤ 62) ∨ (3 ≤ P ∧ P ≤ 18 ∧ (P : Int) ^ ((N - 2) / 2) ≤ 1000000)
theorem TC.fit {P k N : Nat} {L : Cv} (hL : LB L) {r s t : Int} (h : TC P k r s t) (hB : NB P N) (hk : k + 6 ≤ N) : ∀ j, fit P (co (sh L r s t) j) := by
  intro j
  rcases h with h | ⟨hs, hr, τ, ρ, rfl, hτ, hρ⟩
  · exact Or.inl (by omega)
  · rcases hB with ⟨h, -⟩ | ⟨h3, h18, hb⟩
    · exact Or.inl (by omega)
    · right
      have p1 := pow_mono (P := P) (by omega) (show (k + 3) / 2 ≤ (N - 2) / 2 by omega)
      have p2 := pow_mono (P := P) (by omega) (show (k + 4) / 2 ≤ (N - 2) / 2 by omega)
      have m := mb (X := 18) (Y := 1000000) (x := s) (y := ρ) (by omega) (by omega)
      have m' : 0 ≤ s * ρ := Int.mul_nonneg (by omega) (by omega)
      obtain ⟨f1, f2, f3, f4, f6⟩ := lb_sh hL (r := r) (s := s) (t := τ + s * ρ) (by omega) (by omega) (by omega)
      unfold co inR
      repeat' split
      all_goals omega
theorem PK_D {P n : Nat} {D : Int} (hp : 2 ≤ P) (hp2 : P < 2147483648) (hD : D ≠ 0) (hb : -9000000000000000000 ≤ D ∧ D ≤ 9000000000000000000) (h2 : P = 2 → n ≤ 62) (hd : (P : Int) ^ n ∣ D) : PK P n := by
  have h0 : 0 < (P : Int) ^ n := Int.pow_pos (by omega)
  have hle : (P : Int) ^ n ≤ 9000000000000000000 := by
    rcases (show 0 < D ∨ 0 < -D by omega) with h | h
    · have := Int.le_of_dvd h hd; omega
    · have := Int.le_of_dvd h (Int.dvd_neg.mpr hd); omega
  exact ⟨by omega, by omega, h0, ⟨by omega, by omega⟩, fun h => h2 (by omega)⟩
theorem c_loop {ev : EV} {th P : Nat} {L : Cv} (hpr : Pr P) (hp2 : P ≤ 27064) (hL : LB L) {N : Nat} (hND : ¬ (P : Int) ^ (N + 1) ∣ dd L) (hD0 : dd L ≠ 0) (hDb : -9000000000000000000 ≤ dd L ∧ dd L ≤ 9000000000000000000) (hB : NB P N) (hN9 : N < 900) :
    ∀ (d k n : Nat) (r s t : Int) (z : PS), k + 6 + d = N + 1 → 1 ≤ k → CF ev z th P N (sh L r s t) → TC P k r s t → NK P k (sh L r s t) →
    ∃ j c z', TO P j k (sh L r s t) c ∧ k + j + 6 ≤ N ∧ q_X1_tellByTurns_2 ev th (n + d + 1) (nI k) z = some z' ∧ AnsC ev th z z' N 6 (k + j) c 0 := by
  have hp := hpr.1
  intro d
  induction d with
  | zero =>
    intro k n r s t z hk h1 _ _ hK
    have := NK_D h1 hK
    rw [dd_sh, show k + 6 = N + 1 by omega] at this
    exact absurd this hND
  | succ d ih =>
    intro k n r s t z hk h1 C hT hK
    obtain ⟨x, y, w, q⟩ := hK.qk
    have hDk := NK_D h1 hK
    rw [dd_sh] at hDk
    have hpk : PK P (k + 5) := (PK_D (n := k + 6) (by omega) (by omega) hD0 hDb (fun h => by rcases hB with h' | h' <;> omega) hDk).dn (by omega)
    have st := c_turn hpr hp2 C h1 (by omega) hN9 hpk (hT.fit hL hB (by omega)) hK q (n + d + 1)
    by_cases hd : (P : Int) ∣ y * y - 4 * x * w
    · obtain ⟨R, R1, R2, R3⟩ := st.2 hd
      have n1 := tn_moveG hpr h1 hK q hd R2
      have eq : sh (sh L r s t) (mvR P k R) 0 (mvT P k R) = sh L (r + mvR P k R) s (t + mvT P k R + s * mvR P k R) := by
        rw [sh_sh, Int.add_zero]
      rw [eq] at n1 R3
      have C1 := C.sE (sh L (r + mvR P k R) s (t + mvT P k R + s * mvR P k R))
      obtain ⟨j, c, z', g1, g2, g3, g4⟩ := ih (k + 1) n _ s _ _ (by omega) (by omega) C1 (hT.next (by omega)) n1
      refine ⟨j + 1, c, z', ⟨⟨x, y, w, q, hd⟩, _, ?_, n1, g1⟩, by omega, ?_, ?_⟩
      · rw [← eq]; exact Eqv.sh _ _ _ _
      · rw [show n + (d + 1) + 1 = (n + d + 1) + 1 by omega, R3]; exact g3
      · rw [show k + (j + 1) = k + 1 + j by omega]
        exact ⟨(FrC_sE ev th z _).tr g4.1, g4.2⟩
    · obtain ⟨c, c1, c2⟩ := st.1 hd
      refine ⟨0, c, _, ⟨x, y, w, q, hd, c1⟩, by omega, by rw [show n + (d + 1) + 1 = (n + d + 1) + 1 by omega]; exact c2, ?_⟩
      refine ansC (FrC.rf ev th z) C (by omega) rfl ?_ ?_ rfl rfl
      · show _ = nI N - nI (5 + (k + 0) - 1)
        have e : nI (5 + (k + 0) - 1) = nI 4 + nI k := by rw [i_add]; congr 1; omega
        rw [e]
        show (nI N - nI 4) - nI k = _
        grind
      · show nI 5 + nI k = nI (5 + (k + 0))
        rw [i_add]; rfl
