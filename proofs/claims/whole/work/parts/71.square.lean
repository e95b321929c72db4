/-! the model's square -/
theorem ms_loop2 {m : Int} (hm : 2 ≤ m) (hm2 : m < 2147483648) : ∀ (d n e : Nat) (A S : Int), e < 2 ^ d → d ≤ 61 → (0 ≤ A ∧ A < m) → (0 ≤ S ∧ S < m) → q_X8_square_32 (n + d + 1) (ph m) (ph A) (ph S) (ph (e : Int)) = some (if (A * S ^ e) % m = 1 then 1 else -1) := by
  have hR : inR m := ⟨by omega, by omega⟩
  have h0 : ¬ ph m = 0 := by rw [l0, ph_eq hR z_R]; omega
  have fin : ∀ A : Int, (0 ≤ A ∧ A < m) → (if ph A = (1 : Int64) then some (1 : Int32) else some (-1)) = some (if A % m = 1 then 1 else -1) := by
    intro A hA
    rw [Int.emod_eq_of_lt hA.1 hA.2]
    have e : ph A = (1 : Int64) ↔ A = 1 := by rw [l1, ph_eq ⟨by omega, by omega⟩ ⟨by omega, by omega⟩]
    by_cases h : A = 1
    · rw [if_pos (e.mpr h), if_pos h]
    · rw [if_neg (fun h' => h (e.mp h')), if_neg h]
  have mulm : ∀ x y : Int, (0 ≤ x ∧ x < m) → (0 ≤ y ∧ y < m) → jr64 (ph x * ph y) (ph m) = ph (x * y % m) := by
    intro x y hx hy
    rw [ph_mul, jr_ph (sq_rng (by omega) hm2 (by omega) (by omega)) hR (by omega), tm_nn (Int.mul_nonneg hx.1 hy.1)]
  intro d
  induction d with
  | zero =>
    intro n e A S he _ hA _
    have he0 : e = 0 := by rw [Nat.pow_zero] at he; omega
    subst he0
    rw [q_X8_square_32, if_pos (by decide), Int.pow_zero, Int.mul_one]
    exact fin A hA
  | succ d ih =>
    intro n e A S he hd hA hS
    have he2 : e < 4611686018427387904 := by
      have h1 : 2 ^ (d + 1) ≤ 2 ^ 61 := Nat.pow_le_pow_right (by omega) hd
      have h2 : (2 : Nat) ^ 61 = 2305843009213693952 := by decide
      omega
    have hS2 := em_lt (x := S * S) hm
    have hd2 : e / 2 < 2 ^ d := by rw [Nat.pow_succ] at he; omega
    rw [show n + (d + 1) + 1 = (n + d + 1) + 1 by omega, q_X8_square_32]
    by_cases h00 : e = 0
    · subst h00
      rw [if_pos (by decide), Int.pow_zero, Int.mul_one]
      exact fin A hA
    have hdiv : ph (e : Int) / (2 : Int64) = ph ((e / 2 : Nat) : Int) := by
      rw [l2, ph_div ⟨by omega, by omega⟩ ⟨by omega, by omega⟩ (by omega), td_nn (by omega)]; rfl
    have hrem : jr64 (ph (e : Int)) (2 : Int64) = ph ((e % 2 : Nat) : Int) := by
      rw [l2, jr_ph ⟨by omega, by omega⟩ ⟨by omega, by omega⟩ (by omega), tm_nn (by omega)]; rfl
    rw [if_neg (by rw [l0, ph_le ⟨by omega, by omega⟩ z_R]; omega), hrem]
    have ee : e = 2 * (e / 2) + e % 2 := by omega
    have sq : (m : Int) ∣ (S * S) ^ (e / 2) - (S * S % m) ^ (e / 2) := pow_cg (by obtain ⟨q, hq⟩ := em_dv m (S * S); exact ⟨-q, by grind⟩) _
    by_cases hb : e % 2 = 1
    · have hA2 := em_lt (x := A * S) hm
      rw [hb, if_pos (by rfl), ck_e h0, bd_e, mulm A S hA hS, ck_e h0, bd_e, mulm S S hS hS, bd_e, hdiv, ih n (e / 2) _ _ hd2 (by omega) hA2 hS2]
      have : (A * S % m * (S * S % m) ^ (e / 2)) % m = (A * S ^ e) % m := by
        apply em_cg
        obtain ⟨q1, h1⟩ := em_dv m (A * S)
        obtain ⟨q2, h2⟩ := sq
        have e3 : S ^ e = (S * S) ^ (e / 2) * S := by
          conv => lhs; rw [ee, hb, Int.pow_add, Int.pow_mul, Int.pow_one]
          rw [show S ^ 2 = S * S by grind]
        rw [e3]
        generalize (S * S) ^ (e / 2) = X at *
        generalize (S * S % m) ^ (e / 2) = Y at *
        generalize A * S % m = B at *
        refine ⟨q1 * Y - A * S * q2, ?_⟩
        have : B = A * S + m * q1 := by omega
        have : Y = X - m * q2 := by omega
        grind
      rw [this]
    · have hb0 : e % 2 = 0 := by omega
      rw [hb0, if_neg (by decide), ck_e h0, bd_e, mulm S S hS hS, bd_e, hdiv, ih n (e / 2) _ _ hd2 (by omega) hA hS2]
      have : (A * (S * S % m) ^ (e / 2)) % m = (A * S ^ e) % m := by
        apply em_cg
        obtain ⟨q2, h2⟩ := sq
        have e3 : S ^ e = (S * S) ^ (e / 2) := by
          conv => lhs; rw [ee, hb0, Int.pow_add, Int.pow_mul]
          rw [show S ^ 2 = S * S by grind, Int.pow_zero, Int.mul_one]
        rw [e3]
        generalize (S * S) ^ (e / 2) = X at *
        generalize (S * S % m) ^ (e / 2) = Y at *
        refine ⟨-(A * q2), ?_⟩
        have : Y = X - m * q2 := by omega
        grind
      rw [this]
theorem em_1 {p X : Int} (hp : 2 ≤ p) : X % p = 1 ↔ p ∣ X - 1 := by
  constructor
  · intro h
    have := Int.emod_add_mul_ediv X p
    exact ⟨X / p, by omega⟩
  · intro ⟨q, hq⟩
    rw [show X = 1 + p * q by omega, Int.add_mul_emod_self_left]
    exact Int.emod_eq_of_lt (by omega) (by omega)
theorem m_square {v : Int} {P : Nat} (hp : 3 ≤ P) (ho : P % 2 = 1) (hp2 : P < 2147483648) (hv : inR v) : g_X8_square (ph v) (ph P) = some (if (P : Int) ∣ v then 0 else if (P : Int) ∣ v ^ ((P - 1) / 2) - 1 then 1 else -1) := by
  unfold g_X8_square
  rw [m_mod (by omega) (by omega) (Or.inl hv), ob_e]
  by_cases h : (P : Int) ∣ v
  · rw [if_pos ((mod_n (by omega) (by omega)).mpr h), if_pos h]
  · obtain ⟨n, hn⟩ := FU_ge (d := 32) (by omega)
    have e1 : (ph (P : Int) - (1 : Int64)) / (2 : Int64) = ph (((P - 1) / 2 : Nat) : Int) := by
      rw [l1, ph_sub, l2, ph_div ⟨by omega, by omega⟩ ⟨by omega, by omega⟩ (by omega), td_nn (by omega)]
      congr 1; omega
    rw [if_neg (fun h' => h ((mod_n (by omega) (by omega)).mp h')), bd_e, if_neg h, e1, hn, l1, ms_loop2 (by omega) (by omega) 32 n _ 1 _ (by omega) (by omega) (by omega) (em_lt (by omega)), Int.one_mul]
    have e2 : (v % P) ^ ((P - 1) / 2) % P = 1 ↔ (P : Int) ∣ v ^ ((P - 1) / 2) - 1 := by
      rw [← em_1 (by omega)]
      have : (v % P) ^ ((P - 1) / 2) % P = v ^ ((P - 1) / 2) % P := em_cg (pow_cg (em_dv (P : Int) v) _)
      rw [this]
    by_cases h2 : (P : Int) ∣ v ^ ((P - 1) / 2) - 1
    · rw [if_pos (e2.mpr h2), if_pos h2]
    · rw [if_neg (fun h' => h2 (e2.mp h')), if_neg h2]
/-! Euler's criterion up to 165, by reckoning -/
def eulL : List Nat := [5, 7, 11, 13, 17, 19, 23, 29, 31, 37, 41, 43, 47, 53, 59, 61, 67, 71, 73, 79, 83, 89, 97, 101, 103, 107, 109, 113, 127, 131, 137, 139, 149, 151, 157, 163]
def eulO (P x : Nat) : Bool := (x ^ ((P - 1) / 2) % P == 1) == (List.range P).any (fun T => T * T % P == x)
theorem eul_c : eulL.all (fun P => (List.range P).all (fun x => x == 0 || eulO P x)) = true := by decide +kernel
theorem eul_l : ∀ P : Fin 166, 5 ≤ P.val → P.val ∈ eulL ∨ ∃ d : Fin 12, 2 ≤ d.val ∧ d.val < P.val ∧ P.val % d.val = 0 := by decide +kernel
theorem pr_eul {P : Nat} (hp : Pr P) (h5 : 5 ≤ P) (h : P ≤ 165) : P ∈ eulL := by
  rcases eul_l ⟨P, by omega⟩ h5 with h1 | ⟨d, h1, h2, h3⟩
  · exact h1
  · exfalso
    dsimp only at h2 h3
    obtain ⟨e, he⟩ : ∃ e, P = d.val * e := ⟨P / d.val, by have := Nat.div_add_mod P d.val; omega⟩
    have he0 : 0 < e := by rcases Nat.eq_zero_or_pos e with h | h
                           · subst h; omega
                           · exact h
    have hlt : e < P := by
      have : 2 * e ≤ d.val * e := Nat.mul_le_mul_right e h1
      omega
    rcases hp.2 (d.val : Int) (e : Int) ⟨1, by rw [Int.mul_one]; exact_mod_cast he.symm⟩ with h4 | h4
    · have := Int.le_of_dvd (by omega) h4; omega
    · have := Int.le_of_dvd (by omega) h4; omega
theorem euler {P : Nat} (hp : Pr P) (h5 : 5 ≤ P) (h : P ≤ 165) {x : Int} (hx : ¬ (P : Int) ∣ x) : (P : Int) ∣ x ^ ((P - 1) / 2) - 1 ↔ sqr P x := by
  have hm := pr_eul hp h5 h
  have h1 := List.all_eq_true.mp eul_c P hm
  have k1 := em_lt (p := (P : Int)) (x := x) (by omega)
  obtain ⟨y, hy⟩ : ∃ y : Nat, (y : Int) = x % P := ⟨(x % P).toNat, by omega⟩
  have h2 := List.all_eq_true.mp h1 y (List.mem_range.mpr (by omega))
  have hy0 : ¬ y = 0 := by
    intro h0
    apply hx
    exact Int.dvd_of_emod_eq_zero (by omega)
  have h3 : eulO P y = true := by
    rcases Bool.or_eq_true_iff.mp h2 with h | h
    · exact absurd (by simpa using h) hy0
    · exact h
  unfold eulO at h3
  have h4 := beq_iff_eq.mp h3
  have hcg : (P : Int) ∣ x - y := by rw [hy]; obtain ⟨q, hq⟩ := em_dv (P : Int) x; exact ⟨-q, by grind⟩
  have a1 : (P : Int) ∣ x ^ ((P - 1) / 2) - 1 ↔ y ^ ((P - 1) / 2) % P = 1 := by
    rw [← em_1 (by omega)]
    have : x ^ ((P - 1) / 2) % P = ((y ^ ((P - 1) / 2) % P : Nat) : Int) := by
      rw [em_cg (pow_cg hcg _)]
      push_cast
      rfl
    rw [this]; omega
  have a2 : sqr P x ↔ ∃ T, T < P ∧ T * T % P = y := by
    constructor
    · intro ⟨T, hT⟩
      have k2 := em_lt (p := (P : Int)) (x := T) (by omega)
      refine ⟨(T % P).toNat, by omega, ?_⟩
      have e1 : (((T % P).toNat : Nat) : Int) = T % P := by omega
      have : ((((T % P).toNat * (T % P).toNat) % P : Nat) : Int) = y := by
        push_cast
        rw [e1, hy]
        apply em_cg
        obtain ⟨a, ha⟩ := em_dv (P : Int) T
        obtain ⟨b, hb⟩ := hT
        refine ⟨2 * T * a + P * a * a + b, ?_⟩
        have : T % P = T + P * a := by omega
        rw [this]; grind
      omega
    · intro ⟨T, hT, hT2⟩
      refine ⟨T, ?_⟩
      obtain ⟨q, hq⟩ := hcg
      have h5 := Nat.div_add_mod (T * T) P
      refine ⟨((T * T / P : Nat) : Int) - q, ?_⟩
      have : (T : Int) * T = P * ((T * T / P : Nat) : Int) + y := by rw [← hT2]; exact_mod_cast h5.symm
      grind
  rw [a1, a2]
  constructor
  · intro h
    have e : ((y ^ ((P - 1) / 2) % P == 1) : Bool) = true := beq_iff_eq.mpr h
    rw [e] at h4
    obtain ⟨T, hT1, hT2⟩ := List.any_eq_true.mp h4.symm
    exact ⟨T, List.mem_range.mp hT1, beq_iff_eq.mp hT2⟩
  · intro ⟨T, hT1, hT2⟩
    have e : (List.range P).any (fun T => T * T % P == y) = true := List.any_eq_true.mpr ⟨T, List.mem_range.mpr hT1, beq_iff_eq.mpr hT2⟩
    rw [e] at h4
    exact beq_iff_eq.mp h4
