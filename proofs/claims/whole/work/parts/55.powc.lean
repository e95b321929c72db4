/-! powers modulo a number -/
theorem ph_sh1 {x : Int} (hx : inR x) : ph x >>> (((1 : Int32)).toInt64 &&& 63) = ph (x / 2) := by
  apply Int64.toInt_inj.mp
  have h1 : (ph x >>> (((1 : Int32)).toInt64 &&& 63)).toInt = (ph x).toInt >>> 1 := by
    show ((ph x).toBitVec.sshiftRight ((((1 : Int32)).toInt64 &&& 63).toBitVec.smod 64).toNat).toInt = _
    rw [show ((((1 : Int32)).toInt64 &&& 63).toBitVec.smod 64).toNat = 1 by decide, BitVec.toInt_sshiftRight]
    rfl
  rw [h1, ph_int hx, Int.shiftRight_eq_div_pow, ph_int ⟨by have := hx.1; omega, by have := hx.2; omega⟩]
  rfl
theorem ph_shr1 {e : Nat} (he : e < 4611686018427387904) : ph (e : Int) >>> (((1 : Int32)).toInt64 &&& 63) = ph ((e / 2 : Nat) : Int) := by
  rw [ph_sh1 ⟨by omega, by omega⟩]
  congr 1
theorem ph_tn {e : Nat} (he : e < 18446744073709551616) : (ph (e : Int)).toBitVec.toNat = e := by
  show (BitVec.ofInt 64 (e : Int)).toNat = e
  rw [BitVec.toNat_ofInt]
  omega
theorem ph_and1 {e : Nat} (he : e < 4611686018427387904) : ph (e : Int) &&& (1 : Int64) = ph ((e % 2 : Nat) : Int) := by
  apply Int64.toBitVec_inj.mp
  apply BitVec.eq_of_toNat_eq
  rw [ph_tn (by omega)]
  show ((ph (e : Int)).toBitVec &&& (1 : Int64).toBitVec).toNat = _
  rw [BitVec.toNat_and, ph_tn (by omega)]
  exact Nat.and_one_is_mod e
theorem tm_cg (a m : Int) : m ∣ a - a.tmod m := ⟨a.tdiv m, by have := Int.tmod_add_mul_tdiv a m; omega⟩
theorem tm_lt {a m : Int} (hm : 0 < m) : -m ≤ a.tmod m ∧ a.tmod m ≤ m := by
  have h1 := Int.lt_tmod_of_pos a hm
  have h2 := Int.tmod_lt_of_pos a hm
  omega
theorem sq_rng {x y m : Int} (hm : 0 < m) (hm2 : m < 2147483648) (hx : -m ≤ x ∧ x ≤ m) (hy : -m ≤ y ∧ y ≤ m) : inR (x * y) := by
  have h := mb (X := 2147483648) (Y := 2147483648) (x := x) (y := y) (by omega) (by omega)
  have hm3 : m ≤ 2147483647 := by omega
  have h := mb (X := 2147483647) (Y := 2147483647) (x := x) (y := y) (by omega) (by omega)
  exact ⟨by omega, by omega⟩
theorem pr_loop {m : Int} (hm : 0 < m) (hm2 : m < 2147483648) : ∀ (d n e : Nat) (A S : Int), e < 2 ^ d → d ≤ 61 → (-m ≤ A ∧ A ≤ m) → (-m ≤ S ∧ S ≤ m) → q_X4_powerRest_21 (n + d + 1) (ph m) (ph A) (ph S) (ph (e : Int)) = some (ph ((A * S ^ e) % m)) := by
  have hR : inR m := ⟨by omega, by omega⟩
  have h0 : ¬ ph m = 0 := by rw [l0, ph_eq hR z_R]; omega
  intro d
  induction d with
  | zero =>
    intro n e A S he _ hA _
    have he0 : e = 0 := by rw [Nat.pow_zero] at he; omega
    subst he0
    rw [q_X4_powerRest_21, if_pos (by decide), Int.pow_zero, Int.mul_one]
    have := c_rest (a := A) hm hR (Or.inl ⟨by omega, by omega⟩)
    unfold g_X4_rest at this
    rw [if_pos (by rw [l0, ph_lt z_R hR]; exact hm)] at this
    exact this
  | succ d ih =>
    intro n e A S he hd hA hS
    have he2 : e < 4611686018427387904 := by
      have h1 : 2 ^ (d + 1) ≤ 2 ^ 61 := Nat.pow_le_pow_right (by omega) hd
      have h2 : (2 : Nat) ^ 61 = 2305843009213693952 := by decide
      omega
    have hS2 := tm_lt (a := S * S) hm
    have eS : ph S * ph S = ph (S * S) := ph_mul S S
    have jS : jr64 (ph (S * S)) (ph m) = ph ((S * S).tmod m) := jr_ph (sq_rng hm hm2 hS hS) hR hm
    have hd2 : e / 2 < 2 ^ d := by rw [Nat.pow_succ] at he; omega
    rw [show n + (d + 1) + 1 = (n + d + 1) + 1 by omega, q_X4_powerRest_21]
    by_cases h00 : e = 0
    · subst h00
      rw [if_pos (by decide), Int.pow_zero, Int.mul_one]
      have := c_rest (a := A) hm hR (Or.inl ⟨by omega, by omega⟩)
      unfold g_X4_rest at this
      rw [if_pos (by rw [l0, ph_lt z_R hR]; exact hm)] at this
      exact this
    rw [if_neg (by rw [l0, ph_le ⟨by omega, by omega⟩ z_R]; omega), ph_and1 he2]
    have ee : e = 2 * (e / 2) + e % 2 := by omega
    by_cases hb : e % 2 = 1
    · have hA2 := tm_lt (a := A * S) hm
      rw [hb, if_pos (by rfl), ck_e h0, bd_e, ph_mul A S, jr_ph (sq_rng hm hm2 hA hS) hR hm, ck_e h0, bd_e, eS, jS, bd_e, ph_shr1 he2, ih n (e / 2) _ _ hd2 (by omega) hA2 hS2]
      congr 2
      apply em_cg
      obtain ⟨q1, h1⟩ := tm_cg (A * S) m
      obtain ⟨q2, h2⟩ := pow_cg (tm_cg (S * S) m) (e / 2)
      have e3 : S ^ e = (S * S) ^ (e / 2) * S := by
        conv => lhs; rw [ee, hb, Int.pow_add, Int.pow_mul, Int.pow_one]
        rw [show S ^ 2 = S * S by grind]
      rw [e3]
      generalize (S * S) ^ (e / 2) = X at *
      generalize ((S * S).tmod m) ^ (e / 2) = Y at *
      generalize (A * S).tmod m = B at *
      refine ⟨-(q1 * Y) - A * S * q2, ?_⟩
      have : B = A * S - m * q1 := by omega
      have : Y = X - m * q2 := by omega
      grind
    · have hb0 : e % 2 = 0 := by omega
      rw [hb0, if_neg (by decide), ck_e h0, bd_e, eS, jS, bd_e, ph_shr1 he2, ih n (e / 2) _ _ hd2 (by omega) hA hS2]
      congr 2
      apply em_cg
      obtain ⟨q2, h2⟩ := pow_cg (tm_cg (S * S) m) (e / 2)
      have e3 : S ^ e = (S * S) ^ (e / 2) := by
        conv => lhs; rw [ee, hb0, Int.pow_add, Int.pow_mul]
        rw [show S ^ 2 = S * S by grind, Int.pow_zero, Int.mul_one]
      rw [e3]
      generalize (S * S) ^ (e / 2) = X at *
      generalize ((S * S).tmod m) ^ (e / 2) = Y at *
      refine ⟨-(A * q2), ?_⟩
      have : Y = X - m * q2 := by omega
      grind
theorem c_powr {b m : Int} {e : Nat} (hm : 0 < m) (hm2 : m < 2147483648) (hb : inR b) (he : e < 2147483648) : g_X4_powerRest (ph b) (ph (e : Int)) (ph m) = some (ph (b ^ e % m)) := by
  have hR : inR m := ⟨by omega, by omega⟩
  have h0 : ¬ ph m = 0 := by rw [l0, ph_eq hR z_R]; omega
  obtain ⟨n, hn⟩ := FU_ge (d := 32) (by omega)
  unfold g_X4_powerRest
  rw [if_pos (by rw [l0, ph_lt z_R hR]; exact hm), ck_e h0, bd_e, jr_ph hb hR hm, hn, l1, pr_loop hm hm2 32 n e 1 _ (by omega) (by omega) (by omega) (tm_lt hm)]
  congr 2
  apply em_cg
  obtain ⟨q, hq⟩ := pow_cg (tm_cg b m) e
  exact ⟨-q, by grind⟩
theorem c_sqat {v : Int} {P : Nat} (hp : 3 ≤ P) (hodd : P % 2 = 1) (hp2 : P < 2147483648) (hv : inR v) : g_X4_isSquareAt (ph v) (ph P) = some (if (P : Int) ∣ v ^ ((P - 1) / 2) - 1 then 1 else 0) := by
  unfold g_X4_isSquareAt
  rw [l1, ph_sub, show ((P : Int) - 1) = ((P - 1 : Nat) : Int) by omega, ph_shr1 (by omega), c_powr (by omega) (by omega) hv (by omega), ob_e]
  have k1 := Int.emod_nonneg (v ^ ((P - 1) / 2)) (show (P : Int) ≠ 0 by omega)
  have k2 := Int.emod_lt_of_pos (v ^ ((P - 1) / 2)) (show 0 < (P : Int) by omega)
  have e : ph (v ^ ((P - 1) / 2) % P) = ph 1 ↔ (P : Int) ∣ v ^ ((P - 1) / 2) - 1 := by
    rw [ph_eq ⟨by omega, by omega⟩ ⟨by omega, by omega⟩]
    generalize v ^ ((P - 1) / 2) = X at *
    constructor
    · intro h
      have := Int.emod_add_mul_ediv X P
      exact ⟨X / P, by omega⟩
    · intro ⟨q, hq⟩
      rw [show X = 1 + P * q by omega, Int.add_mul_emod_self_left]
      exact Int.emod_eq_of_lt (by omega) (by omega)
  by_cases h : (P : Int) ∣ v ^ ((P - 1) / 2) - 1
  · rw [if_pos (e.mpr h), if_pos h]
  · rw [if_neg (fun h' => h (e.mp h')), if_neg h]
