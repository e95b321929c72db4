/-! longs as whole numbers: ph n is n modulo 2^64 -/
def ph (n : Int) : Int64 := Int64.ofInt n
def inR (n : Int) : Prop := -9223372036854775808 ≤ n ∧ n < 9223372036854775808
theorem ph_add (a b : Int) : ph a + ph b = ph (a + b) := (Int64.ofInt_add a b).symm
theorem ph_sub (a b : Int) : ph a - ph b = ph (a - b) := (Int64.ofInt_sub a b).symm
theorem ph_mul (a b : Int) : ph a * ph b = ph (a * b) := (Int64.ofInt_mul a b).symm
theorem ph_neg (a : Int) : -ph a = ph (-a) := (Int64.ofInt_neg a).symm
theorem ph_int {n : Int} (h : inR n) : (ph n).toInt = n := Int64.toInt_ofInt_of_le (by have := h.1; omega) (by have := h.2; omega)
theorem ph_le {a b : Int} (ha : inR a) (hb : inR b) : ph a ≤ ph b ↔ a ≤ b := by rw [Int64.le_iff_toInt_le, ph_int ha, ph_int hb]
theorem ph_lt {a b : Int} (ha : inR a) (hb : inR b) : ph a < ph b ↔ a < b := by rw [Int64.lt_iff_toInt_lt, ph_int ha, ph_int hb]
theorem ph_eq {a b : Int} (ha : inR a) (hb : inR b) : ph a = ph b ↔ a = b := by rw [← Int64.toInt_inj, ph_int ha, ph_int hb]
theorem ph_of (x : Int64) : ∃ n, inR n ∧ x = ph n := ⟨x.toInt, ⟨by have := x.le_toInt; omega, by have := x.toInt_lt; omega⟩, (Int64.ofInt_toInt x).symm⟩
theorem ph_bm (n : Int) : (ph n).toInt = n.bmod 18446744073709551616 := Int64.toInt_ofInt
theorem ph_cg {a b : Int} (h : (18446744073709551616 : Int) ∣ a - b) : ph a = ph b := by
  obtain ⟨k, hk⟩ := h
  have e : a = b + 18446744073709551616 * k := by omega
  rw [← Int64.toInt_inj, ph_bm, ph_bm, e]
  have : (b + 18446744073709551616 * k) % ((18446744073709551616 : Nat) : Int) = b % ((18446744073709551616 : Nat) : Int) := by omega
  unfold Int.bmod
  dsimp only
  rw [this]
theorem ph_cg' {a b : Int} (h : ph a = ph b) : (18446744073709551616 : Int) ∣ a - b := by
  rw [← Int64.toInt_inj, ph_bm, ph_bm] at h
  have h1 := Int.emod_emod_of_dvd a (Int.dvd_refl (18446744073709551616 : Int))
  have e1 : (a.bmod 18446744073709551616) % 18446744073709551616 = a % 18446744073709551616 := Int.bmod_emod
  have e2 : (b.bmod 18446744073709551616) % 18446744073709551616 = b % 18446744073709551616 := Int.bmod_emod
  rw [h] at e1
  omega
theorem l0 : (0 : Int64) = ph 0 := rfl
theorem l1 : (1 : Int64) = ph 1 := rfl
theorem l2 : (2 : Int64) = ph 2 := rfl
theorem l3 : (3 : Int64) = ph 3 := rfl
theorem l4 : (4 : Int64) = ph 4 := rfl
theorem l8 : (8 : Int64) = ph 8 := rfl
theorem l9 : (9 : Int64) = ph 9 := rfl
theorem l24 : (24 : Int64) = ph 24 := rfl
theorem l27 : (27 : Int64) = ph 27 := rfl
theorem l36 : (36 : Int64) = ph 36 := rfl
theorem l216 : (216 : Int64) = ph 216 := rfl
theorem ph_div {a b : Int} (ha : inR a) (hb : inR b) (hb0 : 0 < b) : ph a / ph b = ph (a.tdiv b) := by
  rw [← Int64.toInt_inj, Int64.toInt_div, ph_int ha, ph_int hb, ph_bm]
theorem td_le {a b : Int} (hb : 0 < b) : (0 ≤ a → 0 ≤ a.tdiv b ∧ a.tdiv b ≤ a) ∧ (a ≤ 0 → a ≤ a.tdiv b ∧ a.tdiv b ≤ 0) := by
  constructor
  · intro h
    rw [Int.tdiv_eq_ediv_of_nonneg h]
    exact ⟨Int.ediv_nonneg h (by omega), Int.ediv_le_self b h⟩
  · intro h
    have e : a.tdiv b = -((-a) / b) := by rw [← Int.tdiv_eq_ediv_of_nonneg (a := -a) (by omega), Int.neg_tdiv]; omega
    have h1 := Int.ediv_nonneg (a := -a) (b := b) (by omega) (by omega)
    have h2 := Int.ediv_le_self (a := -a) b (by omega)
    omega
theorem td_inR {a b : Int} (ha : inR a) (hb : 0 < b) : inR (a.tdiv b) := by
  obtain ⟨h1, h2⟩ := ha
  rcases Int.le_total 0 a with h | h
  · have := (td_le (a := a) hb).1 h; exact ⟨by omega, by omega⟩
  · have := (td_le (a := a) hb).2 h; exact ⟨by omega, by omega⟩
theorem jr_ph {a b : Int} (ha : inR a) (hb : inR b) (hb0 : 0 < b) : jr64 (ph a) (ph b) = ph (a.tmod b) := by
  unfold jr64
  rw [ph_div ha hb hb0, ph_mul, ph_sub]
  congr 1
  have := Int.tmod_add_mul_tdiv a b
  rw [Int.mul_comm] at this
  omega
/-- exact division -/
theorem td_ex {a b : Int} (hb : b ≠ 0) : (b * a).tdiv b = a := Int.mul_tdiv_cancel_left a hb
theorem tm_dv {a b : Int} : a.tmod b = 0 ↔ b ∣ a := ⟨Int.dvd_of_tmod_eq_zero, Int.tmod_eq_zero_of_dvd⟩
theorem tm_inR {a b : Int} (hb : inR b) (hb0 : 0 < b) : inR (a.tmod b) := by
  have h1 := Int.lt_tmod_of_pos a hb0
  have h2 := Int.tmod_lt_of_pos a hb0
  obtain ⟨_, h4⟩ := hb
  exact ⟨by omega, by omega⟩
/-- a number is fit for p: it is in range, or p is a power of 2 -/
theorem jr_0 {a b : Int} (ha : inR a ∨ b ∣ 18446744073709551616) (hb : inR b) (hb0 : 0 < b) : jr64 (ph a) (ph b) = 0 ↔ b ∣ a := by
  obtain ⟨n, hn, e⟩ := ph_of (ph a)
  rw [e, jr_ph hn hb hb0, l0, ph_eq (tm_inR hb hb0) (by constructor <;> omega), tm_dv]
  rcases ha with ha | ha
  · rw [(ph_eq ha hn).mp e]
  · have := ph_cg' e
    exact (dv_iff (Int.dvd_trans ha this))
/-- the quotient by a power of p, exact: it is the right one modulo p -/
theorem dv_q {a b c : Int} (ha : inR (b * a) ∨ ∃ d, b * c * d = 18446744073709551616) (hb : inR b) (hb0 : 0 < b) : ∃ w, ph (b * a) / ph b = ph w ∧ inR w ∧ c ∣ w - a := by
  rcases ha with ha | ⟨d, hd⟩
  · exact ⟨a, by rw [ph_div ha hb hb0, td_ex (by omega)], by have := td_inR ha hb0; rwa [td_ex (by omega)] at this, ⟨0, by omega⟩⟩
  · obtain ⟨n, hn, e⟩ := ph_of (ph (b * a))
    have h1 := ph_cg' e
    rw [← hd] at h1
    obtain ⟨k, hk⟩ := h1
    have hnb : n = b * (a - c * d * k) := by grind
    refine ⟨a - c * d * k, ?_, ?_, ⟨-(d * k), by grind⟩⟩
    · rw [e, ph_div hn hb hb0, hnb, td_ex (by omega)]
    · have := td_inR hn hb0; rwa [hnb, td_ex (by omega)] at this
/-! ints as whole numbers -/
theorem i_le {a b : Nat} (ha : a < 2147483648) (hb : b < 2147483648) : nI a ≤ nI b ↔ a ≤ b := nI_leI ha hb
theorem i_add (a b : Nat) : nI a + nI b = nI (a + b) := nI_add a b
theorem i_lit (n : Nat) : (OfNat.ofNat n : Int32) = nI n := rfl
/-- power -/
theorem pw_loop : ∀ (d n : Nat) (b acc : Int) (i e : Nat), e < 2147483648 → i ≤ e → e - i = d → q_X8_power_5 (n + d + 1) (ph b) (nI e) (ph acc) (nI i) = some (ph (acc * b ^ d)) := by
  intro d
  induction d with
  | zero =>
    intro n b acc i e he hi hd
    rw [q_X8_power_5, if_pos ((i_le he (by omega)).mpr (by omega)), Int.pow_zero, Int.mul_one]
  | succ d ih =>
    intro n b acc i e he hi hd
    rw [q_X8_power_5, if_neg (fun h => by have := (i_le he (by omega)).mp h; omega)]
    show q_X8_power_5 (n + (d + 1)) (ph b) (nI e) (ph acc * ph b) (nI i + nI 1) = _
    rw [ph_mul, i_add, show n + (d + 1) = n + d + 1 by omega, ih n b (acc * b) (i + 1) e he (by omega) (by omega)]
    congr 2
    rw [Int.pow_succ]; grind
theorem FU_ge {d : Nat} (h : d < 1000000000000) : ∃ n, FU = n + d + 1 := ⟨1000000000000 - d - 1, by unfold FU; omega⟩
theorem g_power8 (b : Int) {e : Nat} (he : e < 2147483648) : g_X8_power (ph b) (nI e) = some (ph (b ^ e)) := by
  obtain ⟨n, hn⟩ := FU_ge (d := e) (by omega)
  unfold g_X8_power
  rw [hn, l1]
  have := pw_loop e n b 1 0 e he (by omega) (by omega)
  rw [Int.one_mul] at this
  exact this
