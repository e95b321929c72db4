/-! the class's numbers -/
theorem c_rest {a m : Int} (hm : 0 < m) (hR : inR m) (ha : inR a ∨ m ∣ 18446744073709551616) : g_X4_rest (ph a) (ph m) = some (ph (a % m)) := by
  have h0 : ¬ ph m = 0 := by rw [l0, ph_eq hR z_R]; omega
  unfold g_X4_rest
  rw [if_pos (by rw [l0, ph_lt z_R hR]; exact hm), ck_e h0, bd_e]
  obtain ⟨n, hn, e⟩ := ph_of (ph a)
  have hmod : a % m = n % m := by
    rcases ha with ha | ha
    · rw [(ph_eq ha hn).mp e]
    · have := ph_cg' e
      exact Int.emod_eq_emod_iff_emod_sub_eq_zero.mpr (Int.emod_eq_zero_of_dvd (Int.dvd_trans ha this))
  rw [e, jr_ph hn hR hm, hmod]
  have t1 := tm_inR (a := n) hR hm
  have k1 := Int.emod_nonneg n (show m ≠ 0 by omega)
  have k2 := Int.emod_lt_of_pos n hm
  rw [l0]
  rcases Int.le_total 0 n with h | h
  · rw [tm_nn h, if_pos ((ph_le z_R ⟨by omega, by have := hR.2; omega⟩).mpr k1)]
  · have e1 : n.tmod m = -((-n) % m) := by rw [← tm_nn (show 0 ≤ -n by omega), Int.neg_tmod]; omega
    have k3 := Int.emod_nonneg (-n) (show m ≠ 0 by omega)
    have k4 := Int.emod_lt_of_pos (-n) hm
    have hd : m ∣ n % m + (-n) % m := by
      have h1 := Int.mul_ediv_add_emod n m
      have h2 := Int.mul_ediv_add_emod (-n) m
      exact ⟨-(n / m) - (-n) / m, by grind⟩
    have hle := ph_le z_R t1
    by_cases hz : (-n) % m = 0
    · rw [if_pos (hle.mpr (by omega)), e1, hz]
      congr 2
      obtain ⟨k, hk⟩ := hd
      rw [hz] at hk
      have : k < 1 := by
        rcases (show k < 1 ∨ 1 ≤ k by omega) with h | h
        · exact h
        · have := Int.mul_le_mul_of_nonneg_left h (show 0 ≤ m by omega); omega
      have : -1 < k := by
        rcases (show (-1) < k ∨ k ≤ (-1) by omega) with h | h
        · exact h
        · have := Int.mul_le_mul_of_nonneg_left h (show 0 ≤ m by omega); omega
      have : k = 0 := by omega
      subst this; omega
    · rw [if_neg (fun h => by have := hle.mp h; omega), ph_add]
      congr 2
      obtain ⟨k, hk⟩ := hd
      have : k < 2 := by
        rcases (show k < 2 ∨ 2 ≤ k by omega) with h | h
        · exact h
        · have := Int.mul_le_mul_of_nonneg_left h (show 0 ≤ m by omega); omega
      have : 0 < k := by
        rcases (show 0 < k ∨ k ≤ 0 by omega) with h | h
        · exact h
        · have := Int.mul_le_mul_of_nonneg_left h (show 0 ≤ m by omega); omega
      have : k = 1 := by omega
      subst this; omega
theorem cpw_loop : ∀ (d n : Nat) (b acc : Int) (i e : Nat), e < 2147483648 → i ≤ e → e - i = d → q_X4_power_5 (n + d + 1) (ph b) (nI e) (ph acc) (nI i) = some (ph (acc * b ^ d)) := by
  intro d
  induction d with
  | zero =>
    intro n b acc i e he hi hd
    rw [q_X4_power_5, if_pos ((i_le he (by omega)).mpr (by omega)), Int.pow_zero, Int.mul_one]
  | succ d ih =>
    intro n b acc i e he hi hd
    rw [q_X4_power_5, if_neg (fun h => by have := (i_le he (by omega)).mp h; omega)]
    show q_X4_power_5 (n + (d + 1)) (ph b) (nI e) (ph acc * ph b) (nI i + nI 1) = _
    rw [ph_mul, i_add, show n + (d + 1) = n + d + 1 by omega, ih n b (acc * b) (i + 1) e he (by omega) (by omega)]
    congr 2
    rw [Int.pow_succ]; grind
theorem c_power (b : Int) {e : Nat} (he : e < 2147483648) : g_X4_power (ph b) (nI e) = some (ph (b ^ e)) := by
  obtain ⟨n, hn⟩ := FU_ge (d := e) (by omega)
  unfold g_X4_power
  rw [hn, l1]
  have := cpw_loop e n b 1 0 e he (by omega) (by omega)
  rw [Int.one_mul] at this
  exact this
theorem c_quot {a m : Int} (hm : 0 < m) (hR : inR m) : g_X4_quotient (ph a) (ph m) = some (ph a / ph m) := by
  have h0 : ¬ ph m = 0 := by rw [l0, ph_eq hR z_R]; omega
  unfold g_X4_quotient
  rw [if_neg h0, ck_e h0]
theorem c_quot_ex {a m : Int} (hm : 0 < m) (hR : inR m) (ha : inR (m * a)) : g_X4_quotient (ph (m * a)) (ph m) = some (ph a) := by
  rw [c_quot hm hR, ph_div ha hR hm, td_ex (by omega)]
theorem ctm_loop {p : Int} (hp : 2 ≤ p) (hp2 : p < 2147483648) : ∀ (d n k : Nat) (x : Int), k + d ≤ 64 → x ≠ 0 → inR x → x.natAbs < 2 ^ d → ∃ v, v < d ∧ p ^ v ∣ x ∧ ¬ p ^ (v + 1) ∣ x ∧ q_X4_times_22 (n + d + 1) (ph p) (nI k) (ph x) = some (nI (k + v)) := by
  have hR : inR p := ⟨by omega, by omega⟩
  have h0 : ¬ ph p = 0 := by rw [l0, ph_eq hR (by constructor <;> omega)]; omega
  intro d
  induction d with
  | zero => intro n k x _ hx _ h; rw [Nat.pow_zero] at h; omega
  | succ d ih =>
    intro n k x hk hx hxR h
    rw [q_X4_times_22, ck_e h0]
    by_cases hd : p ∣ x
    · have hk64 : ¬ (64 : Int32) ≤ nI k := by rw [show (64 : Int32) = nI 64 from rfl, i_le (by omega) (by omega)]; omega
      rw [if_pos ((jr_0 (Or.inl hxR) hR (by omega)).mpr hd), if_neg hk64, bd_e, ck_e h0, bd_e]
      obtain ⟨y, rfl⟩ := hd
      have e : ph (p * y) / ph p = ph y := by rw [ph_div hxR hR (by omega), td_ex (by omega)]
      have hyR : inR y := by have := td_inR hxR (b := p) (by omega); rwa [td_ex (by omega)] at this
      have hy0 : y ≠ 0 := by intro h; subst h; exact hx (Int.mul_zero p)
      have hlt : y.natAbs < 2 ^ d := by
        rw [Int.natAbs_mul, Nat.pow_succ] at h
        have : 2 * y.natAbs ≤ p.natAbs * y.natAbs := Nat.mul_le_mul_right _ (by omega)
        omega
      obtain ⟨v, h1, h2, h3, h4⟩ := ih n (k + 1) y (by omega) hy0 hyR hlt
      refine ⟨v + 1, by omega, ?_, ?_, ?_⟩
      · obtain ⟨w, rfl⟩ := h2; exact ⟨w, by rw [Int.pow_succ]; grind⟩
      · intro ⟨w, hw⟩
        apply h3
        refine ⟨w, ?_⟩
        apply Int.eq_of_mul_eq_mul_left (a := p) (by omega)
        rw [hw, Int.pow_succ]; grind
      · rw [e, nI_s, show n + (d + 1) = n + d + 1 by omega, h4]; congr 2; omega
    · rw [if_neg (fun h => hd ((jr_0 (Or.inl hxR) hR (by omega)).mp h))]
      exact ⟨0, by omega, by rw [Int.pow_zero]; exact Int.one_dvd x, by rwa [Nat.zero_add, Int.pow_one], rfl⟩
theorem c_times {p x : Int} (hp : 2 ≤ p) (hp2 : p < 2147483648) (hx : x ≠ 0) (hb : inR x) : ∃ v, v < 64 ∧ p ^ v ∣ x ∧ ¬ p ^ (v + 1) ∣ x ∧ g_X4_times (ph x) (ph p) = some (nI v) := by
  obtain ⟨n, hn⟩ := FU_ge (d := 64) (by omega)
  obtain ⟨v, h1, h2, h3, h4⟩ := ctm_loop hp hp2 64 n 0 x (by omega) hx hb (by have := hb.1; have := hb.2; omega)
  refine ⟨v, h1, h2, h3, ?_⟩
  unfold g_X4_times
  rw [if_neg (by rw [l2, ph_lt ⟨by omega, by omega⟩ ⟨by omega, by omega⟩]; omega), if_neg (by rw [l0, ph_eq hb z_R]; exact hx), hn]
  rw [Nat.zero_add] at h4
  exact h4
theorem c_times0 {p : Int} : g_X4_times (ph 0) (ph p) = some 0 := by
  unfold g_X4_times
  split
  · rfl
  · rw [if_pos (show ph 0 = 0 from rfl)]
