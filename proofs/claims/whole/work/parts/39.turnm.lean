/-! the turns of a star: how far they go, and the next equation -/
theorem dv_mul {p x y : Int} {a b : Nat} (hx : p ^ a ∣ x) (hy : p ^ b ∣ y) : p ^ (a + b) ∣ x * y := by
  obtain ⟨u, rfl⟩ := hx
  obtain ⟨v, rfl⟩ := hy
  exact ⟨u * v, by rw [Int.pow_add]; grind⟩
theorem dv_m {p x y : Int} {a b c : Nat} (hx : p ^ a ∣ x) (hy : p ^ b ∣ y) (h : c ≤ a + b) : p ^ c ∣ x * y := dv_pow (dv_mul hx hy) h
theorem dv_k {p x : Int} {a : Nat} (k : Int) (hx : p ^ a ∣ x) : p ^ a ∣ k * x := Int.dvd_trans hx ⟨k, by grind⟩
theorem p1 {p x : Int} (h : p ∣ x) : p ^ 1 ∣ x := by rwa [Int.pow_one]
theorem NK_D {p : Int} {k : Nat} {E : Cv} (hk : 1 ≤ k) (h : NK p k E) : p ^ (k + 6) ∣ dd E := by
  have h2 := h.2
  by_cases ho : k % 2 = 1
  · rw [if_pos ho] at h2
    obtain ⟨h1, h2, h3, h4, h6⟩ := h2
    have h1 := p1 h1
    have h2 := p1 h2
    generalize he : (k + 3) / 2 = e at *
    have hk6 : k + 6 = 2 * e + 3 := by omega
    have he2 : 2 ≤ e := by omega
    have B2 : p ^ 1 ∣ b2 E := Int.dvd_add (dv_m h1 h1 (by omega)) (dv_k 4 h2)
    have B4 : p ^ (e + 1) ∣ b4 E := Int.dvd_add (dv_m h1 h3 (by omega)) (dv_k 2 h4)
    have B6 : p ^ (2 * e) ∣ b6 E := Int.dvd_add (dv_m h3 h3 (by omega)) (dv_k 4 h6)
    have B8 : p ^ (2 * e + 1) ∣ b8 E := by
      unfold b8
      refine Int.dvd_sub (Int.dvd_add (Int.dvd_sub (Int.dvd_add ?_ ?_) ?_) ?_) ?_
      · exact dv_m (dv_m h1 h1 (Nat.le_refl _)) h6 (by omega)
      · exact dv_m (dv_k 4 h2) h6 (by omega)
      · exact dv_m (dv_m h1 h3 (Nat.le_refl _)) h4 (by omega)
      · exact dv_m (dv_m h2 h3 (Nat.le_refl _)) h3 (by omega)
      · exact dv_m h4 h4 (by omega)
    rw [hk6]
    unfold dd
    refine Int.dvd_sub (Int.dvd_sub (Int.dvd_sub ?_ ?_) ?_) ?_
    · exact dv_m (dv_m (dv_k 9 B2) B4 (Nat.le_refl _)) B6 (by omega)
    · exact dv_m (dv_m B2 B2 (Nat.le_refl _)) B8 (by omega)
    · exact dv_m (dv_m (dv_k 8 B4) B4 (Nat.le_refl _)) B4 (by omega)
    · exact dv_m (dv_k 27 B6) B6 (by omega)
  · rw [if_neg ho] at h2
    obtain ⟨h1, h2, h3, h4, h6⟩ := h2
    have h1 := p1 h1
    have h2 := p1 h2
    generalize he : (k + 4) / 2 = e at *
    have hk6 : k + 6 = 2 * e + 2 := by omega
    have he2 : 3 ≤ e := by omega
    have B2 : p ^ 1 ∣ b2 E := Int.dvd_add (dv_m h1 h1 (by omega)) (dv_k 4 h2)
    have B4 : p ^ e ∣ b4 E := Int.dvd_add (dv_m h1 h3 (by omega)) (dv_k 2 h4)
    have B6 : p ^ (2 * e - 1) ∣ b6 E := Int.dvd_add (dv_m h3 h3 (by omega)) (dv_k 4 h6)
    have B8 : p ^ (2 * e) ∣ b8 E := by
      unfold b8
      refine Int.dvd_sub (Int.dvd_add (Int.dvd_sub (Int.dvd_add ?_ ?_) ?_) ?_) ?_
      · exact dv_m (dv_m h1 h1 (Nat.le_refl _)) h6 (by omega)
      · exact dv_m (dv_k 4 h2) h6 (by omega)
      · exact dv_m (dv_m h1 h3 (Nat.le_refl _)) h4 (by omega)
      · exact dv_m (dv_m h2 h3 (Nat.le_refl _)) h3 (by omega)
      · exact dv_m h4 h4 (by omega)
    rw [hk6]
    unfold dd
    refine Int.dvd_sub (Int.dvd_sub (Int.dvd_sub ?_ ?_) ?_) ?_
    · exact dv_m (dv_m (dv_k 9 B2) B4 (Nat.le_refl _)) B6 (by omega)
    · exact dv_m (dv_m B2 B2 (Nat.le_refl _)) B8 (by omega)
    · exact dv_m (dv_m (dv_k 8 B4) B4 (Nat.le_refl _)) B4 (by omega)
    · exact dv_m (dv_k 27 B6) B6 (by omega)
/-- the step of a turn -/
def mvR (p : Int) (k : Nat) (R : Int) : Int := if k % 2 = 1 then 0 else R * p ^ ((k + 4) / 2 - 1)
def mvT (p : Int) (k : Nat) (R : Int) : Int := if k % 2 = 1 then R * p ^ ((k + 3) / 2) else 0
theorem tn_move {p : Int} (hp : p = 2 ∨ p = 3) {k : Nat} (hk : 1 ≤ k) {E : Cv} {x y z R : Int} (h : NK p k E) (q : QK p k E x y z) (hD : p ∣ y * y - 4 * x * z) (hR : p ∣ x * R * R + y * R + z) : NK p (k + 1) (sh E (mvR p k R) 0 (mvT p k R)) := by
  have h2 := h.2
  have h0 := h.1
  unfold QK at q
  unfold NK mvR mvT
  have hl : p ∣ y + 2 * x * R := by
    apply sq_dv hp
    obtain ⟨u, hu⟩ := hD
    obtain ⟨v, hv⟩ := hR
    exact ⟨u + 4 * x * v, by grind⟩
  by_cases ho : k % 2 = 1
  · rw [if_pos ho] at q h2
    rw [if_pos ho, if_pos ho, if_neg (show ¬ (k + 1) % 2 = 1 by omega)]
    obtain ⟨rfl, q3, q6⟩ := q
    obtain ⟨⟨u1, h1⟩, h2, h3, ⟨u4, h4⟩, h6⟩ := h2
    obtain ⟨u, hu⟩ := hl
    obtain ⟨v, hv⟩ := hR
    have ee : (k + 1 + 4) / 2 = (k + 3) / 2 + 1 := by omega
    rw [ee]
    unfold NE
    have e9 : 2 * ((k + 3) / 2 + 1) - 1 = 2 * ((k + 3) / 2) + 1 := by omega
    rw [e9]
    generalize (k + 3) / 2 = e at *
    have e2 : p ^ (2 * e) = p ^ e * p ^ e := by rw [← Int.pow_add]; congr 1; omega
    have e3 : p ^ (2 * e + 1) = p ^ e * p ^ e * p := by rw [Int.pow_succ, e2]
    have e4 : p ^ (e + 1) = p ^ e * p := Int.pow_succ p e
    simp only [NE, sh, a1, a2, a3, a4, a6] at *
    rw [e2] at q6
    rw [e4] at h4
    rw [e3, e4]
    generalize p ^ e = P at *
    refine ⟨?_, ?_, ?_, ?_, ?_, ?_⟩
    · rw [show E.2.1 - 0 * E.1 + 3 * 0 - 0 * 0 = E.2.1 by grind]; exact h0
    · rw [h1]; exact ⟨u1, by grind⟩
    · rw [show E.2.1 - 0 * E.1 + 3 * 0 - 0 * 0 = E.2.1 by grind]; exact h2
    · rw [q3]; exact ⟨u, by grind⟩
    · rw [h1, h4]; exact ⟨u4 - R * u1, by grind⟩
    · rw [q3, q6]; exact ⟨-v, by grind⟩
  · rw [if_neg ho] at q h2
    rw [if_neg ho, if_neg ho, if_pos (show (k + 1) % 2 = 1 by omega)]
    obtain ⟨q2, q4, q6⟩ := q
    obtain ⟨⟨u1, h1⟩, h2, ⟨u3, h3⟩, h4, h6⟩ := h2
    obtain ⟨u, hu⟩ := hl
    obtain ⟨v, hv⟩ := hR
    have ee : (k + 1 + 3) / 2 = (k + 4) / 2 := by omega
    rw [ee]
    obtain ⟨e, he⟩ : ∃ e, (k + 4) / 2 = e + 3 := ⟨(k + 4) / 2 - 3, by omega⟩
    rw [he] at q4 q6 h3 h4 h6 ⊢
    have w1 : p ^ (e + 3) = p * p * p * p ^ e := by rw [Int.pow_succ, Int.pow_succ, Int.pow_succ]; grind
    have w2 : p ^ (e + 3 - 1) = p * p * p ^ e := by rw [show e + 3 - 1 = e + 1 + 1 by omega, Int.pow_succ, Int.pow_succ]; grind
    have w3 : p ^ (2 * (e + 3) - 1) = p * p * p * p * p * (p ^ e * p ^ e) := by rw [show 2 * (e + 3) - 1 = (e + e) + 1 + 1 + 1 + 1 + 1 by omega, Int.pow_succ, Int.pow_succ, Int.pow_succ, Int.pow_succ, Int.pow_succ, Int.pow_add]; grind
    have w4 : p ^ (e + 3 + 1) = p * p * p * p * p ^ e := by rw [Int.pow_succ, w1]; grind
    have w5 : p ^ (2 * (e + 3)) = p * p * p * p * p * p * (p ^ e * p ^ e) := by rw [show 2 * (e + 3) = 2 * (e + 3) - 1 + 1 by omega, Int.pow_succ, w3]; grind
    simp only [NO, sh, a1, a2, a3, a4, a6] at *
    rw [w1] at q4 h3
    rw [w3] at q6
    rw [w1, w2, w4, w5]
    clear w1 w2 w3 w4 w5 h4 h6 h he ee ho hD
    generalize p ^ e = K at *
    refine ⟨?_, ?_, ?_, ?_, ?_, ?_⟩
    · intro ⟨n, hn⟩
      apply h0
      exact ⟨n - 3 * R * K, by clear h0 q2 q4 q6 h1 h2 h3 hu hv hp; grind⟩
    · rw [h1]; exact ⟨u1, by grind⟩
    · rw [q2]; exact ⟨x + 3 * R * p * K, by grind⟩
    · rw [h1, h3]; exact ⟨u3 + R * u1, by grind⟩
    · rw [q2, q4, h1]; exact ⟨u + 3 * K * R * R, by grind⟩
    · rw [q2, q4, q6]; exact ⟨v + K * R * R * R, by grind⟩
theorem NK.qk {p : Int} {k : Nat} {E : Cv} (h : NK p k E) : ∃ x y z, QK p k E x y z := by
  have h2 := h.2
  unfold QK
  by_cases ho : k % 2 = 1
  · simp only [if_pos ho] at h2 ⊢
    obtain ⟨-, -, ⟨y, h3⟩, -, ⟨w, h6⟩⟩ := h2
    exact ⟨1, y, -w, rfl, h3, by rw [h6, Int.neg_neg]⟩
  · simp only [if_neg ho] at h2 ⊢
    obtain ⟨-, ⟨x, h2⟩, -, ⟨y, h4⟩, ⟨w, h6⟩⟩ := h2
    exact ⟨x, y, w, h2, h4, h6⟩
theorem q_mod {p x y z : Int} : (p ∣ (y % p) * (y % p) - 4 * (x % p) * (z % p) ↔ p ∣ y * y - 4 * x * z) ∧ (qr p (x % p) (y % p) (z % p) ↔ qr p x y z) ∧ ∀ R, p ∣ (x % p) * R * R + (y % p) * R + z % p ↔ p ∣ x * R * R + y * R + z := by
  have h1 := em_dv p x
  have h2 : p ∣ y % p - (y + 2 * x * 0) := by have := em_dv p y; rwa [show y + 2 * x * 0 = y by omega]
  have h3 : p ∣ z % p - (z + y * 0 + x * 0 * 0) := by have := em_dv p z; rwa [show z + y * 0 + x * 0 * 0 = z by grind]
  refine ⟨(q_disc h1 h2 h3).symm, (q_qr h1 h2 h3).symm, fun R => ?_⟩
  obtain ⟨u, hu⟩ := em_dv p x
  obtain ⟨v, hv⟩ := em_dv p y
  obtain ⟨w, hw⟩ := em_dv p z
  apply Iff.symm
  apply dv_iff
  exact ⟨u * R * R + v * R + w, by grind⟩
