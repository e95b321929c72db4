/-! the lattices of the shifts, turn by turn -/
theorem mul_dv {p : Int} (hp : p = 2 ∨ p = 3) {x y : Int} (h : p ∣ x * y) : p ∣ x ∨ p ∣ y := by
  rcases hp with rfl | rfl
  · obtain ⟨q, i, rfl, hi⟩ := md2 x
    obtain ⟨q', i', rfl, hi'⟩ := md2 y
    rcases hi with rfl | rfl <;> rcases hi' with rfl | rfl <;> first | exact Or.inl ⟨q, by omega⟩ | exact Or.inr ⟨q', by omega⟩ | (exfalso; grind)
  · obtain ⟨q, i, rfl, hi⟩ := md3 x
    obtain ⟨q', i', rfl, hi'⟩ := md3 y
    rcases hi with rfl | rfl | rfl <;> rcases hi' with rfl | rfl | rfl <;> first | exact Or.inl ⟨q, by omega⟩ | exact Or.inr ⟨q', by omega⟩ | (exfalso; grind)
theorem p_ne {p : Int} (hp : p = 2 ∨ p = 3) : p ≠ 0 := by omega
/-- the double root is one alone -/
theorem dbl_0 {p : Int} (hp : p = 2 ∨ p = 3) {b c d c' d' ρ : Int} (hb : ¬ p ∣ b) (hc : p ∣ c) (hd : p ∣ d) (hc' : p ∣ c') (hd' : p ∣ d') (k2 : p ∣ c' - (c + 2 * ρ * b + 3 * ρ * ρ)) (k3 : p ∣ d' - (d + ρ * c + ρ * ρ * b + ρ * ρ * ρ)) : p ∣ ρ := by
  obtain ⟨c1, rfl⟩ := hc
  obtain ⟨d1, rfl⟩ := hd
  obtain ⟨c2, rfl⟩ := hc'
  obtain ⟨d2, rfl⟩ := hd'
  obtain ⟨x, hx⟩ := k2
  obtain ⟨y, hy⟩ := k3
  have h1 : p ∣ ρ * (2 * b + 3 * ρ) := ⟨c2 - c1 - x, by grind⟩
  have h2 : p ∣ ρ * (ρ * (b + ρ)) := ⟨d2 - d1 - ρ * c1 - y, by grind⟩
  rcases mul_dv hp h1 with h | h
  · exact h
  rcases mul_dv hp h2 with h' | h'
  · exact h'
  rcases mul_dv hp h' with h' | h'
  · exact h'
  obtain ⟨u, hu⟩ := h
  obtain ⟨v, hv⟩ := h'
  exact ⟨u - 2 * v, by grind⟩
theorem tri_0 {p : Int} (hp : p = 2 ∨ p = 3) {b c d d' ρ : Int} (hb : p ∣ b) (hc : p ∣ c) (hd : p ∣ d) (hd' : p ∣ d') (k3 : p ∣ d' - (d + ρ * c + ρ * ρ * b + ρ * ρ * ρ)) : p ∣ ρ := by
  obtain ⟨b1, rfl⟩ := hb
  obtain ⟨c1, rfl⟩ := hc
  obtain ⟨d1, rfl⟩ := hd
  obtain ⟨d2, rfl⟩ := hd'
  obtain ⟨y, hy⟩ := k3
  have h2 : p ∣ ρ * (ρ * ρ) := ⟨d2 - d1 - ρ * c1 - ρ * ρ * b1 - y, by grind⟩
  rcases mul_dv hp h2 with h' | h'
  · exact h'
  · exact sq_dv hp h'
theorem dv_pow {p x : Int} {n m : Nat} (h : p ^ n ∣ x) (hm : m ≤ n) : p ^ m ∣ x := Int.dvd_trans ⟨p ^ (n - m), by rw [← Int.pow_add]; congr 1; omega⟩ h
theorem pow_co {p x : Int} {n : Nat} {y : Int} (hp0 : p ≠ 0) (h : x = p ^ n * y) (h' : p ^ (n + 1) ∣ x) : p ∣ y := by
  obtain ⟨k, hk⟩ := h'
  refine ⟨k, ?_⟩
  apply Int.eq_of_mul_eq_mul_left (Int.pow_ne_zero (m := n) hp0)
  rw [← h, hk, Int.pow_succ]; grind
theorem NO.fl {p : Int} {e : Nat} (he : 2 ≤ e) {E : Cv} (h : NO p e E) : FL p E := by
  obtain ⟨h1, h2, h3, h4, h6⟩ := h
  exact ⟨h1, h2, dv_pow h3 he, dv_pow h4 (by omega), dv_pow h6 (by omega)⟩
/-- the start of the turns, and where the root is triple -/
theorem lat_2 {p : Int} (hp : p = 2 ∨ p = 3) {E : Cv} {r s t : Int} (h : NO p 2 E) (h' : NO p 2 (sh E r s t)) : p ^ 2 ∣ r ∧ p ∣ s ∧ p ^ 2 ∣ t := by
  have hp0 := p_ne hp
  have f := h.fl (by omega)
  have f' := h'.fl (by omega)
  obtain ⟨hr, hs, ht⟩ := FL_sh hp f f'
  refine ⟨?_, hs, ht⟩
  obtain ⟨k1, ⟨b, eb⟩, k3, k4, k6⟩ := h
  obtain ⟨-, ⟨b', eb'⟩, -, k4', k6'⟩ := h'
  obtain ⟨c, ec⟩ := dv_pow (m := 2) k4 (by omega)
  obtain ⟨d, ed⟩ := dv_pow (m := 3) k6 (by omega)
  obtain ⟨c', ec'⟩ := dv_pow (m := 2) k4' (by omega)
  obtain ⟨d', ed'⟩ := dv_pow (m := 3) k6' (by omega)
  have hc := pow_co hp0 ec k4
  have hd := pow_co hp0 ed (dv_pow k6 (by omega))
  have hc' := pow_co hp0 ec' k4'
  have hd' := pow_co hp0 ed' (dv_pow k6' (by omega))
  obtain ⟨ρ, e, q1, q2, q3⟩ := FL_cub hp0 k1 k3 hr hs ht eb ec ed eb' ec' ed'
  have : p ∣ ρ := by
    by_cases hbb : p ∣ b
    · exact tri_0 hp hbb hc hd hd' q3
    · exact dbl_0 hp hbb hc hd hc' hd' q2 q3
  obtain ⟨k, hk⟩ := this
  exact ⟨k, by rw [e, hk]; grind⟩
theorem NE.no {p : Int} {e : Nat} (he : 1 ≤ e) {E : Cv} (h : NE p e E) : NO p (e - 1) E := by
  obtain ⟨h1, h2, h3, h4, h6⟩ := h
  exact ⟨h1, h2, dv_pow h3 (by omega), dv_pow h4 (by omega), dv_pow h6 (by omega)⟩
theorem NO.ne {p : Int} {e : Nat} {E : Cv} (h : NO p e E) : NE p e E := by
  obtain ⟨h1, h2, h3, h4, h6⟩ := h
  exact ⟨h1, h2, h3, dv_pow h4 (by omega), dv_pow h6 (by omega)⟩
theorem lat_NE {p : Int} (hp : p = 2 ∨ p = 3) {e : Nat} (he : 3 ≤ e) {E : Cv} {r s t : Int} (h : NE p e E) (h' : NE p e (sh E r s t)) (L : p ^ (e - 1) ∣ r ∧ p ∣ s ∧ p ^ (e - 1) ∣ t) : p ^ (e - 1) ∣ r ∧ p ∣ s ∧ p ^ e ∣ t := by
  have hp0 := p_ne hp
  obtain ⟨h1, h2, h3, h4, h6⟩ := h
  obtain ⟨g1, g2, g3, g4, g6⟩ := h'
  obtain ⟨k, rfl⟩ : ∃ k, e = k + 1 := ⟨e - 1, by omega⟩
  simp only [Nat.add_sub_cancel] at L ⊢
  obtain ⟨α, eα⟩ := dv_pow (m := k) h3 (by omega)
  obtain ⟨γ, eγ⟩ := dv_pow (m := 2 * k) h6 (by omega)
  obtain ⟨α', eα'⟩ := dv_pow (m := k) g3 (by omega)
  obtain ⟨γ', eγ'⟩ := dv_pow (m := 2 * k) g6 (by omega)
  obtain ⟨τ, et, q1, q2⟩ := NO_q hp0 (by omega) h1 h2 h4 L.1 L.2.2 eα eγ eα' eγ'
  have hα := pow_co hp0 eα h3
  have hγ := pow_co hp0 eγ (dv_pow h6 (by omega))
  have hγ' := pow_co hp0 eγ' (dv_pow g6 (by omega))
  have : p ∣ τ := by
    apply sq_dv hp
    obtain ⟨x, rfl⟩ := hα
    obtain ⟨y, rfl⟩ := hγ
    obtain ⟨y', rfl⟩ := hγ'
    obtain ⟨w, hw⟩ := q2
    exact ⟨w - y' + y - τ * x, by grind⟩
  obtain ⟨j, hj⟩ := this
  refine ⟨L.1, L.2.1, ⟨j, ?_⟩⟩
  rw [et, hj, Int.pow_succ]; grind
theorem lat_NO {p : Int} (hp : p = 2 ∨ p = 3) {e : Nat} (he : 3 ≤ e) {E : Cv} {r s t : Int} (h : NO p e E) (h' : NO p e (sh E r s t)) (hb : ¬ p ^ 2 ∣ a2 E) (L : p ^ (e - 1) ∣ r ∧ p ∣ s ∧ p ^ e ∣ t) : p ^ e ∣ r ∧ p ∣ s ∧ p ^ e ∣ t := by
  have hp0 := p_ne hp
  obtain ⟨h1, ⟨δ, eδ⟩, h3, h4, h6⟩ := h
  obtain ⟨g1, ⟨δ', eδ'⟩, g3, g4, g6⟩ := h'
  obtain ⟨β, eβ⟩ := dv_pow (m := e) h4 (by omega)
  obtain ⟨γ, eγ⟩ := dv_pow (m := 2 * e - 1) h6 (by omega)
  obtain ⟨β', eβ'⟩ := dv_pow (m := e) g4 (by omega)
  obtain ⟨γ', eγ'⟩ := dv_pow (m := 2 * e - 1) g6 (by omega)
  obtain ⟨ρ, er, q1, q2, q3⟩ := NE_q hp0 he h1 h3 L.1 L.2.1 L.2.2 eδ eβ eγ eδ' eβ' eγ'
  have hβ := pow_co hp0 eβ h4
  have hγ := pow_co hp0 eγ (dv_pow h6 (by omega))
  have hγ' := pow_co hp0 eγ' (dv_pow g6 (by omega))
  have hd : ¬ p ∣ δ := fun ⟨k, hk⟩ => hb ⟨k, by rw [eδ, hk]; grind⟩
  have : p ∣ ρ := by
    obtain ⟨x, rfl⟩ := hβ
    obtain ⟨y, rfl⟩ := hγ
    obtain ⟨y', rfl⟩ := hγ'
    obtain ⟨w, hw⟩ := q3
    have : p ∣ ρ * ρ * δ := ⟨y' - y - ρ * x - w, by grind⟩
    rcases mul_dv hp this with h | h
    · exact sq_dv hp h
    · exact absurd h hd
  obtain ⟨j, hj⟩ := this
  refine ⟨⟨j, ?_⟩, L.2⟩
  obtain ⟨k, rfl⟩ : ∃ k, e = k + 1 := ⟨e - 1, by omega⟩
  rw [er, hj, Int.pow_succ, Nat.add_sub_cancel]; grind
/-- the equation at the turn k -/
def NK (p : Int) (k : Nat) (E : Cv) : Prop := ¬ p ^ 2 ∣ a2 E ∧ (if k % 2 = 1 then NO p ((k + 3) / 2) E else NE p ((k + 4) / 2) E)
/-- the shifts at the turn k -/
def LK (p : Int) (k : Nat) (r s t : Int) : Prop := if k % 2 = 1 then p ^ ((k + 3) / 2) ∣ r ∧ p ∣ s ∧ p ^ ((k + 3) / 2) ∣ t else p ^ ((k + 4) / 2 - 1) ∣ r ∧ p ∣ s ∧ p ^ ((k + 4) / 2) ∣ t
theorem NK.down {p : Int} {k : Nat} {E : Cv} (hk : 1 ≤ k) (h : NK p (k + 1) E) : NK p k E := by
  refine ⟨h.1, ?_⟩
  have h2 := h.2
  by_cases hk2 : k % 2 = 1
  · rw [if_pos hk2]
    rw [if_neg (by omega)] at h2
    have := h2.no (by omega)
    rwa [show (k + 1 + 4) / 2 - 1 = (k + 3) / 2 by omega] at this
  · rw [if_neg hk2]
    rw [if_pos (by omega)] at h2
    have := h2.ne
    rwa [show (k + 1 + 3) / 2 = (k + 4) / 2 by omega] at this
theorem lat_K {p : Int} (hp : p = 2 ∨ p = 3) : ∀ (k : Nat) (E : Cv) (r s t : Int), NK p (k + 1) E → NK p (k + 1) (sh E r s t) → LK p (k + 1) r s t := by
  intro k
  induction k with
  | zero =>
    intro E r s t h h'
    have := lat_2 hp h.2 h'.2
    exact this
  | succ k ih =>
    intro E r s t h h'
    have L := ih E r s t (h.down (by omega)) (h'.down (by omega))
    unfold LK at L ⊢
    have h2 := h.2
    have h2' := h'.2
    by_cases hk : (k + 1) % 2 = 1
    · rw [if_pos hk] at L
      rw [if_neg (by omega)] at h2 h2' ⊢
      refine lat_NE hp (by omega) h2 h2' ?_
      rwa [show (k + 1 + 1 + 4) / 2 - 1 = (k + 1 + 3) / 2 by omega]
    · rw [if_neg hk] at L
      rw [if_pos (by omega)] at h2 h2' ⊢
      refine lat_NO hp (by omega) h2 h2' h.1 ?_
      rwa [show (k + 1 + 1 + 3) / 2 = (k + 1 + 4) / 2 by omega]
/-- the quadratic x T T + y T + z of the turn k -/
def QK (p : Int) (k : Nat) (E : Cv) (x y z : Int) : Prop := if k % 2 = 1 then x = 1 ∧ a3 E = p ^ ((k + 3) / 2) * y ∧ a6 E = p ^ (2 * ((k + 3) / 2)) * (-z) else a2 E = p * x ∧ a4 E = p ^ ((k + 4) / 2) * y ∧ a6 E = p ^ (2 * ((k + 4) / 2) - 1) * z
theorem q_move {p : Int} (hp : p = 2 ∨ p = 3) {k : Nat} {E : Cv} {r s t x y z x' y' z' : Int} (h : NK p (k + 1) E) (h' : NK p (k + 1) (sh E r s t)) (q : QK p (k + 1) E x y z) (q' : QK p (k + 1) (sh E r s t) x' y' z') :
    ∃ τ, p ∣ x' - x ∧ p ∣ y' - (y + 2 * x * τ) ∧ p ∣ z' - (z + y * τ + x * τ * τ) := by
  have hp0 := p_ne hp
  have L := lat_K hp k E r s t h h'
  unfold LK at L
  unfold QK at q q'
  have h2 := h.2
  have h2' := h'.2
  by_cases hk : (k + 1) % 2 = 1
  · rw [if_pos hk] at L q q' h2 h2'
    obtain ⟨rfl, q3, q6⟩ := q
    obtain ⟨rfl, q3', q6'⟩ := q'
    obtain ⟨τ, et, m1, m2⟩ := NO_q hp0 (by omega) h2.1 h2.2.1 h2.2.2.2.1 L.1 L.2.2 q3 q6 q3' q6'
    obtain ⟨u, hu⟩ := m1
    obtain ⟨v, hv⟩ := m2
    exact ⟨τ, ⟨0, by grind⟩, ⟨u, by grind⟩, ⟨-v, by grind⟩⟩
  · rw [if_neg hk] at L q q' h2 h2'
    obtain ⟨q2, q4, q6⟩ := q
    obtain ⟨q2', q4', q6'⟩ := q'
    obtain ⟨ρ, er, m1, m2, m3⟩ := NE_q hp0 (by omega) h2.1 h2.2.2.1 L.1 L.2.1 L.2.2 q2 q4 q6 q2' q4' q6'
    obtain ⟨v, hv⟩ := m2
    obtain ⟨w, hw⟩ := m3
    exact ⟨ρ, m1, ⟨v, by grind⟩, ⟨w, by grind⟩⟩
theorem q_disc {p x y z x' y' z' τ : Int} (h1 : p ∣ x' - x) (h2 : p ∣ y' - (y + 2 * x * τ)) (h3 : p ∣ z' - (z + y * τ + x * τ * τ)) : p ∣ y * y - 4 * x * z ↔ p ∣ y' * y' - 4 * x' * z' := by
  obtain ⟨u, hu⟩ := h1
  obtain ⟨v, hv⟩ := h2
  obtain ⟨w, hw⟩ := h3
  have e1 : x' = x + p * u := by omega
  have e2 : y' = y + 2 * x * τ + p * v := by omega
  have e3 : z' = z + y * τ + x * τ * τ + p * w := by omega
  subst e1; subst e2; subst e3
  apply dv_iff
  exact ⟨2 * (y + 2 * x * τ) * v + p * v * v - 4 * (x * w + u * (z + y * τ + x * τ * τ) + p * u * w), by grind⟩
theorem q_qr {p x y z x' y' z' τ : Int} (h1 : p ∣ x' - x) (h2 : p ∣ y' - (y + 2 * x * τ)) (h3 : p ∣ z' - (z + y * τ + x * τ * τ)) : qr p x y z ↔ qr p x' y' z' := by
  obtain ⟨u, hu⟩ := h1
  obtain ⟨v, hv⟩ := h2
  obtain ⟨w, hw⟩ := h3
  have e1 : x' = x + p * u := by omega
  have e2 : y' = y + 2 * x * τ + p * v := by omega
  have e3 : z' = z + y * τ + x * τ * τ + p * w := by omega
  subst e1; subst e2; subst e3
  constructor
  · rintro ⟨T, k, hk⟩
    exact ⟨T - τ, k + u * (T - τ) * (T - τ) + v * (T - τ) + w, by grind⟩
  · rintro ⟨T, k, hk⟩
    exact ⟨T + τ, k - u * T * T - v * T - w, by grind⟩
