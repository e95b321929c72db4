/-! primes, and Fermat's little theorem -/
def Pr (p : Int) : Prop := 2 ≤ p ∧ ∀ x y : Int, p ∣ x * y → p ∣ x ∨ p ∣ y
def ch : Nat → Nat → Nat
  | _, 0 => 1
  | 0, _ + 1 => 0
  | n + 1, k + 1 => ch n k + ch n (k + 1)
theorem ch_0 (n : Nat) : ch n 0 = 1 := by cases n <;> rfl
theorem ch_s (n k : Nat) : ch (n + 1) (k + 1) = ch n k + ch n (k + 1) := rfl
theorem ch_big : ∀ (n k : Nat), n < k → ch n k = 0 := by
  intro n
  induction n with
  | zero => intro k h; cases k with
    | zero => omega
    | succ k => rfl
  | succ n ih => intro k h; cases k with
    | zero => omega
    | succ k => rw [ch_s, ih k (by omega), ih (k + 1) (by omega)]
theorem ch_n : ∀ n : Nat, ch n n = 1 := by
  intro n
  induction n with
  | zero => rfl
  | succ n ih => rw [ch_s, ih, ch_big n (n + 1) (by omega)]
theorem ch_abs : ∀ (n k : Nat), (k + 1) * ch (n + 1) (k + 1) = (n + 1) * ch n k := by
  intro n
  induction n with
  | zero =>
    intro k
    cases k with
    | zero => rfl
    | succ k => rw [ch_s, ch_big 0 (k + 1) (by omega), ch_big 0 (k + 1 + 1) (by omega)]; simp
  | succ n ih =>
    intro k
    cases k with
    | zero =>
      have := ih 0
      rw [ch_s, ch_0]
      rw [ch_0] at this
      rw [Nat.zero_add] at this
      rw [Nat.zero_add] at *
      omega
    | succ k =>
      have h1 := ih k
      have h2 := ih (k + 1)
      rw [ch_s (n + 1) (k + 1)]
      rw [Nat.mul_add, h2]
      have h3 : (k + 1 + 1) * ch (n + 1) (k + 1) = (k + 1) * ch (n + 1) (k + 1) + ch (n + 1) (k + 1) := by grind
      rw [h3, h1, ch_s n k]
      grind
def bs (n : Nat) (x : Int) : Nat → Int
  | 0 => 0
  | j + 1 => bs n x j + (ch n j : Int) * x ^ j
theorem bs_s (n : Nat) (x : Int) (j : Nat) : bs n x (j + 1) = bs n x j + (ch n j : Int) * x ^ j := rfl
theorem bs_rec (n : Nat) (x : Int) : ∀ j : Nat, bs (n + 1) x (j + 1) = bs n x (j + 1) + x * bs n x j := by
  intro j
  induction j with
  | zero => rw [bs_s, bs_s, ch_0, ch_0]; show 0 + _ = 0 + _ + x * 0; omega
  | succ j ih =>
    rw [bs_s (n + 1), ih, bs_s n x (j + 1), bs_s n x j, ch_s, Int.pow_succ]
    push_cast
    grind
theorem binom (x : Int) : ∀ n : Nat, (x + 1) ^ n = bs n x (n + 1) := by
  intro n
  induction n with
  | zero => rw [bs_s, ch_0]; show _ = 0 + _; simp
  | succ n ih =>
    have e : bs n x (n + 1 + 1) = bs n x (n + 1) := by rw [bs_s n x (n + 1), ch_big n (n + 1) (by omega)]; simp
    rw [bs_rec, e, ← ih, Int.pow_succ]; grind
theorem pr_ch {P : Nat} (h : Pr P) {k : Nat} (h0 : 0 < k) (hk : k < P) : (P : Int) ∣ (ch P k : Int) := by
  obtain ⟨n, rfl⟩ : ∃ n, P = n + 1 := ⟨P - 1, by have := h.1; omega⟩
  obtain ⟨j, rfl⟩ : ∃ j, k = j + 1 := ⟨k - 1, by omega⟩
  have e := ch_abs n j
  have e2 : ((j + 1 : Nat) : Int) * (ch (n + 1) (j + 1) : Int) = ((n + 1 : Nat) : Int) * (ch n j : Int) := by exact_mod_cast e
  rcases h.2 _ _ ⟨_, e2⟩ with h1 | h1
  · exfalso
    have := Int.le_of_dvd (by omega) h1
    omega
  · exact h1
theorem bs_cg {P : Nat} (h : Pr P) (x : Int) : ∀ j : Nat, 1 ≤ j → j ≤ P → (P : Int) ∣ bs P x j - 1 := by
  intro j
  induction j with
  | zero => intro h1; omega
  | succ j ih =>
    intro _ hj
    rw [bs_s]
    cases j with
    | zero => rw [ch_0]; show _ ∣ 0 + _ - 1; exact ⟨0, by simp⟩
    | succ j =>
      obtain ⟨a, ha⟩ := ih (by omega) (by omega)
      obtain ⟨b, hb⟩ := pr_ch h (k := j + 1) (by omega) (by omega)
      refine ⟨a + b * x ^ (j + 1), ?_⟩
      rw [hb]
      have : bs P x (j + 1) = P * a + 1 := by omega
      rw [this]; grind
theorem frosh {P : Nat} (h : Pr P) (x : Int) : (P : Int) ∣ (x + 1) ^ P - (x ^ P + 1) := by
  rw [binom, bs_s, ch_n]
  obtain ⟨a, ha⟩ := bs_cg h x P (by have := h.1; omega) (by omega)
  exact ⟨a, by rw [← ha]; grind⟩
theorem pow_cg {p a b : Int} (h : p ∣ a - b) : ∀ n : Nat, p ∣ a ^ n - b ^ n := by
  intro n
  induction n with
  | zero => exact ⟨0, by simp⟩
  | succ n ih =>
    obtain ⟨u, hu⟩ := h
    obtain ⟨v, hv⟩ := ih
    rw [Int.pow_succ, Int.pow_succ]
    exact ⟨v * a + b ^ n * u, by
      have e1 : a = b + p * u := by omega
      have e2 : a ^ n = b ^ n + p * v := by omega
      rw [e2, e1]; grind⟩
theorem fermat_n {P : Nat} (h : Pr P) : ∀ n : Nat, (P : Int) ∣ (n : Int) ^ P - n := by
  intro n
  induction n with
  | zero => have : P ≠ 0 := by have := h.1; omega
            exact ⟨0, by have := Int.zero_pow this; simp [this]⟩
  | succ n ih =>
    obtain ⟨a, ha⟩ := ih
    obtain ⟨b, hb⟩ := frosh h n
    refine ⟨a + b, ?_⟩
    rw [show ((n + 1 : Nat) : Int) = (n : Int) + 1 by omega]
    grind
theorem fermat {P : Nat} (h : Pr P) (x : Int) : (P : Int) ∣ x ^ P - x := by
  have hp := h.1
  have k1 := Int.emod_nonneg x (show (P : Int) ≠ 0 by omega)
  have e : ((x % P).toNat : Int) = x % P := by omega
  have h1 := fermat_n h (x % P).toNat
  rw [e] at h1
  have h0 : (P : Int) ∣ x - x % P := by obtain ⟨q, hq⟩ := em_dv (P : Int) x; exact ⟨-q, by grind⟩
  obtain ⟨a, ha⟩ := pow_cg h0 P
  obtain ⟨b, hb⟩ := h1
  obtain ⟨c, hc⟩ := h0
  exact ⟨a + b - c, by grind⟩
theorem fermat1 {P : Nat} (h : Pr P) {x : Int} (hx : ¬ (P : Int) ∣ x) : (P : Int) ∣ x ^ (P - 1) - 1 := by
  have h1 := fermat h x
  have e : x ^ P - x = x * (x ^ (P - 1) - 1) := by
    obtain ⟨n, hn⟩ : ∃ n, P = n + 1 := ⟨P - 1, by have := h.1; omega⟩
    rw [hn, Nat.add_sub_cancel, Int.pow_succ]; grind
  rw [e] at h1
  rcases h.2 _ _ h1 with h2 | h2
  · exact absurd h2 hx
  · exact h2
theorem inv_ex {P : Nat} (h : Pr P) {x : Int} (hx : ¬ (P : Int) ∣ x) : ∃ y, (P : Int) ∣ x * y - 1 := by
  refine ⟨x ^ (P - 2), ?_⟩
  have h1 := fermat1 h hx
  obtain ⟨n, hn⟩ : ∃ n, P = n + 2 := ⟨P - 2, by have := h.1; omega⟩
  rw [hn] at h1 ⊢
  have : x ^ (n + 2 - 1) = x * x ^ (n + 2 - 2) := by rw [show n + 2 - 1 = n + 1 by omega, show n + 2 - 2 = n by omega, Int.pow_succ]; grind
  rwa [this] at h1
theorem Pr.sq {p x : Int} (h : Pr p) (hx : p ∣ x * x) : p ∣ x := (h.2 x x hx).elim id id
theorem Pr.pow {p x : Int} (h : Pr p) : ∀ n : Nat, p ∣ x ^ n → p ∣ x := by
  intro n
  induction n with
  | zero => intro h1; rw [Int.pow_zero] at h1; exact Int.dvd_trans h1 (Int.one_dvd x)
  | succ n ih => intro h1; rw [Int.pow_succ] at h1; exact (h.2 _ _ h1).elim ih id
theorem Pr.can {p x : Int} (h : Pr p) (hx : ¬ p ∣ x) : ∀ (n : Nat) {y : Int}, p ^ n ∣ x * y → p ^ n ∣ y := by
  intro n
  induction n with
  | zero => intro y _; rw [Int.pow_zero]; exact Int.one_dvd y
  | succ n ih =>
    intro y hy
    obtain ⟨w, rfl⟩ := ih (Int.dvd_trans ⟨p, Int.pow_succ p n⟩ hy)
    rw [Int.pow_succ] at hy ⊢
    obtain ⟨q, hq⟩ := hy
    have hp := h.1
    have e : x * w = p * q := by
      apply Int.eq_of_mul_eq_mul_left (a := p ^ n) (Int.pow_ne_zero (by omega))
      grind
    rcases h.2 _ _ ⟨q, e⟩ with h1 | ⟨v, rfl⟩
    · exact absurd h1 hx
    · exact ⟨v, by grind⟩
