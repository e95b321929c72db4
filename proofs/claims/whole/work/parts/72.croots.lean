theorem sqr_tr {P : Nat} (hp : Pr P) {v s a g : Int} (ha : ¬ (P : Int) ∣ a) (hg : ¬ (P : Int) ∣ g) (h : (P : Int) ∣ a * a * v - g * g * s) : sqr P v ↔ sqr P s := by
  have key : ∀ {v s a g : Int}, ¬ (P : Int) ∣ g → (P : Int) ∣ a * a * v - g * g * s → sqr P v → sqr P s := by
    intro v s a g hg h ⟨T, hT⟩
    obtain ⟨i, hi⟩ := inv_ex hp hg
    refine ⟨a * T * i, ?_⟩
    obtain ⟨x, hx⟩ := h; obtain ⟨y, hy⟩ := hT; obtain ⟨w, hw⟩ := hi
    refine ⟨a * a * i * i * y + x * i * i + s * (2 * w + P * w * w), ?_⟩
    have e1 : g * i = P * w + 1 := by omega
    have e2 : T * T = v + P * y := by omega
    have e3 : a * a * v = g * g * s + P * x := by omega
    have : a * T * i * (a * T * i) = a * a * (T * T) * (i * i) := by grind
    rw [this, e2]
    have : a * a * (v + P * y) * (i * i) = (g * i) * (g * i) * s + P * x * (i * i) + a * a * P * y * (i * i) := by
      have : a * a * (v + P * y) = g * g * s + P * x + a * a * P * y := by rw [← e3]; grind
      rw [this]; grind
    rw [this, e1]; grind
  constructor
  · exact key hg h
  · refine key (a := g) ha ?_
    obtain ⟨x, hx⟩ := h
    exact ⟨-x, by grind⟩
/-- the model's count -/
def cM (P : Nat) (x y : Int) : Nat := cs (fun T => if (P : Int) ∣ 4 * (T * T * T) - 3 * (x * T) - y then 1 else 0) P
theorem cr_m {P : Nat} (h5 : 2 ≤ P) (h30 : P ≤ 30) {x y : Int} (hx : inR x) (hy : inR y) : g_X8_cubicRoots (ph P) (ph x) (ph y) = some (nI (cM P x y)) := by
  have hR : inR (P : Int) := ⟨by omega, by omega⟩
  have h0 : ¬ ph (P : Int) = 0 := by rw [l0, ph_eq hR z_R]; omega
  have bx := em_lt (p := (P : Int)) (x := x) (by omega)
  have bY := em_lt (p := (P : Int)) (x := y) (by omega)
  have jm : ∀ a b : Int, (0 ≤ a ∧ a ≤ 1000) → (0 ≤ b ∧ b ≤ 1000) → jr64 (ph a * ph b) (ph P) = ph (a * b % P) := by
    intro a b ha hb
    have m := mb (X := 1000) (Y := 1000) (x := a) (y := b) (by omega) (by omega)
    rw [ph_mul, jr_ph ⟨by omega, by omega⟩ hR (by omega), tm_nn (Int.mul_nonneg ha.1 hb.1)]
  have loop : ∀ (d k n : Nat), k + d = P → q_X8_cubicRoots_21 (n + d + 1) (ph P) (ph (x % P)) (ph (y % P)) (nI (cs (fun T => if (P : Int) ∣ 4 * (T * T * T) - 3 * (x * T) - y then 1 else 0) k)) (ph (k : Int)) = some (nI (cM P x y)) := by
    intro d
    induction d with
    | zero =>
      intro k n hk
      have hkP : k = P := by omega
      subst hkP
      rw [q_X8_cubicRoots_21, if_pos (by rw [ph_le hR hR]; omega)]
      rfl
    | succ d ih =>
      intro k n hk
      have b1 := em_lt (p := (P : Int)) (x := (k : Int) * k) (by omega)
      have b2 := em_lt (p := (P : Int)) (x := (k : Int) * k % P * k) (by omega)
      have b3 := em_lt (p := (P : Int)) (x := x % P * (k : Int)) (by omega)
      rw [show n + (d + 1) + 1 = (n + d + 1) + 1 by omega, q_X8_cubicRoots_21, if_neg (by rw [ph_le hR ⟨by omega, by omega⟩]; omega), ck_e h0, ck_e h0, ck_e h0, bd_e, ck_e h0, jm k k (by omega) (by omega), jm _ k (by omega) (by omega), jm (x % P) k (by omega) (by omega), l4, l3, ph_mul, ph_mul, ph_sub, ph_sub]
      have e : jr64 (ph ((k : Int) * k % P * k % P * 4 - 3 * (x % P * k % P) - y % P)) (ph P) = 0 ↔ (P : Int) ∣ 4 * (k * k * k) - 3 * (x * k) - y := by
        rw [jr_0 (Or.inl ⟨by omega, by omega⟩) hR (by omega)]
        apply dv_iff
        obtain ⟨q1, h1⟩ := em_dv (P : Int) ((k : Int) * k)
        obtain ⟨q2, h2⟩ := em_dv (P : Int) ((k : Int) * k % P * k)
        obtain ⟨q3, h3⟩ := em_dv (P : Int) (x % P * k)
        obtain ⟨q4, h4⟩ := em_dv (P : Int) x
        obtain ⟨q5, h5⟩ := em_dv (P : Int) y
        refine ⟨-(4 * (q2 + q1 * k) - 3 * (q3 + q4 * k) - q5), ?_⟩
        have e1 : (k : Int) * k % P = k * k + P * q1 := by omega
        have e2 : (k : Int) * k % P * k % P = (k * k + P * q1) * k + P * q2 := by rw [← e1]; omega
        have e4 : x % P = x + P * q4 := by omega
        have e3 : x % P * k % P = (x + P * q4) * k + P * q3 := by rw [← e4]; omega
        have e5 : y % P = y + P * q5 := by omega
        rw [e2, e3, e5]; grind
      have := ih (k + 1) n (by omega)
      rw [cs_s] at this
      by_cases hd : (P : Int) ∣ 4 * (k * k * k) - 3 * (x * k) - y
      · rw [if_pos (e.mpr hd), bd_e, bd_e, nI_s, l1, ph_add]
        rw [if_pos hd] at this
        exact this
      · rw [if_neg (fun h => hd (e.mp h)), bd_e, bd_e, l1, ph_add]
        rw [if_neg hd] at this
        rw [show ∀ n : Nat, nI n + (0 : Int32) = nI n from fun n => i_add n 0]
        exact this
  obtain ⟨n, hn⟩ := FU_ge (d := P) (by omega)
  unfold g_X8_cubicRoots
  rw [m_mod (by omega) (by omega) (Or.inl hx), ob_e, m_mod (by omega) (by omega) (Or.inl hy), ob_e, hn]
  exact loop P 0 n (by omega)
theorem cnt_cs (p b c d : Int) : ∀ n, cnt p b c d n = cs (fun T => if p ∣ cub b c d T then 1 else 0) n := by
  intro n
  induction n with
  | zero => rfl
  | succ n ih => rw [cs_s, ← ih]; rfl
theorem cnt_far {P : Nat} (hp : Pr P) (h5 : 5 ≤ P) {b c d x y u : Int} (hu : ¬ (P : Int) ∣ u) (hx : (P : Int) ∣ x - u ^ 4 * (16 * (b * b - 3 * c))) (hy : (P : Int) ∣ y - u ^ 6 * (-32 * (2 * b * b * b - 9 * b * c + 27 * d))) : cnt P b c d P = cM P x y := by
  rw [cnt_cs]
  unfold cM
  have h5' : 5 ≤ (P : Int) := by omega
  have nα : ¬ (P : Int) ∣ 6 * (u * u) := by
    rw [show 6 * (u * u) = 2 * (3 * (u * u)) by grind]
    exact (hp.n23 h5' (hp.n23 h5' (hp.nm hu hu)).2).1
  have := cs_aff hp nα (β := 2 * (u * u) * b) (Q := fun U => (P : Int) ∣ 4 * (U * U * U) - 3 * (x * U) - y) (by
    intro s t ⟨q, hq⟩
    apply Iff.symm
    apply dv_iff
    have e : s = t + P * q := by omega
    refine ⟨4 * (3 * t * t * q + 3 * t * P * q * q + P * P * q * q * q) - 3 * x * q, ?_⟩
    rw [e]; grind)
  rw [← this]
  apply cs_cg
  intro T hT
  have e : (P : Int) ∣ 4 * ((6 * (u * u) * T + 2 * (u * u) * b) * (6 * (u * u) * T + 2 * (u * u) * b) * (6 * (u * u) * T + 2 * (u * u) * b)) - 3 * (x * (6 * (u * u) * T + 2 * (u * u) * b)) - y ↔ (P : Int) ∣ cub b c d T := by
    have e1 : (P : Int) ∣ (4 * ((6 * (u * u) * T + 2 * (u * u) * b) * (6 * (u * u) * T + 2 * (u * u) * b) * (6 * (u * u) * T + 2 * (u * u) * b)) - 3 * (x * (6 * (u * u) * T + 2 * (u * u) * b)) - y) - 2 * (2 * (2 * (2 * (2 * (3 * (3 * (3 * (u * u * u * u * u * u * cub b c d T)))))))) := by
      obtain ⟨a, ha⟩ := hx; obtain ⟨g, hg⟩ := hy
      refine ⟨-3 * a * (6 * (u * u) * T + 2 * (u * u) * b) - g, ?_⟩
      have ex : x = u ^ 4 * (16 * (b * b - 3 * c)) + P * a := by omega
      have ey : y = u ^ 6 * (-32 * (2 * b * b * b - 9 * b * c + 27 * d)) + P * g := by omega
      rw [ex, ey]; unfold cub; grind
    constructor
    · intro h
      have h1 := (dv_iff e1).mpr h
      have h2 := hp.c3 h5' (hp.c3 h5' (hp.c3 h5' (hp.c2 (by omega) (hp.c2 (by omega) (hp.c2 (by omega) (hp.c2 (by omega) (hp.c2 (by omega) h1)))))))
      exact (hp.2 _ _ h2).resolve_left (hp.nm (hp.nm (hp.nm (hp.nm (hp.nm hu hu) hu) hu) hu) hu)
    · intro ⟨q, hq⟩
      exact (dv_iff e1).mp ⟨864 * (u * u * u * u * u * u) * q, by rw [hq]; grind⟩
  by_cases h : (P : Int) ∣ cub b c d T
  · rw [if_pos h, if_pos (e.mpr h)]
  · rw [if_neg h, if_neg (fun h' => h (e.mp h'))]
