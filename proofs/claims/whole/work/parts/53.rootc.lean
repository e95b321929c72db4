/-! the class's searches for roots -/
theorem qr_mod {p x y c : Int} (hp : 0 < p) : qr p x y c ↔ ∃ T, (0 ≤ T ∧ T < p) ∧ p ∣ x * T * T + y * T + c := by
  constructor
  · intro ⟨T, h⟩
    refine ⟨T % p, ⟨Int.emod_nonneg _ (by omega), Int.emod_lt_of_pos _ hp⟩, ?_⟩
    have e : T = T % p + p * (T / p) := by have := Int.emod_add_mul_ediv T p; omega
    rw [e] at h
    exact q_per.mp h
  · intro ⟨T, _, h⟩; exact ⟨T, h⟩
theorem rt_loop {ev : EV} {z : PS} {th P : Nat} (hP : r32 z 28 th = nI P) (hp : 2 ≤ P) (hp2 : P < 2147483648) {x y c : Int} (f : ∀ T : Int, 0 ≤ T → T < P → fit P ((x * T + y) * T + c)) : ∀ (d n k : Nat), k + d = P → (∀ T : Nat, T < k → ¬ (P : Int) ∣ x * T * T + y * T + c) →
    ((∀ T : Nat, T < P → ¬ (P : Int) ∣ x * T * T + y * T + c) ∧ q_X1_rootOf_3 ev z th (n + d + 1) (ph x) (ph y) (ph c) (nI k) = some (-1)) ∨ (∃ R : Nat, R < P ∧ (P : Int) ∣ x * R * R + y * R + c ∧ q_X1_rootOf_3 ev z th (n + d + 1) (ph x) (ph y) (ph c) (nI k) = some (nI R)) := by
  intro d
  induction d with
  | zero =>
    intro n k hk h
    left
    refine ⟨fun T hT => h T (by omega), ?_⟩
    rw [q_X1_rootOf_3, hP, if_pos ((i_le hp2 (by omega)).mpr (by omega))]
  | succ d ih =>
    intro n k hk h
    rw [show n + (d + 1) + 1 = (n + d + 1) + 1 by omega, q_X1_rootOf_3, hP, if_neg (fun h => by have := (i_le hp2 (by omega)).mp h; omega), nI_L (by omega), nI_L (by omega), ph_mul, ph_add, ph_mul, ph_add, k_rest (by omega) (by omega) (f k (by omega) (by omega)), ob_e]
    have e : (x * (k : Int) + y) * k + c = x * k * k + y * k + c := by grind
    rw [e]
    by_cases hd : (P : Int) ∣ x * k * k + y * k + c
    · right
      refine ⟨k, by omega, hd, ?_⟩
      rw [if_pos ((mod_n (by omega) (by omega)).mpr hd)]
    · rw [if_neg (fun h => hd ((mod_n (by omega) (by omega)).mp h)), bd_e, nI_s]
      refine ih n (k + 1) (by omega) ?_
      intro T hT
      rcases (show T < k ∨ T = k by omega) with h1 | rfl
      · exact h T h1
      · exact hd
theorem k_root {ev : EV} {z : PS} {th P : Nat} (hP : r32 z 28 th = nI P) (hp : 2 ≤ P) (hp2 : P < 2147483648) {x y c : Int} (f : ∀ T : Int, 0 ≤ T → T < P → fit P ((x * T + y) * T + c)) :
    (¬ qr P x y c ∧ g_X1_rootOf ev z th (ph x) (ph y) (ph c) = some (-1)) ∨ (qr P x y c ∧ ∃ R : Nat, R < P ∧ (P : Int) ∣ x * R * R + y * R + c ∧ g_X1_rootOf ev z th (ph x) (ph y) (ph c) = some (nI R)) := by
  obtain ⟨n, hn⟩ := FU_ge (d := P) (by omega)
  unfold g_X1_rootOf
  rw [hn]
  rcases rt_loop (ev := ev) hP hp hp2 f P n 0 (by omega) (fun T hT => by omega) with ⟨h1, h2⟩ | ⟨R, h1, h2, h3⟩
  · left
    refine ⟨fun hq => ?_, h2⟩
    obtain ⟨T, ⟨t0, t1⟩, hT⟩ := (qr_mod (by omega)).mp hq
    have := h1 T.toNat (by omega)
    rw [show ((T.toNat : Nat) : Int) = T by omega] at this
    exact this hT
  · right
    exact ⟨⟨R, h2⟩, R, h1, h2, h3⟩
theorem k_unl {ev : EV} {z : PS} {th P : Nat} (hP : r32 z 28 th = nI P) (hp : 2 ≤ P) (hp2 : P < 2147483648) {x y c : Int} (f : fit P (y * y - 4 * x * c)) : g_X1_hasUnlikeRoots ev z th (ph x) (ph y) (ph c) = some (if (P : Int) ∣ y * y - 4 * x * c then 0 else 1) := by
  unfold g_X1_hasUnlikeRoots
  rw [hP, nI_L hp2, l4, ph_mul, ph_mul, ph_mul, ph_sub, k_rest (by omega) (by omega) f, ob_e]
  by_cases h : (P : Int) ∣ y * y - 4 * x * c
  · rw [if_pos ((mod_n (by omega) (by omega)).mpr h), if_pos h]
  · rw [if_neg (fun h' => h ((mod_n (by omega) (by omega)).mp h')), if_neg h]
/-- how many of 0 .. n - 1 are roots -/
def cnt (p b c d : Int) : Nat → Nat
  | 0 => 0
  | n + 1 => cnt p b c d n + (if p ∣ cub b c d n then 1 else 0)
theorem cnt_nrt2 (b c d : Int) : cnt 2 b c d 2 = nrt 2 b c d := by
  simp [cnt, nrt]
theorem cnt_nrt3 (b c d : Int) : cnt 3 b c d 3 = nrt 3 b c d := by
  simp [cnt, nrt]
theorem cnt_le (p b c d : Int) : ∀ n, cnt p b c d n ≤ n := by
  intro n
  induction n with
  | zero => exact Nat.le_refl 0
  | succ n ih => unfold cnt; split <;> omega
theorem cr_loop {ev : EV} {z : PS} {th P : Nat} (hP : r32 z 28 th = nI P) (hp : 2 ≤ P) (hp2 : P < 2147483648) {b c d : Int} (f : ∀ T : Int, 0 ≤ T → T < P → fit P (cub b c d T)) : ∀ (k n : Nat), k ≤ P →
    q_X1_cubicRoots_6 ev z th (n + (P - k) + 1) (ph b) (ph c) (ph d) (nI (cnt P b c d k)) (nI k) = some (nI (cnt P b c d P)) := by
  have key : ∀ (m k n : Nat), k + m = P → q_X1_cubicRoots_6 ev z th (n + m + 1) (ph b) (ph c) (ph d) (nI (cnt P b c d k)) (nI k) = some (nI (cnt P b c d P)) := by
    intro m
    induction m with
    | zero =>
      intro k n hk
      rw [q_X1_cubicRoots_6, hP, if_pos ((i_le hp2 (by omega)).mpr (by omega))]
      congr 3
    | succ m ih =>
      intro k n hk
      have e : ((((k : Int) + b) * k + c) * k + d) = cub b c d k := by unfold cub; grind
      rw [show n + (m + 1) + 1 = (n + m + 1) + 1 by omega, q_X1_cubicRoots_6, hP, if_neg (fun h => by have := (i_le hp2 (by omega)).mp h; omega), nI_L (by omega)]
      unfold g_X1_cubicAt
      have hk1 : PK (P : Int) 1 := ⟨by omega, by omega, by rw [Int.pow_one]; omega, by rw [Int.pow_one]; exact ⟨by omega, by omega⟩, fun _ => by omega⟩
      rw [ob_e, ph_add, ph_mul, ph_add, ph_mul, ph_add, e, show (1 : Int32) = nI 1 from rfl, k_in hP hk1 (f k (by omega) (by omega)) (by omega), ob_e, Int.pow_one]
      have := ih (k + 1) n (by omega)
      rw [show cnt (P : Int) b c d (k + 1) = cnt P b c d k + (if (P : Int) ∣ cub b c d k then 1 else 0) from rfl] at this
      by_cases hd : (P : Int) ∣ cub b c d k
      · rw [if_pos hd] at this
        rw [if_pos hd, if_neg (by decide), bd_e, bd_e, i_add, i_add]
        exact this
      · rw [if_neg hd] at this
        rw [if_neg hd, if_pos rfl, bd_e, i_add]
        exact this
  intro k n hk
  exact key (P - k) k n (by omega)
theorem k_cnt {ev : EV} {z : PS} {th P : Nat} (hP : r32 z 28 th = nI P) (hp : 2 ≤ P) (hp2 : P < 2147483648) {b c d : Int} (f : ∀ T : Int, 0 ≤ T → T < P → fit P (cub b c d T)) : g_X1_cubicRoots ev z th (ph b) (ph c) (ph d) = some (nI (cnt P b c d P)) := by
  obtain ⟨n, hn⟩ := FU_ge (d := P) (by omega)
  unfold g_X1_cubicRoots
  rw [hn]
  exact cr_loop (ev := ev) hP hp hp2 f 0 n (by omega)
theorem mr_loop {ev : EV} {z : PS} {th P : Nat} (hP : r32 z 28 th = nI P) (hp : 2 ≤ P) (hp2 : P < 2147483648) {b c d : Int} (f : ∀ T : Int, 0 ≤ T → T < P → fit P (cub b c d T) ∧ fit P ((3 * T + 2 * b) * T + c)) {T : Nat} (hT : T < P) (h1 : (P : Int) ∣ cub b c d T) (h2 : (P : Int) ∣ 3 * T * T + 2 * b * T + c) : ∀ (m k n : Nat), k + m = T →
    ∃ R : Nat, R < P ∧ (P : Int) ∣ cub b c d R ∧ (P : Int) ∣ 3 * R * R + 2 * b * R + c ∧ q_X1_multipleRoot_3 ev z th (n + m + 1) (ph b) (ph c) (ph d) (nI k) = some (ph R) := by
  intro m
  induction m with
  | zero =>
    intro k n hk
    have hkT : k = T := by omega
    subst hkT
    refine ⟨k, hT, h1, h2, ?_⟩
    have e : ((((k : Int) + b) * k + c) * k + d) = cub b c d k := by unfold cub; grind
    have e2 : (3 * (k : Int) + 2 * b) * k + c = 3 * k * k + 2 * b * k + c := by grind
    have hk1 : PK (P : Int) 1 := ⟨by omega, by omega, by rw [Int.pow_one]; omega, by rw [Int.pow_one]; exact ⟨by omega, by omega⟩, fun _ => by omega⟩
    rw [q_X1_multipleRoot_3, hP, if_neg (fun h => by have := (i_le hp2 (by omega)).mp h; omega), nI_L (by omega)]
    unfold g_X1_cubicAt
    rw [ob_e, ph_add, ph_mul, ph_add, ph_mul, ph_add, e, show (1 : Int32) = nI 1 from rfl, k_in hP hk1 (f k (by omega) (by omega)).1 (by omega), ob_e, Int.pow_one, if_pos h1, if_neg (by decide), l3, l2, ph_mul, ph_mul, ph_add, ph_mul, ph_add, k_in hP hk1 (f k (by omega) (by omega)).2 (by omega), ob_e, Int.pow_one, e2, if_pos h2, if_neg (by decide)]
  | succ m ih =>
    intro k n hk
    have e : ((((k : Int) + b) * k + c) * k + d) = cub b c d k := by unfold cub; grind
    have e2 : (3 * (k : Int) + 2 * b) * k + c = 3 * k * k + 2 * b * k + c := by grind
    have hk1 : PK (P : Int) 1 := ⟨by omega, by omega, by rw [Int.pow_one]; omega, by rw [Int.pow_one]; exact ⟨by omega, by omega⟩, fun _ => by omega⟩
    rw [show n + (m + 1) + 1 = (n + m + 1) + 1 by omega, q_X1_multipleRoot_3, hP, if_neg (fun h => by have := (i_le hp2 (by omega)).mp h; omega), nI_L (by omega)]
    unfold g_X1_cubicAt
    rw [ob_e, ph_add, ph_mul, ph_add, ph_mul, ph_add, e, show (1 : Int32) = nI 1 from rfl, k_in hP hk1 (f k (by omega) (by omega)).1 (by omega), ob_e, Int.pow_one]
    by_cases g1 : (P : Int) ∣ cub b c d k
    · rw [if_pos g1, if_neg (by decide), l3, l2, ph_mul, ph_mul, ph_add, ph_mul, ph_add, k_in hP hk1 (f k (by omega) (by omega)).2 (by omega), ob_e, Int.pow_one, e2]
      by_cases g2 : (P : Int) ∣ 3 * k * k + 2 * b * k + c
      · rw [if_pos g2, if_neg (by decide)]
        exact ⟨k, by omega, g1, g2, rfl⟩
      · rw [if_neg g2, if_pos rfl, bd_e, i_add]
        exact ih (k + 1) n (by omega)
    · rw [if_neg g1, if_pos rfl, bd_e, i_add]
      exact ih (k + 1) n (by omega)
theorem k_mult {ev : EV} {z : PS} {th P : Nat} (hP : r32 z 28 th = nI P) (hp : 2 ≤ P) (hp2 : P < 2147483648) {b c d : Int} (f : ∀ T : Int, 0 ≤ T → T < P → fit P (cub b c d T) ∧ fit P ((3 * T + 2 * b) * T + c)) {T : Nat} (hT : T < P) (h1 : (P : Int) ∣ cub b c d T) (h2 : (P : Int) ∣ 3 * T * T + 2 * b * T + c) :
    ∃ R : Nat, R < P ∧ (P : Int) ∣ cub b c d R ∧ (P : Int) ∣ 3 * R * R + 2 * b * R + c ∧ g_X1_multipleRoot ev z th (ph b) (ph c) (ph d) = some (ph R) := by
  obtain ⟨n, hn⟩ := FU_ge (d := T) (by omega)
  unfold g_X1_multipleRoot
  rw [hn]
  exact mr_loop (ev := ev) hP hp hp2 f hT h1 h2 T 0 n (by omega)
