/-! roots -/
def isRt (d r : Int) : Prop := 0 ≤ r ∧ r * r ≤ d ∧ d < (r + 1) * (r + 1)
theorem sq_lt {a b : Int} (ha : 0 ≤ a) (h : a < b) : a * a < b * b := by
  have h1 : a * a ≤ a * b := Int.mul_le_mul_of_nonneg_left (by omega) ha
  have h2 : a * b < b * b := Int.mul_lt_mul_of_pos_right h (by omega)
  omega
theorem isRt.one {d r w : Int} (h : isRt d r) (hw : 0 ≤ w) (e : w * w = d) : w = r := by
  obtain ⟨h1, h2, h3⟩ := h
  rcases (show w < r ∨ w = r ∨ r + 1 ≤ w by omega) with g | g | g
  · have := sq_lt hw g; omega
  · exact g
  · have := Int.mul_le_mul g g (by omega) (by omega); omega
theorem p2_s (k : Nat) : ((2 : Nat) ^ (k + 1) / 2 = 2 ^ k) := by rw [Nat.pow_succ]; omega
theorem sr_loop {d : Int} (hd : 0 ≤ d) (hd2 : d < 4000000000000000000) : ∀ (k n : Nat) (r : Int), k ≤ 31 → 0 ≤ r → r + ((2 ^ k : Nat) : Int) ≤ 2147483648 → r * r ≤ d → d < (r + ((2 ^ k : Nat) : Int)) * (r + ((2 ^ k : Nat) : Int)) → ∃ r', isRt d r' ∧ r' < 2147483648 ∧ q_X4_squareRoot_7 (n + k + 1) (ph d) (ph r) (ph ((2 ^ k / 2 : Nat) : Int)) = some (ph r') := by
  intro k
  induction k with
  | zero =>
    intro n r hk h0 hu h1 h2
    refine ⟨r, ⟨h0, h1, h2⟩, by have : ((2 ^ 0 : Nat) : Int) = 1 := rfl; omega, ?_⟩
    rw [q_X4_squareRoot_7, if_pos (show ph ((2 ^ 0 / 2 : Nat) : Int) ≤ 0 by decide)]
  | succ k ih =>
    intro n r hk h0 hu h1 h2
    have hp : (2 : Nat) ^ (k + 1) = 2 ^ k * 2 := Nat.pow_succ 2 k
    have hpos : 0 < 2 ^ k := Nat.pow_pos (by omega)
    rw [p2_s, q_X4_squareRoot_7]
    have hle : 2 ^ k ≤ 2 ^ 31 := Nat.pow_le_pow_right (by omega) (by omega)
    rw [hp] at hu h2
    generalize hK : 2 ^ k = K at *
    have t0 : 0 ≤ r + (K : Int) := by omega
    have tm := mb (X := 2147483648) (Y := 2147483648) (x := r + (K : Int)) (y := r + (K : Int)) (by push_cast at hu; omega) (by push_cast at hu; omega)
    rw [if_neg (by rw [l0, ph_le ⟨by omega, by omega⟩ z_R]; omega), ph_add, bd_e, ph_mul]
    simp only [bd_e]
    rw [ph_shr1 (e := K) (by omega)]
    have e2 : (r + ((K * 2 : Nat) : Int)) = r + K + K := by push_cast; omega
    rw [e2] at hu h2
    by_cases c : d < (r + (K : Int)) * (r + K)
    · rw [if_pos ((ph_lt ⟨by omega, by omega⟩ ⟨by omega, by omega⟩).mpr c)]
      exact ih n r (by omega) h0 (by omega) h1 c
    · rw [if_neg (fun hh => c ((ph_lt ⟨by omega, by omega⟩ ⟨by omega, by omega⟩).mp hh))]
      exact ih n (r + K) (by omega) t0 (by omega) (by omega) h2
theorem c_sqrt {d : Int} (hd : 0 ≤ d) (hd2 : d < 4000000000000000000) : ∃ r, isRt d r ∧ r < 2147483648 ∧ g_X4_squareRoot (ph d) = some (ph r) := by
  obtain ⟨n, hn⟩ := FU_ge (d := 31) (by omega)
  have e : ((2 ^ 31 : Nat) : Int) = 2147483648 := by decide
  obtain ⟨r, h1, h2, h3⟩ := sr_loop hd hd2 31 n 0 (by omega) (by omega) (by omega) (by omega) (by rw [e]; omega)
  refine ⟨r, h1, h2, ?_⟩
  unfold g_X4_squareRoot
  rw [hn]
  exact h3
theorem sn_loop {d : Int} (hd : d < 0) (hR : inR d) : ∀ (k n : Nat), k ≤ 31 → q_X4_squareRoot_7 (n + k + 1) (ph d) (ph 0) (ph ((2 ^ k / 2 : Nat) : Int)) = some (ph 0) := by
  intro k
  induction k with
  | zero => intro n _; rw [q_X4_squareRoot_7, if_pos (show ph ((2 ^ 0 / 2 : Nat) : Int) ≤ 0 by decide)]
  | succ k ih =>
    intro n hk
    have hpos : 0 < 2 ^ k := Nat.pow_pos (by omega)
    have hle : 2 ^ k ≤ 2 ^ 31 := Nat.pow_le_pow_right (by omega) (by omega)
    rw [p2_s, q_X4_squareRoot_7]
    generalize hK : 2 ^ k = K at *
    have tm := mb (X := 2147483648) (Y := 2147483648) (x := (K : Int)) (y := (K : Int)) (by omega) (by omega)
    have t0 : 0 ≤ (K : Int) * K := Int.mul_nonneg (by omega) (by omega)
    rw [if_neg (by rw [l0, ph_le ⟨by omega, by omega⟩ z_R]; omega), ph_add, Int.zero_add, bd_e, ph_mul]
    simp only [bd_e]
    rw [ph_shr1 (e := K) (by omega), if_pos ((ph_lt hR ⟨by omega, by omega⟩).mpr (by omega))]
    exact ih n (by omega)
theorem c_sqrtn {d : Int} (hd : d < 0) (hR : inR d) : g_X4_squareRoot (ph d) = some (ph 0) := by
  obtain ⟨n, hn⟩ := FU_ge (d := 31) (by omega)
  unfold g_X4_squareRoot
  rw [hn]
  exact sn_loop hd hR 31 n (by omega)
theorem ro_loop {d : Int} (hd : 0 ≤ d) (hd2 : d < 4000000000000000000) : ∀ (j n : Nat) (lo hi : Int), j ≤ 40 → 0 ≤ lo → lo < hi → hi ≤ 3000000000 → hi - lo ≤ ((2 ^ j : Nat) : Int) → lo * lo ≤ d → d < hi * hi → ∃ r, isRt d r ∧ r < 3000000000 ∧ q_X8_rootOf_7 (n + j + 1) (ph d) (ph lo) (ph hi) = some (ph r) := by
  intro j
  induction j with
  | zero =>
    intro n lo hi hj h0 hl hu hg h1 h2
    have e : hi = lo + 1 := by have : ((2 ^ 0 : Nat) : Int) = 1 := rfl; omega
    subst e
    refine ⟨lo, ⟨h0, h1, h2⟩, by omega, ?_⟩
    rw [q_X8_rootOf_7, ph_sub, if_pos (by rw [l1, ph_le ⟨by omega, by omega⟩ ⟨by omega, by omega⟩]; omega)]
  | succ j ih =>
    intro n lo hi hj h0 hl hu hg h1 h2
    rw [q_X8_rootOf_7, ph_sub]
    by_cases c : hi - lo ≤ 1
    · have e : hi = lo + 1 := by omega
      subst e
      exact ⟨lo, ⟨h0, h1, h2⟩, by omega, by rw [if_pos (by rw [l1, ph_le ⟨by omega, by omega⟩ ⟨by omega, by omega⟩]; exact c)]⟩
    · have hp : (2 : Nat) ^ (j + 1) = 2 ^ j * 2 := Nat.pow_succ 2 j
      rw [hp] at hg
      generalize hK : 2 ^ j = K at *
      push_cast at hg
      have em : (lo + hi).tdiv 2 = (lo + hi) / 2 := Int.tdiv_eq_ediv_of_nonneg (by omega)
      rw [if_neg (by rw [l1, ph_le ⟨by omega, by omega⟩ ⟨by omega, by omega⟩]; exact c), ph_add, l2, ph_div ⟨by omega, by omega⟩ ⟨by omega, by omega⟩ (by omega), em, bd_e, ph_mul]
      generalize hM : (lo + hi) / 2 = M at *
      have tm := mb (X := 3000000000) (Y := 3000000000) (x := M) (y := M) (by omega) (by omega)
      by_cases c2 : d < M * M
      · rw [if_pos ((ph_lt ⟨by omega, by omega⟩ ⟨by omega, by omega⟩).mpr c2)]
        unfold q_X8_rootOf_41
        rw [if_pos rfl, if_pos rfl]
        exact ih n lo M (by omega) h0 (by omega) (by omega) (by omega) h1 c2
      · rw [if_neg (fun hh => c2 ((ph_lt ⟨by omega, by omega⟩ ⟨by omega, by omega⟩).mp hh))]
        unfold q_X8_rootOf_41
        rw [if_neg ne10, if_neg ne10]
        exact ih n M hi (by omega) (by omega) (by omega) hu (by omega) (by omega) h2
theorem m_sqrt {d : Int} (hd : 0 ≤ d) (hd2 : d < 4000000000000000000) : ∃ r, isRt d r ∧ r < 3000000000 ∧ g_X8_rootOf (ph d) = some (ph r) := by
  obtain ⟨n, hn⟩ := FU_ge (d := 32) (by omega)
  have e : ((2 ^ 32 : Nat) : Int) = 4294967296 := by decide
  obtain ⟨r, h1, h2, h3⟩ := ro_loop hd hd2 32 n 0 3000000000 (by omega) (by omega) (by omega) (by omega) (by omega) (by omega) (by omega)
  refine ⟨r, h1, h2, ?_⟩
  unfold g_X8_rootOf
  rw [hn]
  exact h3
/-! the points at one x -/
theorem sp_rng {E : Cv} (h : S5 E) {x : Int} (hx : -60 ≤ x ∧ x ≤ 60) : (-6100000 ≤ a1 E * x + a3 E ∧ a1 E * x + a3 E ≤ 6100000) ∧ (-48000000000000 ≤ spD E x ∧ spD E x ≤ 48000000000000) := by
  obtain ⟨h1, h2, h3, h4, h6⟩ := h
  have n2 := mb h1 hx
  have n10 := mb (X := 6100000) (Y := 6100000) (x := a1 E * x + a3 E) (y := a1 E * x + a3 E) (by omega) (by omega)
  have n11 := mb (X := 100060) (x := x + a2 E) (by omega) hx
  have n12 := mb (X := 6103600) (x := (x + a2 E) * x + a4 E) (by omega) hx
  refine ⟨by omega, ?_⟩
  unfold spD; omega
theorem sp_par {E : Cv} {x w : Int} (e : w * w = spD E x) : ∃ q q' : Int, -(a1 E * x + a3 E) - w = 2 * q ∧ -(a1 E * x + a3 E) + w = 2 * q' := by
  have h : w * w = (a1 E * x + a3 E) * (a1 E * x + a3 E) + 4 * (((x + a2 E) * x + a4 E) * x + a6 E) := e
  generalize a1 E * x + a3 E = g at *
  generalize ((x + a2 E) * x + a4 E) * x + a6 E = r at *
  obtain ⟨p, i, rfl, hi⟩ := md2 w
  obtain ⟨s, j, rfl, hj⟩ := md2 g
  rcases hi with rfl | rfl <;> rcases hj with rfl | rfl
  · exact ⟨-s - p, -s + p, by omega, by omega⟩
  · exfalso
    have : (2 * p + 0) * (2 * p + 0) = 4 * (p * p) := by grind
    have : (2 * s + 1) * (2 * s + 1) = 4 * (s * s + s) + 1 := by grind
    omega
  · exfalso
    have : (2 * p + 1) * (2 * p + 1) = 4 * (p * p + p) + 1 := by grind
    have : (2 * s + 0) * (2 * s + 0) = 4 * (s * s) := by grind
    omega
  · exact ⟨-s - p - 1, -s + p, by omega, by omega⟩
theorem spW_v {d w : Int} (hw : 0 ≤ w) (e : w * w = d) : spW d = w := by
  have h : 0 ≤ spW d ∧ spW d * spW d = d := Classical.epsilon_spec (p := fun w : Int => 0 ≤ w ∧ w * w = d) ⟨w, hw, e⟩
  have : isRt d w := ⟨hw, by omega, by rw [← e]; exact sq_lt hw (by omega)⟩
  exact this.one h.1 h.2
theorem spAt_0 {E : Cv} {x : Int} (h : ¬ ∃ w : Int, 0 ≤ w ∧ w * w = spD E x) : spAt E x = [] := by
  unfold spAt
  exact if_neg h
theorem spAt_1 {E : Cv} {x w : Int} (hw : 0 ≤ w) (e : w * w = spD E x) : spAt E x = if w = 0 then [(x, (-(a1 E * x + a3 E) - w) / 2)] else [(x, (-(a1 E * x + a3 E) - w) / 2), (x, (-(a1 E * x + a3 E) + w) / 2)] := by
  unfold spAt
  rw [spW_v hw e]
  exact if_pos ⟨w, hw, e⟩
theorem sp_w {E : Cv} (h : S5 E) {x w : Int} (hx : -60 ≤ x ∧ x ≤ 60) (hw : 0 ≤ w) (e : w * w = spD E x) : w ≤ 7000000 := by
  obtain ⟨-, r⟩ := sp_rng h hx
  rcases (show w ≤ 7000000 ∨ 7000000 < w by omega) with g | g
  · exact g
  · have := sq_lt (a := 7000000) (by omega) g; omega
theorem spAt_in {E : Cv} (h : S5 E) {x : Int} (hx : -60 ≤ x ∧ x ≤ 60) : (∀ p ∈ spAt E x, p.1 = x ∧ -10000000 ≤ p.2 ∧ p.2 ≤ 10000000) ∧ (spAt E x).Nodup ∧ (spAt E x).length ≤ 2 := by
  by_cases hh : ∃ w : Int, 0 ≤ w ∧ w * w = spD E x
  · obtain ⟨w, hw, e⟩ := hh
    have w7 := sp_w h hx hw e
    obtain ⟨r, -⟩ := sp_rng h hx
    obtain ⟨q, q', e1, e2⟩ := sp_par e
    rw [spAt_1 hw e]
    by_cases c : w = 0
    · rw [if_pos c]
      refine ⟨?_, by simp, by simp⟩
      intro p hp
      rw [List.mem_singleton] at hp
      subst hp
      exact ⟨rfl, by dsimp only; omega, by dsimp only; omega⟩
    · rw [if_neg c]
      refine ⟨?_, ?_, by simp⟩
      · intro p hp
        rw [List.mem_cons, List.mem_singleton] at hp
        rcases hp with hp | hp <;> subst hp
        · exact ⟨rfl, by dsimp only; omega, by dsimp only; omega⟩
        · exact ⟨rfl, by dsimp only; omega, by dsimp only; omega⟩
      · rw [List.nodup_cons]
        refine ⟨?_, by simp⟩
        rw [List.mem_singleton]
        intro hp
        have := congrArg Prod.snd hp
        dsimp only at this
        omega
  · rw [spAt_0 hh]
    exact ⟨fun p hp => absurd hp (List.not_mem_nil), List.nodup_nil, by simp⟩
theorem spL_in {E : Cv} (h : S5 E) : ∀ k, k ≤ 121 → (∀ p ∈ spL E k, -60 ≤ p.1 ∧ p.1 < (k : Int) - 60 ∧ -10000000 ≤ p.2 ∧ p.2 ≤ 10000000) ∧ (spL E k).Nodup ∧ (spL E k).length ≤ 2 * k := by
  intro k
  induction k with
  | zero => intro _; exact ⟨fun p hp => absurd hp (List.not_mem_nil), List.nodup_nil, by simp [spL]⟩
  | succ k ih =>
    intro hk
    obtain ⟨a, b, c⟩ := ih (by omega)
    obtain ⟨a', b', c'⟩ := spAt_in h (x := (k : Int) - 60) ⟨by omega, by omega⟩
    show (∀ p ∈ spL E k ++ spAt E ((k : Int) - 60), _) ∧ (spL E k ++ spAt E ((k : Int) - 60)).Nodup ∧ (spL E k ++ spAt E ((k : Int) - 60)).length ≤ _
    refine ⟨?_, ?_, ?_⟩
    · intro p hp
      rcases List.mem_append.mp hp with hp | hp
      · obtain ⟨p1, p2, p3⟩ := a p hp
        exact ⟨p1, by omega, p3⟩
      · obtain ⟨p1, p2⟩ := a' p hp
        exact ⟨by omega, by omega, p2⟩
    · rw [List.nodup_append]
      refine ⟨b, b', ?_⟩
      intro p hp q hq e
      subst e
      have := (a p hp).2.1
      have := (a' p hq).1
      omega
    · rw [List.length_append]; omega
/-! the class's row -/
theorem hI_int {n : Int} (h : -2147483648 ≤ n ∧ n < 2147483648) : (hI n).toInt = n := by
  unfold hI
  rw [Int32.toInt_ofInt]
  show n.bmod 4294967296 = n
  exact Int.bmod_eq_of_le (by omega) (by omega)
theorem hI_L {n : Int} (h : -2147483648 ≤ n ∧ n < 2147483648) : (hI n).toInt64 = ph n := by rw [i64, hI_int h]
theorem ph_hI {n : Int} (h : -2147483648 ≤ n ∧ n < 2147483648) : (ph n).toInt32 = hI n := by
  apply Int32.toInt_inj.mp
  rw [Int64.toInt_toInt32, ph_int ⟨by omega, by omega⟩, hI_int h]
  exact Int.bmod_eq_of_le (by omega) (by omega)
theorem hI_s (n : Int) : hI n + (1 : Int32) = hI (n + 1) := (Int32.ofInt_add n 1).symm
theorem hI_eq {a b : Int} (ha : -2147483648 ≤ a ∧ a < 2147483648) (hb : -2147483648 ≤ b ∧ b < 2147483648) : hI a = hI b ↔ a = b := by
  constructor
  · intro h
    have := congrArg Int32.toInt h
    rwa [hI_int ha, hI_int hb] at this
  · intro h; rw [h]
def Fsp (ev : EV) (sp : Nat) (z z' : PS) : Prop := z'.2.1 = z.2.1 ∧ z'.2.2.2 = z.2.2.2 ∧ (∀ i x, ¬ (i = 82 ∧ x = sp) → z'.1 i x = z.1 i x) ∧ (∀ b j, b ≠ rf ev 80 sp → b ≠ rf ev 81 sp → z'.2.2.1 b j = z.2.2.1 b j)
theorem Fsp.rf (ev : EV) (sp : Nat) (z : PS) : Fsp ev sp z z := ⟨rfl, rfl, fun _ _ _ => rfl, fun _ _ _ _ => rfl⟩
theorem Fsp.tr {ev : EV} {sp : Nat} {x y z : PS} (h : Fsp ev sp x y) (h' : Fsp ev sp y z) : Fsp ev sp x z := ⟨h'.1.trans h.1, h'.2.1.trans h.2.1, fun i w hw => (h'.2.2.1 i w hw).trans (h.2.2.1 i w hw), fun b j h1 h2 => (h'.2.2.2 b j h1 h2).trans (h.2.2.2 b j h1 h2)⟩
theorem get_app {α : Type} {l : List α} {a b : α} {i : Nat} (h : (l ++ [a])[i]? = some b) : (i < l.length ∧ l[i]? = some b) ∨ (i = l.length ∧ b = a) := by
  rcases Nat.lt_or_ge i l.length with g | g
  · rw [List.getElem?_append_left g] at h
    exact Or.inl ⟨g, h⟩
  · rw [List.getElem?_append_right g] at h
    right
    have : i - l.length < [a].length := (List.getElem?_eq_some_iff.mp h).1
    have e : i = l.length := by simp at this; omega
    subst e
    rw [Nat.sub_self] at h
    exact ⟨rfl, (Option.some.inj h).symm⟩
theorem c_addp {ev : EV} {sp : Nat} (hne : rf ev 80 sp ≠ rf ev 81 sp) {z : PS} {l : List (Int × Int)} (P : SPt ev sp z l) (hl : l.length < 242) {x y : Int} (hy : -2147483648 ≤ y ∧ y < 2147483648) : ∃ z', g_X6_add ev z sp (hI x) (ph y) = some z' ∧ SPt ev sp z' (l ++ [(x, y)]) ∧ Fsp ev sp z z' := by
  obtain ⟨p1, p2⟩ := P
  refine ⟨w32 (wI (wI z (rf ev 80 sp) l.length (hI x)) (rf ev 81 sp) l.length (hI y)) 82 sp (nI (l.length + 1)), ?_, ⟨?_, ?_⟩, rfl, rfl, ?_, ?_⟩
  · unfold g_X6_add
    rw [p1, if_neg (by rw [show (242 : Int32) = nI 242 from rfl, i_le (by omega) (by omega)]; omega), ck_e (inB_n hl (by omega)), nI_clamp (by omega), bd_e, ph_hI hy, bd_e]
    rw [show r32 (wI z (rf ev 80 sp) l.length (hI x)) 82 sp = nI l.length from p1, ck_e (inB_n hl (by omega)), nI_clamp (by omega), bd_e]
    rw [show r32 (wI (wI z (rf ev 80 sp) l.length (hI x)) (rf ev 81 sp) l.length (hI y)) 82 sp = nI l.length from p1, bd_e, bd_e, nI_s]
  · rw [r32_eq, List.length_append]; rfl
  · intro i x' y' hi
    rcases get_app hi with ⟨g, h⟩ | ⟨g, h⟩
    · obtain ⟨q1, q2⟩ := p2 i x' y' h
      constructor
      · show rI (wI (wI z (rf ev 80 sp) l.length (hI x)) (rf ev 81 sp) l.length (hI y)) (rf ev 80 sp) i = _
        have : i ≠ l.length := by omega
        simpa [rI, wI, hne, this] using q1
      · show rI (wI (wI z (rf ev 80 sp) l.length (hI x)) (rf ev 81 sp) l.length (hI y)) (rf ev 81 sp) i = _
        have : i ≠ l.length := by omega
        simpa [rI, wI, hne, this] using q2
    · have e1 := congrArg Prod.fst h
      have e2 := congrArg Prod.snd h
      dsimp only at e1 e2
      subst e1
      subst e2
      subst g
      constructor
      · show rI (wI (wI z (rf ev 80 sp) l.length (hI x')) (rf ev 81 sp) l.length (hI y')) (rf ev 80 sp) l.length = _
        simp [rI, wI, hne]
      · exact rI_eq _ _ _ _
  · intro i w hw
    show r32 (w32 _ _ _ _) i w = _
    show (if _ then _ else _) = _
    rw [if_neg hw]; rfl
  · intro b j h1 h2
    show rI (wI (wI z (rf ev 80 sp) l.length (hI x)) (rf ev 81 sp) l.length (hI y)) b j = rI z b j
    simp [rI, wI, h1, h2]
theorem fd_loop {ev : EV} {sp e : Nat} (hne : rf ev 80 sp ≠ rf ev 81 sp) {E : Cv} (hs : S5 E) : ∀ (d n k : Nat) (z : PS), k + d = 121 → EQ z e E → SPt ev sp z (spL E k) → ∃ z', q_X6_find_8 ev sp e (n + d + 1) (hI ((k : Int) - 60)) z = some z' ∧ SPt ev sp z' (spL E 121) ∧ Fsp ev sp z z' := by
  have x60 : (60 : Int32).toInt = 60 := by decide
  intro d
  induction d with
  | zero =>
    intro n k z hk hE P
    have : k = 121 := by omega
    subst this
    exact ⟨z, by rw [q_X6_find_8, if_pos (by rw [Int32.lt_iff_toInt_lt, x60, hI_int ⟨by omega, by omega⟩]; omega)], P, Fsp.rf ev sp z⟩
  | succ d ih =>
    intro n k z hk hE P
    have hx : -60 ≤ (k : Int) - 60 ∧ (k : Int) - 60 ≤ 60 := by omega
    obtain ⟨r1, r2⟩ := sp_rng hs hx
    obtain ⟨-, -, len⟩ := spL_in hs k (by omega)
    have ek : ((k : Int) - 60) + 1 = ((k + 1 : Nat) : Int) - 60 := by omega
    have nxt : ∀ z1, SPt ev sp z1 (spL E k ++ spAt E ((k : Int) - 60)) → Fsp ev sp z z1 → ∃ z', q_X6_find_8 ev sp e (n + (d + 1)) (hI ((k : Int) - 60 + 1)) z1 = some z' ∧ SPt ev sp z' (spL E 121) ∧ Fsp ev sp z z' := by
      intro z1 P1 F1
      obtain ⟨z', a, b, c⟩ := ih n (k + 1) z1 (by omega) (hE.cg (fun j _ => by rw [F1.1])) P1
      rw [ek]
      exact ⟨z', a, b, F1.tr c⟩
    generalize hX : (k : Int) - 60 = X at *
    rw [q_X6_find_8, if_neg (by rw [Int32.lt_iff_toInt_lt, x60, hI_int ⟨by omega, by omega⟩]; omega), hI_L ⟨by omega, by omega⟩, c_disc hE, ob_e, show ph ((a1 E * X + a3 E) * (a1 E * X + a3 E) + 4 * (((X + a2 E) * X + a4 E) * X + a6 E)) = ph (spD E X) from rfl]
    by_cases c0 : spD E X < 0
    · rw [c_sqrtn c0 ⟨by omega, by omega⟩, ob_e, if_pos (by rw [l0, ph_lt ⟨by omega, by omega⟩ z_R]; exact c0), bd_e, hI_s]
      refine nxt z ?_ (Fsp.rf ev sp z)
      rw [spAt_0 (fun ⟨w, h1, h2⟩ => by have := Int.mul_nonneg h1 h1; omega), List.append_nil]
      exact P
    · obtain ⟨r, hr, hr2, er⟩ := c_sqrt (d := spD E X) (by omega) (by omega)
      have rr := mb (X := 2147483648) (Y := 2147483648) (x := r) (y := r) (by have := hr.1; omega) (by have := hr.1; omega)
      rw [er, ob_e, if_neg (by rw [l0, ph_lt ⟨by omega, by omega⟩ z_R]; exact c0), ph_mul]
      by_cases c1 : r * r = spD E X
      · have w7 := sp_w hs hx hr.1 c1
        have r0 := hr.1
        rw [if_pos (by rw [c1]), c_slope hE, ob_e, ph_neg, ph_sub, ph_add, ph_sh1 ⟨by omega, by omega⟩, ph_sh1 ⟨by omega, by omega⟩]
        obtain ⟨z1, a1', a2', a3'⟩ := c_addp hne P (by omega) (x := X) (y := (-(a1 E * X + a3 E) - r) / 2) ⟨by omega, by omega⟩
        rw [a1', ob_e]
        rw [spAt_1 hr.1 c1] at nxt
        by_cases c2 : r = 0
        · rw [if_pos (by rw [c2]; rfl), bd_e, hI_s]
          rw [if_pos c2] at nxt
          exact nxt z1 a2' a3'
        · obtain ⟨z2, b1, b2', b3⟩ := c_addp hne a2' (by rw [List.length_append]; show _ + 1 < 242; omega) (x := X) (y := (-(a1 E * X + a3 E) + r) / 2) ⟨by omega, by omega⟩
          rw [if_neg (by rw [l0, ph_eq ⟨by omega, by omega⟩ z_R]; exact c2), b1, ob_e, bd_e, hI_s]
          rw [if_neg c2] at nxt
          refine nxt z2 ?_ (a3'.tr b3)
          rw [List.append_assoc] at b2'
          exact b2'
      · rw [if_neg (by rw [ph_eq ⟨by omega, by omega⟩ ⟨by omega, by omega⟩]; exact c1), bd_e, hI_s]
        refine nxt z ?_ (Fsp.rf ev sp z)
        rw [spAt_0 (fun ⟨w, h1, h2⟩ => by have := hr.one h1 h2; subst this; exact c1 h2), List.append_nil]
        exact P
theorem c_findp {ev : EV} {sp e : Nat} (hne : rf ev 80 sp ≠ rf ev 81 sp) {E : Cv} (hs : S5 E) {z : PS} (hE : EQ z e E) : ∃ z', g_X6_find ev z sp e = some z' ∧ SPt ev sp z' (spL E 121) ∧ Fsp ev sp z z' := by
  obtain ⟨n, hn⟩ := FU_ge (d := 121) (by omega)
  have F0 : Fsp ev sp z (w32 z 82 sp 0) := ⟨rfl, rfl, fun i x h => by show (if _ then _ else _) = _; rw [if_neg h], fun _ _ _ _ => rfl⟩
  obtain ⟨z', a, b, c⟩ := fd_loop hne hs 121 n 0 (w32 z 82 sp 0) (by omega) (hE.cg (fun _ _ => rfl)) ⟨r32_eq _ _ _ _, fun i x y h => by simp [spL] at h⟩
  refine ⟨z', ?_, b, F0.tr c⟩
  unfold g_X6_find
  rw [bd_e, hn]
  exact a
