/-! the model counts the cubic's roots and moves one to 0 -/
def BB (p b c d : Int) : Prop := p = 2 ∨ (-100000000000000000 ≤ b ∧ b ≤ 100000000000000000 ∧ -100000000000000000 ≤ c ∧ c ≤ 100000000000000000 ∧ -1000000000000000000 ≤ d ∧ d ≤ 1000000000000000000)
theorem rc_step {ev : EV} {m : Nat} {z : PS} {E : Cv} {b c d : Int} (A : AM ev m z E) {p : Int} (hp : p = 2 ∨ p = 3) (f : ∀ k, fit p (co E k)) (hc : CB p E b c d) (hb : BB p b c d) (n k : Nat) {t : Int} (ht : 0 ≤ t ∧ t < p) :
    q_X8_rootsOfCubic_5 ev z m (n + 1) (ph p) (nI k) (ph t) = q_X8_rootsOfCubic_5 ev z m n (ph p) (nI (k + if p ∣ cub b c d t then 1 else 0)) (ph (t + 1)) := by
  have hp0 := p_rng hp
  rw [q_X8_rootsOfCubic_5, if_neg (by rw [ph_le ⟨by omega, by omega⟩ ⟨by omega, by omega⟩]; omega), (n_cubic A hp f hc (t := t) (by omega) hb).1, ob_e]
  have h0 := mod_0 (v := cub b c d t) hp0.1 hp0.2
  rw [l0] at h0
  rw [l0]
  by_cases h : p ∣ cub b c d t
  · rw [if_pos (h0.mpr h), if_pos h]; simp only [bd_e, l1, ph_add, nI_1]
  · rw [if_neg (fun q => h (h0.mp q)), if_neg h]; simp only [bd_e, l1, ph_add]; rw [show (0 : Int32) = nI 0 from rfl, nI_add]
theorem n_nrt {ev : EV} {m : Nat} {z : PS} {E : Cv} {b c d : Int} (A : AM ev m z E) {p : Int} (hp : p = 2 ∨ p = 3) (f : ∀ k, fit p (co E k)) (hc : CB p E b c d) (hb : BB p b c d) : g_X8_rootsOfCubic ev z m (ph p) = some (nI (nrt p b c d)) := by
  obtain ⟨n, hn⟩ : ∃ n, FU = n + 4 := ⟨999999999996, rfl⟩
  unfold g_X8_rootsOfCubic
  rw [hn, l0, show (0 : Int32) = nI 0 from rfl, show n + 4 = n + 3 + 1 from rfl]
  have en : ∀ (j k : Nat), q_X8_rootsOfCubic_5 ev z m (j + 1) (ph p) (nI k) (ph p) = some (nI k) := fun j k => by
    rw [q_X8_rootsOfCubic_5, if_pos (by rw [ph_le ⟨by omega, by omega⟩ ⟨by omega, by omega⟩]; omega)]
  unfold nrt
  rcases hp with rfl | rfl
  · have hp : (2 : Int) = 2 ∨ (2 : Int) = 3 := Or.inl rfl
    rw [rc_step A hp f hc hb _ _ (t := 0) (by omega), show n + 3 = n + 2 + 1 from rfl, rc_step A hp f hc hb _ _ (t := 0 + 1) (by omega), show (0 : Int) + 1 + 1 = 2 from rfl, show n + 2 = n + 1 + 1 from rfl, en]
    simp
  · have hp : (3 : Int) = 2 ∨ (3 : Int) = 3 := Or.inr rfl
    rw [rc_step A hp f hc hb _ _ (t := 0) (by omega), show n + 3 = n + 2 + 1 from rfl, rc_step A hp f hc hb _ _ (t := 0 + 1) (by omega), show n + 2 = n + 1 + 1 from rfl, rc_step A hp f hc hb _ _ (t := 0 + 1 + 1) (by omega), show (0 : Int) + 1 + 1 + 1 = 3 from rfl, en]
    simp
/-- a root of more than one is there -/
theorem dbl_ex {p : Int} (hp : p = 2 ∨ p = 3) {b c d : Int} (h : p ∣ cubD b c d) : ∃ t, 0 ≤ t ∧ t < p ∧ p ∣ cub b c d t ∧ p ∣ 3 * t * t + 2 * b * t + c := by
  unfold cubD at h
  unfold cub
  rcases hp with rfl | rfl
  · obtain ⟨q1, i1, rfl, e1⟩ := md2 b
    obtain ⟨q2, i2, rfl, e2⟩ := md2 c
    obtain ⟨q3, i3, rfl, e3⟩ := md2 d
    rcases e1 with rfl | rfl <;> rcases e2 with rfl | rfl <;> rcases e3 with rfl | rfl <;>
      first
      | exact ⟨0, by omega, by omega, by omega, by omega⟩
      | exact ⟨1, by omega, by omega, by omega, by omega⟩
      | (exfalso; grind)
  · obtain ⟨q1, i1, rfl, e1⟩ := md3 b
    obtain ⟨q2, i2, rfl, e2⟩ := md3 c
    obtain ⟨q3, i3, rfl, e3⟩ := md3 d
    rcases e1 with rfl | rfl | rfl <;> rcases e2 with rfl | rfl | rfl <;> rcases e3 with rfl | rfl | rfl <;>
      first
      | exact ⟨0, by omega, by omega, by omega, by omega⟩
      | exact ⟨1, by omega, by omega, by omega, by omega⟩
      | exact ⟨2, by omega, by omega, by omega, by omega⟩
      | (exfalso; grind)
theorem tri_all {p : Int} (hp : p = 2 ∨ p = 3) {b c d t : Int} (h : p ∣ cubD b c d) (h2 : p ∣ b * b - 3 * c) (h3 : p ∣ cub b c d t) : p ∣ b + 3 * t ∧ p ∣ 3 * t * t + 2 * b * t + c := by
  unfold cubD at h
  unfold cub at h3
  rcases hp with rfl | rfl
  · obtain ⟨q1, i1, rfl, e1⟩ := md2 b
    obtain ⟨q2, i2, rfl, e2⟩ := md2 c
    obtain ⟨q3, i3, rfl, e3⟩ := md2 d
    obtain ⟨q4, i4, rfl, e4⟩ := md2 t
    rcases e1 with rfl | rfl <;> rcases e2 with rfl | rfl <;> rcases e3 with rfl | rfl <;> rcases e4 with rfl | rfl <;> grind
  · obtain ⟨q1, i1, rfl, e1⟩ := md3 b
    obtain ⟨q2, i2, rfl, e2⟩ := md3 c
    obtain ⟨q3, i3, rfl, e3⟩ := md3 d
    obtain ⟨q4, i4, rfl, e4⟩ := md3 t
    rcases e1 with rfl | rfl | rfl <;> rcases e2 with rfl | rfl | rfl <;> rcases e3 with rfl | rfl | rfl <;> rcases e4 with rfl | rfl | rfl <;> grind
theorem mv_cb {p : Int} {E : Cv} {b c d : Int} (hc : CB p E b c d) (t : Int) : CB p (sh E (p * t) 0 0) (b + 3 * t) (3 * t * t + 2 * b * t + c) (cub b c d t) ∧ a1 (sh E (p * t) 0 0) = a1 E ∧ a3 (sh E (p * t) 0 0) = a3 E + p * t * a1 E := by
  obtain ⟨e2, e4, e6⟩ := hc
  unfold CB cub
  simp only [sh, a1, a2, a3, a4, a6] at *
  rw [e2, e4, e6]
  refine ⟨⟨?_, ?_, ?_⟩, ?_, ?_⟩ <;> grind
theorem mv_nk {p : Int} (hp : p = 2 ∨ p = 3) {E : Cv} {b c d t : Int} (f : FL p E) (hc : CB p E b c d) (h1 : ¬ p ∣ b * b - 3 * c) (h2 : p ∣ cub b c d t) (h3 : p ∣ 3 * t * t + 2 * b * t + c) : NK p 1 (sh E (p * t) 0 0) := by
  obtain ⟨⟨k2, k4, k6⟩, k1, k3⟩ := mv_cb hc t
  obtain ⟨f1, -, f3, -, -⟩ := f
  have hb : ¬ p ∣ b + 3 * t := by
    intro ⟨u, hu⟩
    obtain ⟨v, hv⟩ := h3
    apply h1
    exact ⟨u * b - 3 * t * u + 6 * t * u - 3 * v + (0 : Int), by
      have eb : b = p * u - 3 * t := by omega
      have ec : c = p * v - 3 * t * t - 2 * b * t := by omega
      rw [ec, eb]; grind⟩
  refine ⟨?_, ?_⟩
  · rintro ⟨w, hw⟩
    apply hb
    exact ⟨w, by apply Int.eq_of_mul_eq_mul_left (p_ne hp); rw [← k2, hw]; grind⟩
  · rw [if_pos rfl]
    refine ⟨by rw [k1]; exact f1, ⟨_, k2⟩, ?_, ?_, ?_⟩
    · rw [k3]
      obtain ⟨x, hx⟩ := f1
      obtain ⟨y, hy⟩ := f3
      rw [hx, hy]
      exact ⟨y + t * x, by grind⟩
    · obtain ⟨v, hv⟩ := h3
      rw [k4, hv]
      exact ⟨v, by grind⟩
    · obtain ⟨v, hv⟩ := h2
      rw [k6, hv]
      exact ⟨v, by grind⟩
theorem mv_nt {p : Int} (hp : p = 2 ∨ p = 3) {E : Cv} {b c d t : Int} (f : FL p E) (hc : CB p E b c d) (h0 : p ∣ cubD b c d) (h1 : p ∣ b * b - 3 * c) (h2 : p ∣ cub b c d t) : NT p (sh E (p * t) 0 0) := by
  obtain ⟨⟨k2, k4, k6⟩, k1, k3⟩ := mv_cb hc t
  obtain ⟨⟨u, hu⟩, ⟨v, hv⟩⟩ := tri_all hp h0 h1 h2
  obtain ⟨w, hw⟩ := h2
  obtain ⟨⟨x, hx⟩, -, ⟨y, hy⟩, -, -⟩ := f
  refine ⟨by rw [k1]; exact ⟨x, hx⟩, ⟨u, by rw [k2, hu]; grind⟩, ⟨y + t * x, by rw [k3, hx, hy]; grind⟩, ⟨v, by rw [k4, hv]; grind⟩, ⟨w, by rw [k6, hw]; grind⟩⟩
theorem mv_loop {ev : EV} {m : Nat} {z : PS} {E : Cv} {b c d : Int} (A : AM ev m z E) {p : Int} (hp : p = 2 ∨ p = 3) (f : ∀ k, fit p (co E k)) (hc : CB p E b c d) (hb : BB p b c d) (al : Bool) {t' : Int} (ht' : 0 ≤ t' ∧ t' < p) (hT : p ∣ cub b c d t' ∧ (al = true ∨ p ∣ 3 * t' * t' + 2 * b * t' + c)) :
    ∀ (k n : Nat) (t : Int), 0 ≤ t → t + k = t' → ∃ T, 0 ≤ T ∧ T < p ∧ (p ∣ cub b c d T ∧ (al = true ∨ p ∣ 3 * T * T + 2 * b * T + c)) ∧ q_X8_movesRoot_3 ev m (n + k + 1) (ph p) (if al then 1 else 0) (ph t) z = some (sA z (rf ev 123 m) (sh E (p * T) 0 0)) := by
  have hp0 := p_rng hp
  have base : ∀ (n : Nat) (t : Int), 0 ≤ t → t < p → (p ∣ cub b c d t ∧ (al = true ∨ p ∣ 3 * t * t + 2 * b * t + c)) → q_X8_movesRoot_3 ev m (n + 1) (ph p) (if al then 1 else 0) (ph t) z = some (sA z (rf ev 123 m) (sh E (p * t) 0 0)) := by
    intro n t h0 h1 ⟨h2, h3⟩
    obtain ⟨c1, c2⟩ := n_cubic A hp f hc (t := t) (by omega) hb
    have q1 := mod_0 (v := cub b c d t) hp0.1 hp0.2
    have q2 := mod_0 (v := 3 * t * t + 2 * b * t + c) hp0.1 hp0.2
    rw [q_X8_movesRoot_3, c1, ob_e, if_pos (q1.mpr h2), ph_mul, l0, n_sh A, ob_e]
    cases al with
    | true => rw [if_neg (by decide)]
    | false =>
      have h4 : p ∣ 3 * t * t + 2 * b * t + c := by rcases h3 with h3 | h3
                                                    · cases h3
                                                    · exact h3
      rw [if_pos (by decide), c2, ob_e, if_pos (by rw [← l0]; exact q2.mpr h4)]
  intro k
  induction k with
  | zero =>
    intro n t h0 he
    have e : t = t' := by omega
    subst e
    exact ⟨t, by omega, by omega, hT, base (n + 0) t (by omega) (by omega) hT⟩
  | succ k ih =>
    intro n t h0 he
    by_cases hg : p ∣ cub b c d t ∧ (al = true ∨ p ∣ 3 * t * t + 2 * b * t + c)
    · exact ⟨t, by omega, by omega, hg, base (n + (k + 1)) t (by omega) (by omega) hg⟩
    · obtain ⟨T, h1, h2, h3, h4⟩ := ih n (t + 1) (by omega) (by omega)
      refine ⟨T, h1, h2, h3, ?_⟩
      obtain ⟨c1, c2⟩ := n_cubic A hp f hc (t := t) (by omega) hb
      have q1 := mod_0 (v := cub b c d t) hp0.1 hp0.2
      have q2 := mod_0 (v := 3 * t * t + 2 * b * t + c) hp0.1 hp0.2
      rw [← h4, q_X8_movesRoot_3, c1, ob_e]
      by_cases g1 : p ∣ cub b c d t
      · rw [if_pos (q1.mpr g1)]
        cases al with
        | true => exact absurd ⟨g1, Or.inl rfl⟩ hg
        | false =>
          rw [if_pos (by decide), c2, ob_e, if_neg (fun hh => hg ⟨g1, Or.inr (q2.mp hh)⟩), bd_e, l1, ph_add]; rfl
      · rw [if_neg (fun hh => g1 (q1.mp hh)), bd_e, l1, ph_add]; rfl
theorem n_moves {ev : EV} {m : Nat} {z : PS} {E : Cv} {b c d : Int} (A : AM ev m z E) {p : Int} (hp : p = 2 ∨ p = 3) (f : ∀ k, fit p (co E k)) (hc : CB p E b c d) (hb : BB p b c d) (hD : p ∣ cubD b c d) (al : Bool) :
    ∃ T, 0 ≤ T ∧ T < p ∧ (p ∣ cub b c d T ∧ (al = true ∨ p ∣ 3 * T * T + 2 * b * T + c)) ∧ g_X8_movesRoot ev z m (ph p) (if al then 1 else 0) = some (sA z (rf ev 123 m) (sh E (p * T) 0 0)) := by
  obtain ⟨t', h1, h2, h3, h4⟩ := dbl_ex hp hD
  obtain ⟨k, hk⟩ : ∃ k : Nat, (0 : Int) + k = t' := ⟨t'.toNat, by omega⟩
  obtain ⟨n, hn⟩ := FU_ge (d := k) (by omega)
  obtain ⟨T, g1, g2, g3, g4⟩ := mv_loop A hp f hc hb al ⟨h1, h2⟩ ⟨h3, Or.inr h4⟩ k n 0 (by omega) hk
  exact ⟨T, g1, g2, g3, by unfold g_X8_movesRoot; rw [hn, l0]; exact g4⟩
