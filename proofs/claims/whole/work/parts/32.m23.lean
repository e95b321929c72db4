/-! the model at 2 and 3: its small steps -/
/-- z' is z but for the model's working row, its kept row, its row of answers, its root -/
def Fr (ev : EV) (m : Nat) (z z' : PS) : Prop := z'.1 = z.1 ∧ (∀ i x, ¬ (i = 128 ∧ x = m) → z'.2.1 i x = z.2.1 i x) ∧ (∀ b j, b ≠ rf ev 127 m → z'.2.2.1 b j = z.2.2.1 b j) ∧ (∀ b j, b ≠ rf ev 123 m → b ≠ rf ev 129 m → z'.2.2.2 b j = z.2.2.2 b j)
/-- .. and the row of answers is the same too -/
def Fs (ev : EV) (m : Nat) (z z' : PS) : Prop := Fr ev m z z' ∧ z'.2.2.1 = z.2.2.1
theorem Fr.rf (ev : EV) (m : Nat) (z : PS) : Fr ev m z z := ⟨rfl, fun _ _ _ => rfl, fun _ _ _ => rfl, fun _ _ _ _ => rfl⟩
theorem Fr.tr {ev : EV} {m : Nat} {x y z : PS} (h : Fr ev m x y) (h' : Fr ev m y z) : Fr ev m x z :=
  ⟨h'.1.trans h.1, fun i q n => (h'.2.1 i q n).trans (h.2.1 i q n), fun b j n => (h'.2.2.1 b j n).trans (h.2.2.1 b j n), fun b j n n' => (h'.2.2.2 b j n n').trans (h.2.2.2 b j n n')⟩
theorem Fs.rf (ev : EV) (m : Nat) (z : PS) : Fs ev m z z := ⟨Fr.rf ev m z, rfl⟩
theorem Fs.tr {ev : EV} {m : Nat} {x y z : PS} (h : Fs ev m x y) (h' : Fs ev m y z) : Fs ev m x z := ⟨h.1.tr h'.1, h'.2.trans h.2⟩
def AM (ev : EV) (m : Nat) (z : PS) (E : Cv) : Prop := ∀ k, k < 5 → rJ z (rf ev 123 m) k = ph (co E k)
theorem AM.eq {ev : EV} {m : Nat} {z : PS} {E : Cv} (h : AM ev m z E) : sA z (rf ev 123 m) E = z := by
  unfold sA
  refine Prod.ext rfl (Prod.ext rfl (Prod.ext rfl ?_))
  funext b j
  dsimp only
  by_cases hb : b = rf ev 123 m
  · subst hb
    have h0 := h 0 (by omega); have h1 := h 1 (by omega); have h2 := h 2 (by omega); have h3 := h 3 (by omega); have h4 := h 4 (by omega)
    simp only [rJ, co] at h0 h1 h2 h3 h4
    by_cases q0 : j = 0
    · subst q0; simpa using h0.symm
    by_cases q1 : j = 1
    · subst q1; simpa using h1.symm
    by_cases q2 : j = 2
    · subst q2; simpa using h2.symm
    by_cases q3 : j = 3
    · subst q3; simpa using h3.symm
    by_cases q4 : j = 4
    · subst q4; simpa using h4.symm
    simp [q0, q1, q2, q3, q4]
  · simp [hb]
theorem AM_sA (ev : EV) (m : Nat) (z : PS) (E : Cv) : AM ev m (sA z (rf ev 123 m) E) E := fun k hk => sA_co z _ E hk
theorem Fs_sA (ev : EV) (m : Nat) (z : PS) (E : Cv) : Fs ev m z (sA z (rf ev 123 m) E) := ⟨⟨rfl, fun _ _ _ => rfl, fun _ _ _ => rfl, fun b j h _ => by simp [sA, h]⟩, rfl⟩
theorem n_sh {ev : EV} {m : Nat} {z : PS} {E : Cv} (h : AM ev m z E) (r s t : Int) : g_X8_changes ev z m (ph r) (ph s) (ph t) = some (sA z (rf ev 123 m) (sh E r s t)) := by
  have := m_sh ev z m E r s t; rwa [h.eq] at this
theorem n_in {ev : EV} {m : Nat} {z : PS} {E : Cv} (h : AM ev m z E) {p : Int} {k n : Nat} (hk : k < 5) (hn : pok p n) (f : fit p (co E k)) : g_X8_goesIn ev z m (ph p) (nI k) (nI n) = some (if p ^ n ∣ co E k then 1 else 0) := by
  have := m_in ev z m E hk hn f; rwa [h.eq] at this
theorem n_b2 {ev : EV} {m : Nat} {z : PS} {E : Cv} (h : AM ev m z E) : g_X8_b2 ev z m = some (ph (b2 E)) := by have := m_b2 ev z m E; rwa [h.eq] at this
theorem n_b6 {ev : EV} {m : Nat} {z : PS} {E : Cv} (h : AM ev m z E) : g_X8_b6 ev z m = some (ph (b6 E)) := by have := m_b6 ev z m E; rwa [h.eq] at this
theorem n_b8 {ev : EV} {m : Nat} {z : PS} {E : Cv} (h : AM ev m z E) : g_X8_b8 ev z m = some (ph (b8 E)) := by have := m_b8 ev z m E; rwa [h.eq] at this
theorem n_c4 {ev : EV} {m : Nat} {z : PS} {E : Cv} (h : AM ev m z E) : g_X8_c4 ev z m = some (ph (c4 E)) := by have := m_c4 ev z m E; rwa [h.eq] at this
theorem n_c6 {ev : EV} {m : Nat} {z : PS} {E : Cv} (h : AM ev m z E) : g_X8_c6 ev z m = some (ph (c6 E)) := by have := m_c6 ev z m E; rwa [h.eq] at this
theorem n_dd {ev : EV} {m : Nat} {z : PS} {E : Cv} (h : AM ev m z E) : g_X8_disc ev z m = some (ph (dd E)) := by have := m_dd ev z m E; rwa [h.eq] at this
theorem p_rng {p : Int} (hp : p = 2 ∨ p = 3) : 0 < p ∧ p < 2147483648 := by omega
theorem small_R {n : Int} (h : -1000000 ≤ n) (h' : n ≤ 1000000) : inR n := ⟨by omega, by omega⟩
theorem mod_0 {p v : Int} (hp : 0 < p) (hp2 : p < 2147483648) : ph (v % p) = 0 ↔ p ∣ v := by
  have h1 := Int.emod_nonneg v (show p ≠ 0 by omega)
  have h2 := Int.emod_lt_of_pos v hp
  rw [l0, ph_eq ⟨by omega, by omega⟩ (by constructor <;> omega)]
  exact ⟨Int.dvd_of_emod_eq_zero, Int.emod_eq_zero_of_dvd⟩
/-- the root's field alone changes -/
theorem Fs_root (ev : EV) (m : Nat) (z : PS) (v : Int64) : Fs ev m z (w64 z 128 m v) := ⟨⟨rfl, fun i x h => by simp [w64, h], fun _ _ _ => rfl, fun _ _ _ _ => rfl⟩, rfl⟩
theorem AM_root {ev : EV} {m : Nat} {z : PS} {E : Cv} (h : AM ev m z E) (v : Int64) : AM ev m (w64 z 128 m v) E := h
theorem rt_step (ev : EV) (m n k : Nat) (z : PS) {p x y c t : Int} (hp : p = 2 ∨ p = 3) (ht : 0 ≤ t) (htp : t < p) (hx : 0 ≤ x ∧ x < 3) (hy : 0 ≤ y ∧ y < 3) (hc : 0 ≤ c ∧ c < 3) :
    q_X8_roots_6 ev m (n + 1) (ph p) (ph x) (ph y) (ph c) (nI k) (ph t) z = (if p ∣ x * t * t + y * t + c then q_X8_roots_6 ev m n (ph p) (ph x) (ph y) (ph c) (nI (k + 1)) (ph (t + 1)) (w64 z 128 m (ph t)) else q_X8_roots_6 ev m n (ph p) (ph x) (ph y) (ph c) (nI k) (ph (t + 1)) z) := by
  have hp0 := p_rng hp
  rw [q_X8_roots_6, if_neg (by rw [ph_le ⟨by omega, by omega⟩ ⟨by omega, by omega⟩]; omega)]
  simp only [ph_mul, ph_add]
  have hR : inR (x * t * t + y * t + c) := by
    have ht3 : t = 0 ∨ t = 1 ∨ t = 2 := by omega
    apply small_R <;> rcases ht3 with rfl | rfl | rfl <;> omega
  rw [m_mod hp0.1 hp0.2 (Or.inl hR), ob_e]
  have h0 := mod_0 (v := x * t * t + y * t + c) hp0.1 hp0.2
  by_cases hd : p ∣ x * t * t + y * t + c
  · rw [if_pos (h0.mpr hd), if_pos hd, bd_e, bd_e, bd_e, l1, ph_add, nI_1]
  · rw [if_neg (fun q => hd (h0.mp q)), if_neg hd, bd_e, l1, ph_add]
theorem rt_end (ev : EV) (m n k : Nat) (z : PS) {p : Int} (hp : p = 2 ∨ p = 3) (x y c : Int64) : q_X8_roots_6 ev m (n + 1) (ph p) x y c (nI k) (ph p) z = some (nI k, z) := by
  have hp0 := p_rng hp
  rw [q_X8_roots_6, if_pos (by rw [ph_le ⟨by omega, by omega⟩ ⟨by omega, by omega⟩]; omega)]
theorem q_per {p x y c T u : Int} : p ∣ x * (T + p * u) * (T + p * u) + y * (T + p * u) + c ↔ p ∣ x * T * T + y * T + c := by
  apply Iff.symm
  apply dv_iff
  exact ⟨2 * x * T * u + p * x * u * u + y * u, by grind⟩
theorem qr_fin2 (x y c : Int) : qr 2 x y c ↔ (2 : Int) ∣ x * 0 * 0 + y * 0 + c ∨ (2 : Int) ∣ x * 1 * 1 + y * 1 + c := by
  constructor
  · rintro ⟨T, h⟩
    obtain ⟨q, i, e, hi⟩ := md2 T
    rw [show T = i + 2 * q by omega, q_per] at h
    rcases hi with rfl | rfl
    · exact Or.inl h
    · exact Or.inr h
  · rintro (h | h)
    · exact ⟨0, h⟩
    · exact ⟨1, h⟩
theorem qr_fin3 (x y c : Int) : qr 3 x y c ↔ (3 : Int) ∣ x * 0 * 0 + y * 0 + c ∨ (3 : Int) ∣ x * 1 * 1 + y * 1 + c ∨ (3 : Int) ∣ x * 2 * 2 + y * 2 + c := by
  constructor
  · rintro ⟨T, h⟩
    obtain ⟨q, i, e, hi⟩ := md3 T
    rw [show T = i + 3 * q by omega, q_per] at h
    rcases hi with rfl | rfl | rfl
    · exact Or.inl h
    · exact Or.inr (Or.inl h)
    · exact Or.inr (Or.inr h)
  · rintro (h | h | h)
    · exact ⟨0, h⟩
    · exact ⟨1, h⟩
    · exact ⟨2, h⟩
theorem m_roots (ev : EV) (m : Nat) (z : PS) {p x y c : Int} (hp : p = 2 ∨ p = 3) (hx : 0 ≤ x ∧ x < 3) (hy : 0 ≤ y ∧ y < 3) (hc : 0 ≤ c ∧ c < 3) :
    ∃ (k : Nat) (z' : PS), g_X8_roots ev z m (ph p) (ph x) (ph y) (ph c) = some (nI k, z') ∧ k ≤ 3 ∧ ((z' = z ∧ k = 0 ∧ ¬ qr p x y c) ∨ (0 < k ∧ qr p x y c ∧ ∃ R, 0 ≤ R ∧ R < p ∧ p ∣ x * R * R + y * R + c ∧ z' = w64 z 128 m (ph R))) := by
  have ww : ∀ (a b : Int64), w64 (w64 z 128 m a) 128 m b = w64 z 128 m b := fun a b => by
    unfold w64
    refine Prod.ext rfl (Prod.ext ?_ rfl)
    funext i j
    dsimp only
    split <;> rfl
  obtain ⟨n, hn⟩ : ∃ n, FU = n + 4 := ⟨999999999996, rfl⟩
  unfold g_X8_roots
  rw [hn, l0, show (0 : Int32) = nI 0 from rfl]
  rcases hp with rfl | rfl
  · have hp : (2 : Int) = 2 ∨ (2 : Int) = 3 := Or.inl rfl
    rw [show n + 4 = n + 3 + 1 from rfl, rt_step ev m _ 0 z hp (t := 0) (by omega) (by omega) hx hy hc]
    have e2 := qr_fin2 x y c
    by_cases h0 : (2 : Int) ∣ x * 0 * 0 + y * 0 + c <;> by_cases h1 : (2 : Int) ∣ x * 1 * 1 + y * 1 + c
    · rw [if_pos h0, show n + 3 = n + 2 + 1 from rfl, show (0 : Int) + 1 = 1 from rfl, rt_step ev m _ _ _ hp (t := 1) (by omega) (by omega) hx hy hc, if_pos h1, show (1 : Int) + 1 = 2 from rfl, show n + 2 = n + 1 + 1 from rfl, rt_end ev m _ _ _ hp, ww]
      exact ⟨_, _, rfl, by omega, Or.inr ⟨by omega, e2.mpr (Or.inl h0), 1, by omega, by omega, h1, rfl⟩⟩
    · rw [if_pos h0, show n + 3 = n + 2 + 1 from rfl, show (0 : Int) + 1 = 1 from rfl, rt_step ev m _ _ _ hp (t := 1) (by omega) (by omega) hx hy hc, if_neg h1, show (1 : Int) + 1 = 2 from rfl, show n + 2 = n + 1 + 1 from rfl, rt_end ev m _ _ _ hp]
      exact ⟨_, _, rfl, by omega, Or.inr ⟨by omega, e2.mpr (Or.inl h0), 0, by omega, by omega, h0, rfl⟩⟩
    · rw [if_neg h0, show n + 3 = n + 2 + 1 from rfl, show (0 : Int) + 1 = 1 from rfl, rt_step ev m _ _ _ hp (t := 1) (by omega) (by omega) hx hy hc, if_pos h1, show (1 : Int) + 1 = 2 from rfl, show n + 2 = n + 1 + 1 from rfl, rt_end ev m _ _ _ hp]
      exact ⟨_, _, rfl, by omega, Or.inr ⟨by omega, e2.mpr (Or.inr h1), 1, by omega, by omega, h1, rfl⟩⟩
    · rw [if_neg h0, show n + 3 = n + 2 + 1 from rfl, show (0 : Int) + 1 = 1 from rfl, rt_step ev m _ _ _ hp (t := 1) (by omega) (by omega) hx hy hc, if_neg h1, show (1 : Int) + 1 = 2 from rfl, show n + 2 = n + 1 + 1 from rfl, rt_end ev m _ _ _ hp]
      exact ⟨_, _, rfl, by omega, Or.inl ⟨rfl, rfl, fun q => (e2.mp q).elim h0 h1⟩⟩
  · have hp : (3 : Int) = 2 ∨ (3 : Int) = 3 := Or.inr rfl
    rw [show n + 4 = n + 3 + 1 from rfl, rt_step ev m _ 0 z hp (t := 0) (by omega) (by omega) hx hy hc]
    have e3 := qr_fin3 x y c
    by_cases h0 : (3 : Int) ∣ x * 0 * 0 + y * 0 + c <;> by_cases h1 : (3 : Int) ∣ x * 1 * 1 + y * 1 + c <;> by_cases h2 : (3 : Int) ∣ x * 2 * 2 + y * 2 + c <;>
      (first | rw [if_pos h0] | rw [if_neg h0]) <;>
      rw [show n + 3 = n + 2 + 1 from rfl, show (0 : Int) + 1 = 1 from rfl, rt_step ev m _ _ _ hp (t := 1) (by omega) (by omega) hx hy hc] <;>
      (first | rw [if_pos h1] | rw [if_neg h1]) <;>
      rw [show n + 2 = n + 1 + 1 from rfl, show (1 : Int) + 1 = 2 from rfl, rt_step ev m _ _ _ hp (t := 2) (by omega) (by omega) hx hy hc] <;>
      (first | rw [if_pos h2] | rw [if_neg h2]) <;>
      rw [show (2 : Int) + 1 = 3 from rfl, rt_end ev m _ _ _ hp] <;> (try simp only [ww]) <;>
      first
      | exact ⟨_, _, rfl, by omega, Or.inr ⟨by omega, e3.mpr (Or.inr (Or.inr h2)), 2, by omega, by omega, h2, rfl⟩⟩
      | exact ⟨_, _, rfl, by omega, Or.inr ⟨by omega, e3.mpr (Or.inr (Or.inl h1)), 1, by omega, by omega, h1, rfl⟩⟩
      | exact ⟨_, _, rfl, by omega, Or.inr ⟨by omega, e3.mpr (Or.inl h0), 0, by omega, by omega, h0, rfl⟩⟩
      | exact ⟨_, _, rfl, by omega, Or.inl ⟨rfl, rfl, fun q => (e3.mp q).elim h0 (fun q => q.elim h1 h2)⟩⟩
