/-! the model's turns -/
def sI (z : PS) (B : Nat) (k i f mm c n : Int32) : PS := wI (wI (wI (wI (wI (wI (wI z B 0 k) B 1 i) B 2 f) B 3 mm) B 4 c) B 5 n) B 6 0
theorem m_is (ev : EV) (z : PS) (m : Nat) (k i f mm c n : Int32) : g_X8_is ev z m k i f mm c n = some (sI z (rf ev 127 m) k i f mm c n) := rfl
theorem m_unl {p x y w : Int} (hp : p = 2 ∨ p = 3) (hx : 0 ≤ x ∧ x < 3) (hy : 0 ≤ y ∧ y < 3) (hw : 0 ≤ w ∧ w < 3) : g_X8_areUnlike (ph p) (ph x) (ph y) (ph w) = some (if p ∣ y * y - 4 * x * w then 0 else 1) := by
  have hp0 := p_rng hp
  unfold g_X8_areUnlike
  rw [l4]
  simp only [ph_mul, ph_sub]
  have hR : inR (y * y - 4 * x * w) := by
    have h1 : x = 0 ∨ x = 1 ∨ x = 2 := by omega
    have h2 : y = 0 ∨ y = 1 ∨ y = 2 := by omega
    apply small_R <;> rcases h1 with rfl | rfl | rfl <;> rcases h2 with rfl | rfl | rfl <;> omega
  rw [m_mod hp0.1 hp0.2 (Or.inl hR), ob_e]
  have h0 := mod_0 (v := y * y - 4 * x * w) hp0.1 hp0.2
  by_cases h : p ∣ y * y - 4 * x * w
  · rw [if_pos (h0.mpr h), if_pos h]
  · rw [if_neg (fun q => h (h0.mp q)), if_neg h]
theorem em_rng {p x : Int} (hp : p = 2 ∨ p = 3) : 0 ≤ x % p ∧ x % p < 3 := by
  have h1 := Int.emod_nonneg x (show p ≠ 0 by omega)
  have h2 := Int.emod_lt_of_pos x (show 0 < p by omega)
  omega
theorem jr2 {k : Nat} (hk : k < 1000) : jr32 (nI k) (2 : Int32) = nI (k % 2) := by
  have := pk_rem (a := k) (d := 2) (by omega) (by omega) (by omega)
  exact this
theorem half3 {k : Nat} (hk : k < 1000) : (nI k + (3 : Int32)) / (2 : Int32) = nI ((k + 3) / 2) := by
  rw [show (3 : Int32) = nI 3 from rfl, show (2 : Int32) = nI 2 from rfl, nI_add, pk_div (by omega) (by omega) (by omega)]
theorem half4 {k : Nat} (hk : k < 1000) : (nI k + (4 : Int32)) / (2 : Int32) = nI ((k + 4) / 2) := by
  rw [show (4 : Int32) = nI 4 from rfl, show (2 : Int32) = nI 2 from rfl, nI_add, pk_div (by omega) (by omega) (by omega)]
theorem dsc_root {p : Int} (hp : p = 2 ∨ p = 3) {x y w : Int} (hx : ¬ p ∣ x) (h : p ∣ y * y - 4 * x * w) : qr p x y w := by
  rcases hp with rfl | rfl
  · rw [qr_fin2]
    obtain ⟨q1, j1, rfl, e1⟩ := md2 x
    obtain ⟨q2, j2, rfl, e2⟩ := md2 y
    obtain ⟨q3, j3, rfl, e3⟩ := md2 w
    rcases e1 with rfl | rfl
    · exact absurd ⟨q1, by omega⟩ hx
    rcases e2 with rfl | rfl <;> rcases e3 with rfl | rfl <;> first | (left; omega) | (right; omega) | (exfalso; grind)
  · rw [qr_fin3]
    obtain ⟨q1, j1, rfl, e1⟩ := md3 x
    obtain ⟨q2, j2, rfl, e2⟩ := md3 y
    obtain ⟨q3, j3, rfl, e3⟩ := md3 w
    rcases e1 with rfl | rfl | rfl
    · exact absurd ⟨q1, by omega⟩ hx
    all_goals rcases e2 with rfl | rfl | rfl <;> rcases e3 with rfl | rfl | rfl <;> first | (left; omega) | (right; left; omega) | (right; right; omega) | (exfalso; grind)
/-- from the three numbers of the quadratic on -/
theorem t144 {ev : EV} {m : Nat} {z : PS} {E : Cv} (A : AM ev m z E) {p : Int} (hp : p = 2 ∨ p = 3) (k6 : Int64 → Int32 → Int32 → Int32 → PS → Option PS) {k N e : Nat} (hk : k < 1000) (he : pok p e) (he1 : 1 ≤ e) (ho : k % 2 = 1 ∧ e = (k + 3) / 2 ∨ ¬ k % 2 = 1 ∧ e = (k + 4) / 2) {x y w : Int} (hx : ¬ p ∣ x) {X Y Z : Int64}
    (hX : g_X8_modulo X (ph p) = some (ph (x % p))) (hY : g_X8_modulo Y (ph p) = some (ph (y % p))) (hZ : g_X8_modulo Z (ph p) = some (ph (w % p))) :
    (¬ p ∣ y * y - 4 * x * w → ∃ c z', ((qr p x y w ∧ c = 4) ∨ (¬ qr p x y w ∧ c = 2)) ∧ Fs ev m z z' ∧ q_X8_turns_144 ev m k6 (ph p) (nI N) (nI k) (nI (k % 2)) (nI e) X Y Z z = k6 (ph p) (nI N) (nI k) 1 (sI z' (rf ev 127 m) 6 (nI k) ((nI N - 4) - nI k) (5 + nI k) (nI c) (nI N))) ∧
    (p ∣ y * y - 4 * x * w → ∃ R z', 0 ≤ R ∧ R < p ∧ p ∣ x * R * R + y * R + w ∧ Fs ev m z z' ∧ AM ev m z' (sh E (mvR p k R) 0 (mvT p k R)) ∧ q_X8_turns_144 ev m k6 (ph p) (nI N) (nI k) (nI (k % 2)) (nI e) X Y Z z = k6 (ph p) (nI N) (nI (k + 1)) 0 z') := by
  obtain ⟨kk, z1, r1, r2, r3⟩ := m_roots ev m z hp (em_rng hp (x := x)) (em_rng hp (x := y)) (em_rng hp (x := w))
  have u1 := m_unl hp (em_rng hp (x := x)) (em_rng hp (x := y)) (em_rng hp (x := w))
  obtain ⟨i1, i2, i3⟩ := q_mod (p := p) (x := x) (y := y) (z := w)
  have F1 : Fs ev m z z1 := by
    rcases r3 with ⟨rfl, -, -⟩ | ⟨-, -, R, -, -, -, rfl⟩
    · exact Fs.rf ev m z1
    · exact Fs_root ev m z _
  have A1 : AM ev m z1 E := by
    rcases r3 with ⟨rfl, -, -⟩ | ⟨-, -, R, -, -, -, rfl⟩
    · exact A
    · exact AM_root A _
  unfold q_X8_turns_144
  rw [hX, ob_e, hY, ob_e, hZ, ob_e, u1, ob_e, r1, ob_e, bd_e, bd_e]
  have hkn : (nI kk ≤ (0 : Int32)) ↔ kk = 0 := by
    rw [show (0 : Int32) = nI 0 from rfl, i_le (by omega) (by omega)]; omega
  constructor
  · intro hd
    rw [if_neg (fun h => hd (i1.mp h)), if_neg (by decide)]
    by_cases hq : qr p x y w
    · have h0 : ¬ kk = 0 := by
        rcases r3 with ⟨-, -, h⟩ | ⟨h, -⟩
        · exact absurd (i2.mpr hq) h
        · omega
      refine ⟨4, z1, Or.inl ⟨hq, rfl⟩, F1, ?_⟩
      rw [if_neg (fun h => h0 (hkn.mp h)), m_is, ob_e]; rfl
    · have h0 : kk = 0 := by
        rcases r3 with ⟨-, h, -⟩ | ⟨-, h, -⟩
        · exact h
        · exact absurd (i2.mp h) hq
      refine ⟨2, z1, Or.inr ⟨hq, rfl⟩, F1, ?_⟩
      rw [if_pos (hkn.mpr h0), m_is, ob_e]; rfl
  · intro hd
    have hq : qr p (x % p) (y % p) (w % p) := i2.mpr (dsc_root hp hx hd)
    obtain ⟨R, g1, g2, g3, g4⟩ : ∃ R, 0 ≤ R ∧ R < p ∧ p ∣ x % p * R * R + y % p * R + w % p ∧ z1 = w64 z 128 m (ph R) := by
      rcases r3 with ⟨-, -, h⟩ | ⟨-, -, R, h1, h2, h3, h4⟩
      · exact absurd hq h
      · exact ⟨R, h1, h2, h3, h4⟩
    have hroot : r64 z1 128 m = ph R := by rw [g4]; simp [r64, w64]
    refine ⟨R, sA z1 (rf ev 123 m) (sh E (mvR p k R) 0 (mvT p k R)), g1, g2, (i3 R).mp g3, F1.tr (Fs_sA ev m z1 _), AM_sA ev m z1 _, ?_⟩
    rw [if_pos (i1.mpr hd), if_pos rfl]
    rcases ho with ⟨ho, hee⟩ | ⟨ho, hee⟩
    · rw [ho, if_neg (by decide)]
      unfold q_X8_turns_255
      rw [if_neg (by decide), g_power8 p (by rcases he with h | h <;> omega), ob_e, hroot, ph_mul, l0, n_sh A1, ob_e, bd_e, nI_1]
      unfold mvR mvT
      rw [if_pos ho, if_pos ho, ← hee]
    · have h0 : k % 2 = 0 := by omega
      have hm1 : nI e - (1 : Int32) = nI (e - 1) := by
        obtain ⟨j, rfl⟩ : ∃ j, e = j + 1 := ⟨e - 1, by omega⟩
        exact nI_pred j
      rw [h0, if_pos (by decide), hm1, g_power8 p (by rcases he with h | h <;> omega), ob_e, hroot, ph_mul]
      unfold q_X8_turns_255
      rw [if_pos (by decide), l0, n_sh A1, ob_e, bd_e, nI_1]
      unfold mvR mvT
      rw [if_neg ho, if_neg ho, ← hee]
