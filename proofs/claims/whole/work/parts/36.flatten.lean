theorem td_nn {a b : Int} (h : 0 ≤ a) : a.tdiv b = a / b := Int.tdiv_eq_ediv_of_nonneg h
theorem tm_nn {a b : Int} (h : 0 ≤ a) : a.tmod b = a % b := Int.tmod_eq_emod_of_nonneg h
theorem AM.kept {ev : EV} {m : Nat} {z : PS} {E F : Cv} (hd : rf ev 123 m ≠ rf ev 129 m) (K : KM ev m z E) : KM ev m (sA z (rf ev 123 m) F) E := by
  intro k hk
  have := K k hk
  simp only [rJ, sA] at *
  rw [if_neg hd.symm]; exact this
theorem fl27 {ev : EV} {m : Nat} {E : Cv} (hd : rf ev 123 m ≠ rf ev 129 m) {p : Int} (hp : p = 2 ∨ p = 3) (hF : Fit p E) {q : Int} (hq : 0 ≤ q ∧ q < p * p * p * p * p) (hfl : FL p (sh E (q / p / p / p % (p * p)) (q % p) (q / p % (p * p)))) :
    ∀ (d n : Nat) (i r s t : Int) (z : PS), 0 ≤ i → i + d = q + 1 → AM ev m z (sh E r s t) → KM ev m z E → (0 ≤ r ∧ r < 9) → (0 ≤ s ∧ s < 3) → (0 ≤ t ∧ t < 9) → (i = q + 1 → FL p (sh E r s t)) →
    ∃ r' s' t' z', (0 ≤ r' ∧ r' < 9) ∧ (0 ≤ s' ∧ s' < 3) ∧ (0 ≤ t' ∧ t' < 9) ∧ FL p (sh E r' s' t') ∧ AM ev m z' (sh E r' s' t') ∧ Fs ev m z z' ∧ q_X8_flattens_27 ev m (n + d + 1) (ph p) (ph i) z = some z' := by
  have hpp : p * p = 4 ∨ p * p = 9 := by rcases hp with rfl | rfl <;> omega
  have hp5 : p * p * p * p * p ≤ 243 := by rcases hp with rfl | rfl <;> omega
  have hpR : inR p := ⟨by omega, by omega⟩
  have hp0 : ¬ ph p = 0 := by rw [l0, ph_eq hpR z_R]; omega
  have hpp0 : ¬ ph p * ph p = 0 := by rw [ph_mul, l0, ph_eq (by constructor <;> omega) z_R]; omega
  intro d
  induction d with
  | zero =>
    intro n i r s t z hi he A K hr hs ht hl
    have h := hl (by omega)
    refine ⟨r, s, t, z, hr, hs, ht, h, A, Fs.rf ev m z, ?_⟩
    rw [q_X8_flattens_27]
    simp only [ph_mul]
    by_cases hc : ph (p * p * p * p * p) ≤ ph i
    · rw [if_pos hc]
    · rw [if_neg hc, (n_flat A hp (hF.co (by omega) (by omega) (by omega))).1 h, ob_e, if_neg (by decide)]
  | succ d ih =>
    intro n i r s t z hi he A K hr hs ht hl
    by_cases h : FL p (sh E r s t)
    · refine ⟨r, s, t, z, hr, hs, ht, h, A, Fs.rf ev m z, ?_⟩
      rw [q_X8_flattens_27]
      simp only [ph_mul]
      by_cases hc : ph (p * p * p * p * p) ≤ ph i
      · rw [if_pos hc]
      · rw [if_neg hc, (n_flat A hp (hF.co (by omega) (by omega) (by omega))).1 h, ob_e, if_neg (by decide)]
    · have hi5 : i < p * p * p * p * p := by omega
      have R1 : inR i := ⟨by omega, by omega⟩
      have e1 : ph i / ph p = ph (i / p) := by rw [ph_div R1 hpR (by omega), td_nn hi]
      have b1 : 0 ≤ i / p ∧ i / p ≤ i := ⟨Int.ediv_nonneg hi (by omega), Int.ediv_le_self p hi⟩
      have e2 : ph (i / p) / ph p = ph (i / p / p) := by rw [ph_div ⟨by omega, by omega⟩ hpR (by omega), td_nn b1.1]
      have b2 : 0 ≤ i / p / p ∧ i / p / p ≤ i / p := ⟨Int.ediv_nonneg b1.1 (by omega), Int.ediv_le_self p b1.1⟩
      have e3 : ph (i / p / p) / ph p = ph (i / p / p / p) := by rw [ph_div ⟨by omega, by omega⟩ hpR (by omega), td_nn b2.1]
      have b3 : 0 ≤ i / p / p / p ∧ i / p / p / p ≤ i / p / p := ⟨Int.ediv_nonneg b2.1 (by omega), Int.ediv_le_self p b2.1⟩
      have c1 : jr64 (ph (i / p / p / p)) (ph (p * p)) = ph (i / p / p / p % (p * p)) := by rw [jr_ph ⟨by omega, by omega⟩ (by constructor <;> omega) (by omega), tm_nn b3.1]
      have c2 : jr64 (ph i) (ph p) = ph (i % p) := by rw [jr_ph R1 hpR (by omega), tm_nn hi]
      have c3 : jr64 (ph (i / p)) (ph (p * p)) = ph (i / p % (p * p)) := by rw [jr_ph ⟨by omega, by omega⟩ (by constructor <;> omega) (by omega), tm_nn b1.1]
      have d1 := Int.emod_nonneg (i / p / p / p) (show p * p ≠ 0 by omega)
      have d2 := Int.emod_lt_of_pos (i / p / p / p) (show 0 < p * p by omega)
      have d3 := Int.emod_nonneg i (show p ≠ 0 by omega)
      have d4 := Int.emod_lt_of_pos i (show 0 < p by omega)
      have d5 := Int.emod_nonneg (i / p) (show p * p ≠ 0 by omega)
      have d6 := Int.emod_lt_of_pos (i / p) (show 0 < p * p by omega)
      have step : q_X8_flattens_27 ev m (n + (d + 1) + 1) (ph p) (ph i) z = q_X8_flattens_27 ev m (n + d + 1) (ph p) (ph (i + 1)) (sA z (rf ev 123 m) (sh E (i / p / p / p % (p * p)) (i % p) (i / p % (p * p)))) := by
        rw [q_X8_flattens_27]
        simp only [ck_e hp0, ck_e hpp0]
        simp only [ph_mul]
        rw [if_neg (by rw [ph_le (by constructor <;> omega) R1]; omega), (n_flat A hp (hF.co (by omega) (by omega) (by omega))).2 h, ob_e, if_pos rfl, n_back hd K, ob_e]
        rw [e1, e2, e3, c1, c2, c3, n_sh (AM_sA ev m z E), ob_e, bd_e, sA_sA, l1, ph_add]
        rfl
      rw [step]
      obtain ⟨r', s', t', z', h1, h2, h3, h4, h5, h6, h7⟩ := ih n (i + 1) _ _ _ (sA z (rf ev 123 m) (sh E (i / p / p / p % (p * p)) (i % p) (i / p % (p * p)))) (by omega) (by omega) (AM_sA ev m z _) (AM.kept hd K) ⟨d1, by omega⟩ ⟨d3, by omega⟩ ⟨d5, by omega⟩ (fun hh => by rw [show i = q by omega]; exact hfl)
      exact ⟨r', s', t', z', h1, h2, h3, h4, h5, (Fs_sA ev m z _).tr h6, h7⟩
theorem n_flatten {ev : EV} {m : Nat} {z : PS} {E : Cv} (hd : rf ev 123 m ≠ rf ev 129 m) (A : AM ev m z E) {p : Int} (hp : p = 2 ∨ p = 3) (hF : Fit p E) (hN : N1 p E) (h2 : p ∣ b2 E) (h6 : p ^ 2 ∣ a6 E) (h8 : p ^ 3 ∣ b8 E) (h3 : p ^ 3 ∣ b6 E) :
    ∃ r s t z', (0 ≤ r ∧ r < 9) ∧ (0 ≤ s ∧ s < 3) ∧ (0 ≤ t ∧ t < 9) ∧ FL p (sh E r s t) ∧ AM ev m z' (sh E r s t) ∧ Fs ev m z z' ∧ g_X8_flattens ev z m (ph p) = some z' := by
  have key : ∃ q, (0 ≤ q ∧ q < p * p * p * p * p) ∧ FL p (sh E (q / p / p / p % (p * p)) (q % p) (q / p % (p * p))) := by
    rcases hp with rfl | rfl
    · have f := flat_ex2 hN h2 h6 h8 h3
      have hs : 0 ≤ a2 E % 2 ∧ a2 E % 2 < 2 := by omega
      have ht : 0 ≤ a6 E / 4 % 2 ∧ a6 E / 4 % 2 < 2 := by omega
      generalize a2 E % 2 = s at *
      generalize a6 E / 4 % 2 = t at *
      refine ⟨2 * (2 * t) + s, by omega, ?_⟩
      rw [show (2 * (2 * t) + s) / 2 / 2 / 2 % (2 * 2) = 0 by omega, show (2 * (2 * t) + s) % 2 = s by omega, show (2 * (2 * t) + s) / 2 % (2 * 2) = 2 * t by omega]
      exact f
    · have f := flat_ex3 hN h2 h8 h3
      have hs : 0 ≤ a1 E % 3 ∧ a1 E % 3 < 3 := by omega
      have ht : 0 ≤ a3 E / 3 % 3 ∧ a3 E / 3 % 3 < 3 := by omega
      generalize a1 E % 3 = s at *
      generalize a3 E / 3 % 3 = t at *
      refine ⟨3 * (3 * t) + s, by omega, ?_⟩
      rw [show (3 * (3 * t) + s) / 3 / 3 / 3 % (3 * 3) = 0 by omega, show (3 * (3 * t) + s) % 3 = s by omega, show (3 * (3 * t) + s) / 3 % (3 * 3) = 3 * t by omega]
      exact f
  obtain ⟨q, hq, hfl⟩ := key
  obtain ⟨z1, e1, A1, K1, F1⟩ := fl_copy hd A (ph p)
  have hp5 : p * p * p * p * p ≤ 243 := by rcases hp with rfl | rfl <;> omega
  obtain ⟨d, hdd⟩ : ∃ d : Nat, (0 : Int) + d = q + 1 := ⟨(q + 1).toNat, by omega⟩
  obtain ⟨n, hn⟩ := FU_ge (d := d) (by omega)
  have A0 : AM ev m z1 (sh E 0 0 0) := by rw [sh_0]; exact A1
  obtain ⟨r', s', t', z', h1, h2, h3, h4, h5, h6, h7⟩ := fl27 hd hp hF hq hfl d n 0 0 0 0 z1 (by omega) hdd A0 K1 (by omega) (by omega) (by omega) (fun hh => by omega)
  refine ⟨r', s', t', z', h1, h2, h3, h4, h5, F1.tr h6, ?_⟩
  rw [e1, hn]; exact h7
