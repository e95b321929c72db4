/-! the class's turns -/
theorem nI_tn {e : Nat} (he : e < 4294967296) : (nI e).toBitVec.toNat = e := by
  show (BitVec.ofInt 32 (e : Int)).toNat = e
  rw [BitVec.toNat_ofInt]
  omega
theorem i_and1 {e : Nat} (he : e < 2147483648) : nI e &&& (1 : Int32) = nI (e % 2) := by
  apply Int32.toBitVec_inj.mp
  apply BitVec.eq_of_toNat_eq
  rw [nI_tn (by omega)]
  show ((nI e).toBitVec &&& (1 : Int32).toBitVec).toNat = _
  rw [BitVec.toNat_and, nI_tn (by omega)]
  exact Nat.and_one_is_mod e
theorem i_shr1 {e : Nat} (he : e < 2147483648) : nI e >>> ((1 : Int32) &&& 31) = nI (e / 2) := by
  have := pk_shrN (n := e) he ((1 : Int32) &&& 31) 1 (by decide)
  rwa [Nat.pow_one] at this
theorem i_sub {a b : Nat} (h : b ≤ a) : nI a - nI b = nI (a - b) := by
  have e : nI a = nI (a - b) + nI b := by rw [i_add]; congr 1; omega
  rw [e]; grind
theorem i_mul2 (a : Nat) : (2 : Int32) * nI a = nI (2 * a) := by
  rw [show 2 * a = a + a by omega, ← i_add]; grind
theorem em_lt {p x : Int} (hp : 2 ≤ p) : 0 ≤ x % p ∧ x % p < p := ⟨Int.emod_nonneg _ (by omega), Int.emod_lt_of_pos _ (by omega)⟩
theorem c_143 {ev : EV} {z : PS} {th P N : Nat} {E : Cv} (hpr : Pr P) (hp2 : P ≤ 27064) (C : CF ev z th P N E) {k e : Nat} (hk1 : 1 ≤ k) (hk : k < 1000) (he : (k % 2 = 1 ∧ e = (k + 3) / 2) ∨ (k % 2 = 0 ∧ e = (k + 4) / 2)) {x y w : Int} (hx : ¬ (P : Int) ∣ x) {v : Int64} (hv : g_X4_rest v (ph P) = some (ph (w % P))) (k2 : Int32 → PS → Option PS) :
    (¬ (P : Int) ∣ y * y - 4 * x * w → ∃ c, ((qr P x y w ∧ c = 4) ∨ (¬ qr P x y w ∧ c = 2)) ∧ q_X1_tellByTurns_143 ev th k2 (nI k) (nI (k % 2)) (nI e) (ph (x % P)) (ph (y % P)) v z = some (w32 (sT z th 6 ((nI N - 4) - nI k) (5 + nI k) (nI c)) 21 th (nI k))) ∧
    ((P : Int) ∣ y * y - 4 * x * w → ∃ R : Nat, R < P ∧ (P : Int) ∣ x * R * R + y * R + w ∧ q_X1_tellByTurns_143 ev th k2 (nI k) (nI (k % 2)) (nI e) (ph (x % P)) (ph (y % P)) v z = k2 (nI (k + 1)) (sE z (rf ev 27 th) (sh E (mvR P k R) 0 (mvT P k R)))) := by
  have hp := hpr.1
  obtain ⟨hP, hN, hS, hE⟩ := C
  have bx := em_lt (x := x) hp
  have bY := em_lt (x := y) hp
  have bw := em_lt (x := w) hp
  obtain ⟨i1, i2, i3⟩ := q_mod (p := (P : Int)) (x := x) (y := y) (z := w)
  have ff : ∀ T : Int, 0 ≤ T → T < P → fit P ((x % P * T + y % P) * T + w % P) := by
    intro T t0 t1
    right
    have m1 := mb (X := 27064) (Y := 27064) (x := x % P) (y := T) (by omega) (by omega)
    have m2 := mb (X := 800000000) (Y := 27064) (x := x % P * T + y % P) (y := T) (by omega) (by omega)
    exact ⟨by omega, by omega⟩
  have fu : fit P (y % P * (y % P) - 4 * (x % P) * (w % P)) := by
    right
    have m1 := mb (X := 27064) (Y := 27064) (x := y % P) (y := y % P) (by omega) (by omega)
    have m2 := mb (X := 108256) (Y := 27064) (x := 4 * (x % P)) (y := w % P) (by omega) (by omega)
    exact ⟨by omega, by omega⟩
  have ku := k_unl (ev := ev) (z := z) (th := th) hP (by omega) (by omega) fu
  have hu : ∀ R : Nat, R < P → (nI R).toInt64 = ph R := fun R h => nI_L (by omega)
  constructor
  · intro hd
    unfold q_X1_tellByTurns_143
    rw [hP, nI_L (by omega), hv, ob_e, ku, hN]
    rcases k_root (ev := ev) (z := z) (th := th) hP (by omega) (by omega) ff with ⟨n1, n2⟩ | ⟨n1, R, n2, n3, n4⟩
    · refine ⟨2, Or.inr ⟨fun h => n1 (i2.mpr h), rfl⟩, ?_⟩
      rw [n2, ob_e, ob_e, if_neg (fun h => hd (i1.mp h)), if_neg (by decide), if_pos rfl, c_tell, ob_e, bd_e]
      rfl
    · refine ⟨4, Or.inl ⟨i2.mp n1, rfl⟩, ?_⟩
      have hR1 : ¬ nI R = (-1 : Int32) := by
        intro h
        have h1 := nI_toInt (n := R) (by omega)
        rw [h] at h1
        have : ((-1 : Int32)).toInt = -1 := by decide
        omega
      rw [n4, ob_e, ob_e, if_neg (fun h => hd (i1.mp h)), if_neg (by decide), if_neg hR1, c_tell, ob_e, bd_e]
      rfl
  · intro hd
    have hq : qr P (x % P) (y % P) (w % P) := i2.mpr (dsc_G hpr hx hd)
    unfold q_X1_tellByTurns_143
    rw [hP, nI_L (by omega), hv, ob_e, ku]
    rcases k_root (ev := ev) (z := z) (th := th) hP (by omega) (by omega) ff with ⟨n1, n2⟩ | ⟨n1, R, n2, n3, n4⟩
    · exact absurd hq n1
    · refine ⟨R, n2, (i3 R).mp n3, ?_⟩
      rw [n4, ob_e, ob_e, if_pos (i1.mpr hd), if_pos rfl, hu R n2]
      rcases he with ⟨ho, he⟩ | ⟨ho, he⟩
      · rw [ho, if_neg (by decide), c_power _ (by omega), ob_e, ph_mul, l0, c_shift hE, ob_e, bd_e, nI_s]
        unfold mvR mvT
        rw [if_pos ho, if_pos ho, he]
      · rw [ho, if_pos (by rfl), show nI e - (1 : Int32) = nI (e - 1) from i_sub (b := 1) (by omega), c_power _ (by omega), ob_e, ph_mul, l0, c_shift hE, ob_e, bd_e, nI_s]
        unfold mvR mvT
        rw [if_neg (by omega), if_neg (by omega), he]
theorem c_turn {ev : EV} {z : PS} {th P N : Nat} {E : Cv} (hpr : Pr P) (hp2 : P ≤ 27064) (C : CF ev z th P N E) {k : Nat} (hk1 : 1 ≤ k) (hkN : k ≤ N) (hN' : N < 900) (hpk : PK P (k + 5)) (f : ∀ j, fit P (co E j)) (h : NK P k E) {x y w : Int} (q : QK P k E x y w) (n : Nat) :
    (¬ (P : Int) ∣ y * y - 4 * x * w → ∃ c, ((qr P x y w ∧ c = 4) ∨ (¬ qr P x y w ∧ c = 2)) ∧ q_X1_tellByTurns_2 ev th (n + 1) (nI k) z = some (w32 (sT z th 6 ((nI N - 4) - nI k) (5 + nI k) (nI c)) 21 th (nI k))) ∧
    ((P : Int) ∣ y * y - 4 * x * w → ∃ R : Nat, R < P ∧ (P : Int) ∣ x * R * R + y * R + w ∧ q_X1_tellByTurns_2 ev th (n + 1) (nI k) z = q_X1_tellByTurns_2 ev th n (nI (k + 1)) (sE z (rf ev 27 th) (sh E (mvR P k R) 0 (mvT P k R)))) := by
  have hp := hpr.1
  have C0 := C
  obtain ⟨hP, hN, hS, hE⟩ := C
  have hlt : ¬ nI N < nI k := by rw [nI_ltI (by omega) (by omega)]; omega
  unfold QK at q
  by_cases ho : k % 2 = 1
  · rw [if_pos ho] at q
    obtain ⟨rfl, q3, q6⟩ := q
    obtain ⟨v1, g1, g2⟩ := k_pm (ev := ev) (n := (k + 3) / 2) hP (hpk.dn (by omega)) (a := y) (by rw [← q3]; exact f 2) (by omega)
    obtain ⟨v2, g3, g4⟩ := k_pmn (ev := ev) (n := 2 * ((k + 3) / 2)) hP (hpk.dn (by omega)) (by omega) (a := -w) (by rw [← q6]; exact f 4) (by omega)
    rw [← q3] at g1
    rw [← q6] at g3
    rw [Int.neg_neg] at g4
    have o1 : (1 : Int64) = ph (1 % (P : Int)) := by rw [Int.emod_eq_of_lt (by omega) (by omega)]; rfl
    have step : q_X1_tellByTurns_2 ev th (n + 1) (nI k) z = q_X1_tellByTurns_143 ev th (q_X1_tellByTurns_2 ev th n) (nI k) (nI (k % 2)) (nI ((k + 3) / 2)) (ph (1 % P)) (ph (y % P)) (-v2) z := by
      rw [q_X1_tellByTurns_2, hN, if_neg hlt, i_and1 (by omega), ho, if_pos (by rfl)]
      unfold q_X1_tellByTurns_22
      rw [if_neg (by decide)]
      unfold q_X1_tellByTurns_36
      rw [show nI k + (3 : Int32) = nI (k + 3) from i_add k 3, i_shr1 (by omega), bd_e, if_neg (by decide)]
      unfold q_X1_tellByTurns_67
      rw [if_neg (by decide)]
      unfold q_X1_tellByTurns_91
      rw [hE.a3, g1, ob_e, hP, nI_L (by omega), g2, ob_e, if_neg (by decide), hE.a6, i_mul2, g3, ob_e, ← o1]
      rfl
    rw [step]
    exact c_143 hpr hp2 C0 hk1 (by omega) (Or.inl ⟨ho, rfl⟩) (fun hd => by have := Int.le_of_dvd (by omega) hd; omega) g4 _
  · rw [if_neg ho] at q
    have ho' : k % 2 = 0 := by omega
    obtain ⟨q2, q4, q6⟩ := q
    obtain ⟨v0, g01, g02⟩ := k_pm (ev := ev) (n := 1) hP (hpk.dn (by omega)) (a := x) (by rw [Int.pow_one, ← q2]; exact f 1) (by omega)
    obtain ⟨v1, g1, g2⟩ := k_pm (ev := ev) (n := (k + 4) / 2) hP (hpk.dn (by omega)) (a := y) (by rw [← q4]; exact f 3) (by omega)
    obtain ⟨v2, g3, g4⟩ := k_pm (ev := ev) (n := 2 * ((k + 4) / 2) - 1) hP (hpk.dn (by omega)) (a := w) (by rw [← q6]; exact f 4) (by omega)
    rw [Int.pow_one, ← q2] at g01
    rw [← q4] at g1
    rw [← q6] at g3
    have hx : ¬ (P : Int) ∣ x := by
      intro ⟨u, hu⟩
      apply h.1
      rw [q2, hu]
      exact ⟨u, by grind⟩
    have step : q_X1_tellByTurns_2 ev th (n + 1) (nI k) z = q_X1_tellByTurns_143 ev th (q_X1_tellByTurns_2 ev th n) (nI k) (nI (k % 2)) (nI ((k + 4) / 2)) (ph (x % P)) (ph (y % P)) v2 z := by
      rw [q_X1_tellByTurns_2, hN, if_neg hlt, i_and1 (by omega), ho', if_neg (by decide)]
      unfold q_X1_tellByTurns_22
      rw [if_pos (by rfl)]
      unfold q_X1_tellByTurns_36
      rw [show nI k + (4 : Int32) = nI (k + 4) from i_add k 4, i_shr1 (by omega), bd_e, if_pos (by rfl), hE.a2]
      rw [show (1 : Int32) = nI 1 from rfl, g01, ob_e, hP, nI_L (by omega), g02, ob_e]
      unfold q_X1_tellByTurns_67
      rw [if_pos (by rfl)]
      unfold q_X1_tellByTurns_91
      rw [hE.a4, g1, ob_e, hP, nI_L (by omega), g2, ob_e, if_pos (by rfl), hE.a6, i_mul2, show nI (2 * ((k + 4) / 2)) - (1 : Int32) = nI (2 * ((k + 4) / 2) - 1) from i_sub (b := 1) (by omega), g3, ob_e]
      rfl
    rw [step]
    exact c_143 hpr hp2 C0 hk1 (by omega) (Or.inr ⟨ho', rfl⟩) hx g4 _
