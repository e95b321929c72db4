/-! primes up to 999983, at -/
theorem jn32 {a d : Nat} (ha : a < 2 ^ 31) (h0 : 0 < d) (hd : d < 2 ^ 31) : jr32 (nI a) (nI d) = nI (a % d) := pk_rem ha h0 hd
theorem nI_z {a : Nat} (ha : a < 2 ^ 31) : nI a = 0 ↔ a = 0 := by rw [← nI_0, nI_eq ha (by omega)]
theorem npr_dv {p q : Nat} (h : q ∣ p) (h2 : 2 ≤ q) (hl : q < p) : ¬ Pr p := fun hp => by rcases pr_div hp h with h1 | h1 <;> omega
theorem pr_low {p q : Nat} (h2 : 2 ≤ p) (hq : ∀ Q : Nat, Pr Q → Q < q → ¬ Q ∣ p) (hs : p < q * q) : Pr p := by
  refine pr_small h2 (fun Q h1 h3 => ?_)
  have : q ≤ Q := Nat.le_of_not_lt (fun hh => hq Q h1 hh h3)
  have := Nat.mul_le_mul this this
  omega
theorem pc_loop {p : Nat} (h4 : 4 ≤ p) (h9 : p ≤ 999983) : ∀ (d n q : Nat), q % 6 = 5 → 1006 ≤ q + 6 * d → q < 1012 → (∀ Q : Nat, Pr Q → Q < q → ¬ Q ∣ p) → (Pr p → q_X4_isPrime_37 (n + d + 1) (nI p) (nI q) = some 1) ∧ (¬ Pr p → q_X4_isPrime_37 (n + d + 1) (nI p) (nI q) = some 0) := by
  intro d
  induction d with
  | zero =>
    intro n q h6 hd hl hQ
    have hqq : 1006 * 1006 ≤ q * q := Nat.mul_le_mul (by omega) (by omega)
    have hqu : q * q ≤ 1012 * 1012 := Nat.mul_le_mul (by omega) (by omega)
    have hp := pr_low (by omega) hQ (show p < q * q by omega)
    refine ⟨fun _ => ?_, fun h => absurd hp h⟩
    rw [q_X4_isPrime_37, if_neg (by rw [show (46340 : Int32) = nI 46340 from rfl, nI_ltI (by omega) (by omega)]; omega), i_mulN, if_pos (by rw [nI_ltI (by omega) (by omega)]; omega)]
  | succ d ih =>
    intro n q h6 hd hl hQ
    have hqu : q * q ≤ 1012 * 1012 := Nat.mul_le_mul (by omega) (by omega)
    have st : q_X4_isPrime_37 (n + (d + 1) + 1) (nI p) (nI q) = if p < q * q then some 1 else if p % q = 0 then some 0 else if p % (q + 2) = 0 then some 0 else q_X4_isPrime_37 (n + d + 1) (nI p) (nI (q + 6)) := by
      have m1 := Nat.mod_lt p (show 0 < q by omega)
      have m2 := Nat.mod_lt p (show 0 < q + 2 by omega)
      rw [q_X4_isPrime_37, if_neg (by rw [show (46340 : Int32) = nI 46340 from rfl, nI_ltI (by omega) (by omega)]; omega), i_mulN, ck_e (nI_ne0 (by omega) (by omega)), show nI q + (2 : Int32) = nI (q + 2) from i_add q 2, ck_e (nI_ne0 (by omega) (by omega)), bd_e, show nI q + (6 : Int32) = nI (q + 6) from i_add q 6, jn32 (by omega) (by omega) (by omega), jn32 (by omega) (by omega) (by omega)]
      by_cases h : p < q * q
      · rw [if_pos (by rw [nI_ltI (by omega) (by omega)]; exact h), if_pos h]
      · rw [if_neg (by rw [nI_ltI (by omega) (by omega)]; exact h), if_neg h]
        by_cases h1 : p % q = 0
        · rw [if_pos ((nI_z (by omega)).mpr h1), if_pos h1]
        · rw [if_neg (fun e => h1 ((nI_z (by omega)).mp e)), if_neg h1]
          by_cases h2 : p % (q + 2) = 0
          · rw [if_pos ((nI_z (by omega)).mpr h2), if_pos h2]
          · rw [if_neg (fun e => h2 ((nI_z (by omega)).mp e)), if_neg h2]
            rfl
    rw [st]
    by_cases h : p < q * q
    · rw [if_pos h]
      exact ⟨fun _ => rfl, fun hh => absurd (pr_low (by omega) hQ h) hh⟩
    · rw [if_neg h]
      have h5 : 5 * q ≤ q * q := Nat.mul_le_mul_right q (by omega)
      by_cases h1 : p % q = 0
      · rw [if_pos h1]
        have np := npr_dv (Nat.dvd_of_mod_eq_zero h1) (by omega) (show q < p by omega)
        exact ⟨fun hh => absurd hh np, fun _ => rfl⟩
      · rw [if_neg h1]
        by_cases h2 : p % (q + 2) = 0
        · rw [if_pos h2]
          have np := npr_dv (Nat.dvd_of_mod_eq_zero h2) (by omega) (show q + 2 < p by omega)
          exact ⟨fun hh => absurd hh np, fun _ => rfl⟩
        · rw [if_neg h2]
          have lq : q < 1000 := by
            rcases Nat.lt_or_ge q 1000 with hh | hh
            · exact hh
            · have := Nat.mul_le_mul hh hh; omega
          refine ih n (q + 6) (by omega) (by omega) (by omega) (fun Q hQ1 hQ2 hdv => ?_)
          rcases (show Q < q ∨ Q = q ∨ Q = q + 1 ∨ Q = q + 2 ∨ Q = q + 3 ∨ Q = q + 4 ∨ Q = q + 5 by omega) with e | e | e | e | e | e | e
          · exact hQ Q hQ1 e hdv
          · subst e; exact h1 (Nat.mod_eq_zero_of_dvd hdv)
          · subst e; exact npr_2 (by omega) (by omega) hQ1
          · subst e; exact h2 (Nat.mod_eq_zero_of_dvd hdv)
          · subst e; exact npr_2 (by omega) (by omega) hQ1
          · subst e; exact npr_3 (by omega) (by omega) hQ1
          · subst e; exact npr_2 (by omega) (by omega) hQ1
theorem c_isP {p : Nat} (h9 : p ≤ 999983) : (Pr p → g_X4_isPrime (nI p) = some 1) ∧ (¬ Pr p → g_X4_isPrime (nI p) = some 0) := by
  unfold g_X4_isPrime
  by_cases h4 : 4 ≤ p
  · rw [if_pos (by rw [show (4 : Int32) = nI 4 from rfl, i_le (by omega) (by omega)]; exact h4), show (2 : Int32) = nI 2 from rfl, show (3 : Int32) = nI 3 from rfl, jn32 (by omega) (by omega) (by omega), jn32 (by omega) (by omega) (by omega)]
    by_cases e2 : p % 2 = 0
    · rw [if_pos ((nI_z (by omega)).mpr e2)]
      exact ⟨fun hh => absurd hh (npr_2 e2 (by omega)), fun _ => rfl⟩
    · rw [if_neg (fun e => e2 ((nI_z (by omega)).mp e))]
      by_cases e3 : p % 3 = 0
      · rw [if_pos ((nI_z (by omega)).mpr e3)]
        exact ⟨fun hh => absurd hh (npr_3 e3 (by omega)), fun _ => rfl⟩
      · rw [if_neg (fun e => e3 ((nI_z (by omega)).mp e))]
        obtain ⟨n, hn⟩ := FU_ge (d := 168) (by omega)
        have := pc_loop h4 h9 168 n 5 (by omega) (by omega) (by omega) (fun Q h1 h2 hd => by
          rcases (show Q = 0 ∨ Q = 1 ∨ Q = 2 ∨ Q = 3 ∨ Q = 4 by omega) with e | e | e | e | e
          · subst e; exact npr0 h1
          · subst e; exact npr1 h1
          · subst e; exact e2 (Nat.mod_eq_zero_of_dvd hd)
          · subst e; exact e3 (Nat.mod_eq_zero_of_dvd hd)
          · subst e; exact npr_2 (n := 4) (by omega) (by omega) h1)
        rw [hn]
        exact this
  · rw [if_neg (by rw [show (4 : Int32) = nI 4 from rfl, i_le (by omega) (by omega)]; exact h4)]
    rcases (show p = 0 ∨ p = 1 ∨ p = 2 ∨ p = 3 by omega) with e | e | e | e
    · subst e; rw [if_neg (by decide), if_neg (by decide)]; exact ⟨fun hh => absurd hh npr0, fun _ => rfl⟩
    · subst e; rw [if_neg (by decide), if_neg (by decide)]; exact ⟨fun hh => absurd hh npr1, fun _ => rfl⟩
    · subst e; rw [if_pos (by decide)]; exact ⟨fun _ => rfl, fun hh => absurd pr2' hh⟩
    · subst e; rw [if_neg (by decide), if_pos (by decide)]; exact ⟨fun _ => rfl, fun hh => absurd pr3' hh⟩
theorem c_isPn {l : Int32} (h : l < 0) : g_X4_isPrime l = some 0 := by
  have x0 : (0 : Int32).toInt = 0 := by decide
  have x2 : (2 : Int32).toInt = 2 := by decide
  have x3 : (3 : Int32).toInt = 3 := by decide
  have x4 : (4 : Int32).toInt = 4 := by decide
  rw [Int32.lt_iff_toInt_lt, x0] at h
  unfold g_X4_isPrime
  rw [if_neg (by rw [Int32.le_iff_toInt_le, x4]; omega), if_neg (fun e => by rw [e, x2] at h; omega), if_neg (fun e => by rw [e, x3] at h; omega)]
theorem mp_loop {p : Nat} (h2 : 2 ≤ p) (h9 : p ≤ 999983) : ∀ (d n q : Nat), 2 ≤ q → q + d = 1001 → (∀ Q : Nat, Pr Q → Q < q → ¬ Q ∣ p) → (Pr p → q_X8_isPrime_16 (n + d + 1) (ph p) (1 : Int32) (ph q) = some 1) ∧ (¬ Pr p → q_X8_isPrime_16 (n + d + 1) (ph p) (1 : Int32) (ph q) = some 0) := by
  intro d
  induction d with
  | zero =>
    intro n q hq hd hQ
    have hqq : 1001 * 1001 ≤ q * q := Nat.mul_le_mul (by omega) (by omega)
    have hqu : q * q ≤ 1001 * 1001 := Nat.mul_le_mul (by omega) (by omega)
    have e : ((q : Int) * q) = ((q * q : Nat) : Int) := by push_cast; rfl
    have hp := pr_low h2 hQ (show p < q * q by omega)
    refine ⟨fun _ => ?_, fun h => absurd hp h⟩
    rw [q_X8_isPrime_16, ph_mul, e, if_pos (by rw [ph_lt ⟨by omega, by omega⟩ ⟨by omega, by omega⟩]; omega), ck_e (by decide)]
  | succ d ih =>
    intro n q hq hd hQ
    have hqu : q * q ≤ 1001 * 1001 := Nat.mul_le_mul (by omega) (by omega)
    have e : ((q : Int) * q) = ((q * q : Nat) : Int) := by push_cast; rfl
    have jd : jr64 (ph p) (ph q) = (0 : Int64) ↔ q ∣ p := by rw [jr_0 (Or.inl ⟨by omega, by omega⟩) ⟨by omega, by omega⟩ (by omega), nd_int]
    have n0 : ¬ ph (q : Int) = 0 := by rw [l0, ph_eq ⟨by omega, by omega⟩ z_R]; omega
    have es : ph (q : Int) + (1 : Int64) = ph ((q + 1 : Nat) : Int) := by rw [l1, ph_add]; rfl
    rw [q_X8_isPrime_16, ph_mul, e]
    by_cases h : p < q * q
    · rw [if_pos (by rw [ph_lt ⟨by omega, by omega⟩ ⟨by omega, by omega⟩]; omega), ck_e (by decide)]
      exact ⟨fun _ => rfl, fun hh => absurd (pr_low h2 hQ h) hh⟩
    · rw [if_neg (by rw [ph_lt ⟨by omega, by omega⟩ ⟨by omega, by omega⟩]; omega), if_neg ne10, ck_e n0, bd_e, bd_e, es]
      by_cases h1 : q ∣ p
      · rw [if_pos (jd.mpr h1)]
        have h5 : 2 * q ≤ q * q := Nat.mul_le_mul_right q (by omega)
        have np := npr_dv h1 (by omega) (show q < p by omega)
        refine ⟨fun hh => absurd hh np, fun _ => ?_⟩
        rw [show n + (d + 1) = n + d + 1 from rfl, q_X8_isPrime_16, if_pos rfl, ck_e (by decide)]
        split <;> rfl
      · rw [if_neg (fun e => h1 (jd.mp e))]
        exact ih n (q + 1) (by omega) (by omega) (fun Q hQ1 hQ2 hdv => by
          rcases (show Q < q ∨ Q = q by omega) with e | e
          · exact hQ Q hQ1 e hdv
          · subst e; exact h1 hdv)
theorem m_isP {p : Nat} (h2 : 2 ≤ p) (h9 : p ≤ 999983) : (Pr p → g_X8_isPrime (ph p) = some 1) ∧ (¬ Pr p → g_X8_isPrime (ph p) = some 0) := by
  obtain ⟨n, hn⟩ := FU_ge (d := 999) (by omega)
  unfold g_X8_isPrime
  rw [if_neg (by rw [l1, ph_le ⟨by omega, by omega⟩ ⟨by omega, by omega⟩]; omega), hn]
  exact mp_loop h2 h9 999 n 2 (by omega) (by omega) (fun Q h1 h3 _ => by
    rcases (show Q = 0 ∨ Q = 1 by omega) with e | e
    · subst e; exact npr0 h1
    · subst e; exact npr1 h1)
/-- a prime up to M -/
def PRM (M : Nat) (l : Int32) : Prop := ∃ p : Nat, Pr p ∧ p ≤ M ∧ l = nI p
theorem c_pr {M : Nat} (hM : M ≤ 999983) (l : Int32) : (PRM M l → ¬ nI M < l ∧ g_X4_isPrime l = some 1) ∧ (¬ PRM M l → nI M < l ∨ (¬ nI M < l ∧ g_X4_isPrime l = some 0)) := by
  constructor
  · intro ⟨p, p1, p2, p3⟩
    subst p3
    exact ⟨by rw [nI_ltI (by omega) (by omega)]; omega, (c_isP (by omega)).1 p1⟩
  · intro h
    by_cases h1 : nI M < l
    · exact Or.inl h1
    · refine Or.inr ⟨h1, ?_⟩
      by_cases h0 : l < 0
      · exact c_isPn h0
      · obtain ⟨j, j1, rfl⟩ := nI_of h0
        rw [nI_ltI (by omega) (by omega)] at h1
        exact (c_isP (by omega)).2 (fun hp => h ⟨j, hp, by omega, rfl⟩)
theorem m_pr {M : Nat} (hM : M ≤ 999983) (l : Int32) : (PRM M l → g_X8_within l.toInt64 (2 : Int64) (ph M) = some 1 ∧ g_X8_isPrime l.toInt64 = some 1) ∧ (¬ PRM M l → g_X8_within l.toInt64 (2 : Int64) (ph M) = some 0 ∨ (g_X8_within l.toInt64 (2 : Int64) (ph M) = some 1 ∧ g_X8_isPrime l.toInt64 = some 0)) := by
  have hw := m_within (v := l.toInt) (a := 2) (b := M) (i_in l) ⟨by omega, by omega⟩ ⟨by omega, by omega⟩
  rw [← i64 l, show ph 2 = (2 : Int64) from rfl] at hw
  constructor
  · intro ⟨p, p1, p2, p3⟩
    subst p3
    have p0 := pr_2 p1
    rw [nI_toInt (by omega), if_pos (by omega)] at hw
    exact ⟨hw, by rw [nI_L (by omega)]; exact (m_isP p0 (by omega)).1 p1⟩
  · intro h
    by_cases h1 : 2 ≤ l.toInt ∧ l.toInt ≤ M
    · rw [if_pos h1] at hw
      refine Or.inr ⟨hw, ?_⟩
      have e : l = nI l.toInt.toNat := by apply Int32.toInt_inj.mp; rw [nI_toInt (by omega)]; omega
      rw [e, nI_L (by omega)]
      exact (m_isP (by omega) (by omega)).2 (fun hp => h ⟨_, hp, by omega, e⟩)
    · rw [if_neg h1] at hw
      exact Or.inl hw
theorem rv_k {P : Nat} {L : Cv} {v : Nat → Int32} (h : RekG P L v) : (∃ k, k < 10 ∧ v 0 = nI k) ∧ (v 6 = 0 ∨ v 6 = 1) := by
  rcases h with ⟨-, h⟩ | ⟨-, N, -, -, h⟩
  · exact ⟨⟨0, by omega, h 0 (by omega)⟩, Or.inl (h 6 (by omega))⟩
  · rcases h with ⟨-, sp, hs, h⟩ | ⟨-, E1, k, i, c, -, -, -, ho, hk, h⟩
    · refine ⟨⟨1, by omega, h 0 (by omega)⟩, ?_⟩
      have h6 : v 6 = nI sp := h 6 (by omega)
      rw [h6]
      rcases hs with ⟨-, ⟨-, e⟩ | ⟨-, e⟩⟩ | ⟨-, ⟨-, e⟩ | ⟨-, e⟩⟩ <;> subst e
      · exact Or.inr rfl
      · exact Or.inl rfl
      · exact Or.inr rfl
      · exact Or.inl rfl
    · have k10 : k < 10 := by
        rcases ho with ⟨-, e, -⟩ | ⟨-, -, e, -⟩ | ⟨-, -, -, e, -⟩ | ⟨-, -, -, E2, -, -, b, cc, d, -, -, -, ho⟩
        · omega
        · omega
        · omega
        · rcases ho with ⟨-, e, -⟩ | ⟨-, -, e, -⟩ | ⟨-, -, -, E3, -, -, y, z, -, -, ho⟩
          · omega
          · omega
          · rcases ho with ⟨-, e, -⟩ | ⟨-, E4, -, -, ⟨-, e, -⟩ | ⟨-, -, e, -⟩⟩ <;> omega
      refine ⟨⟨k, k10, ?_⟩, Or.inl ?_⟩
      · rw [h 0 (by omega)]; unfold ansv; rw [if_neg hk]; rfl
      · rw [h 6 (by omega)]; unfold ansv; rw [if_neg hk]; rfl
theorem op_at {ev : EV} {th m : Nat} (S : Sep ev th m) {z : PS} (I : IV ev th m z) (l1 l2 l3 : Int32) : OP ev th m (g_X7_at ev z th l1 l2 l3) (fun z1 => g_X8_at ev z1 m l1 l2 l3) := by
  obtain ⟨n, C, L, U, I⟩ := I
  have hD := S.2.2.2
  have h16 := I.1.2.1
  have M0 := I.2.fm hD (w120 ev m z 0)
  have w0 := IV.w0 S I (NEU.rf ev th m z) (MU.rf ev m z) 0
  have wh := m_within (v := l3.toInt) (a := 0) (b := 7) (i_in l3) ⟨by omega, by omega⟩ ⟨by omega, by omega⟩
  rw [← i64 l3, show ph 0 = (0 : Int64) from rfl, show ph 7 = (7 : Int64) from rfl] at wh
  have x0 : (0 : Int32).toInt = 0 := by decide
  have x7 : (7 : Int32).toInt = 7 := by decide
  by_cases hc : ∃ c, c < n ∧ l1 = nI c
  · obtain ⟨c, c1, rfl⟩ := hc
    obtain ⟨f1, f2, f3, f4, f5⟩ := I.1.he c1
    have hp := f4.pq
    by_cases hw : 0 ≤ l3.toInt ∧ l3.toInt ≤ 7
    · rw [if_pos hw] at wh
      have a0 : ¬ l3 < 0 := by rw [Int32.lt_iff_toInt_lt, x0]; omega
      have a7 : ¬ (7 : Int32) < l3 := by rw [Int32.lt_iff_toInt_lt, x7]; omega
      obtain ⟨w, w1, w2⟩ : ∃ w : Nat, w < 8 ∧ l3 = nI w := ⟨l3.toInt.toNat, by omega, by apply Int32.toInt_inj.mp; rw [nI_toInt (by omega)]; omega⟩
      subst w2
      by_cases hP : PRM 999983 l2
      · obtain ⟨q1, q2⟩ := (c_pr (by omega) l2).1 hP
        obtain ⟨q3, q4⟩ := (m_pr (by omega) l2).1 hP
        obtain ⟨p, p1, p2, p3⟩ := hP
        subst p3
        have p0 := pr_2 p1
        obtain ⟨k, w', k1, k2, k3⟩ := val_ex p1 ((U c).natAbs + 1) (U c) hp.1.pos (by omega)
        have mod : ∀ z1, MI ev m z1 n C → ∃ z', g_X8_at ev z1 m (nI c) (nI p) (nI w) = some (rI z' (rf ev 127 m) w, z') ∧ FM ev m z1 z' ∧ rI z' (rf ev 127 m) 7 = nI k ∧ (∀ j, j < 6 → rI z' (rf ev 127 m) j = rvl p (L c) j) ∧ rI z' (rf ev 127 m) 6 = rvl p (L c) 6 := by
          intro z1 M1
          have M1' := M1.fm hD (w120 ev m z1 0)
          obtain ⟨z', g1, g2, g3, g4, g5⟩ := hp.1.lays (hD.ne 123 129) (AM_sA ev m (w32 z1 120 m 0) (C c)) p1 (by omega) (hp.1.rv ev p1 (by omega)) k1 k2
          refine ⟨z', ?_, ((w120 ev m z1 0).tr (FM_sA ev m _ (C c) (Or.inl rfl))).tr g2.fm, g3, g4, g5 p2⟩
          unfold g_X8_at
          rw [bd_e, m_th1 M1'.1.2.1 h16 c1, ob_e, if_neg ne10, show (999983 : Int64) = ph ((999983 : Nat) : Int) from rfl, q3, ob_e, if_neg ne10, q4, ob_e, if_neg ne10, wh, ob_e, if_neg ne10, n_loads hD M1'.1 c1, ob_e, nI_L (by omega), g1, ob_e, ck_e (inB_n w1 (by omega)), nI_clamp (by omega)]
        have e7 := Eq.refl (g_X7_at ev z th (nI c) (nI p) (nI w))
        conv at e7 =>
          rhs
          unfold g_X7_at
          rw [c_th1 I.1.1 h16 c1, ob_e, if_neg ne10, if_neg a0, if_neg a7, show (999983 : Int32) = nI 999983 from rfl, if_neg q1, q2, ob_e, if_neg ne10]
        by_cases h7 : w = 7
        · subst h7
          rw [if_pos (show nI 7 = (7 : Int32) from rfl), ck_e (inB_n (show c < 16 by omega) (by omega)), nI_clamp (by omega), f3, nI_L (by omega)] at e7
          have uR := (hp.1.ur (e := 1) (by omega)).2.1
          rw [Int.pow_one] at uR
          obtain ⟨v, v1, v2, v3, v4⟩ := c_times (p := p) (x := U c) (by omega) (by omega) (by have := hp.1.pos; omega) uR
          rw [v4, ob_e] at e7
          have ev : v = k := v_one v2 v3 ⟨w', by rw [k1]; exact Int.mul_comm _ _⟩ (fun hd => k2 (by
            obtain ⟨y, hy⟩ := hd
            refine ⟨y, ?_⟩
            apply Int.eq_of_mul_eq_mul_left (a := (p : Int) ^ k) (Int.pow_ne_zero p1.ne)
            rw [Int.mul_comm, ← k1, hy, Int.pow_succ]; exact Int.mul_assoc _ _ _))
          obtain ⟨z', m1, m2, m3, -, -⟩ := mod z I.2
          refine ⟨nI v, z, z', e7, ?_, IV.mk (INV.fm S I.1 I.2 (MU.rf _ m z) m2)⟩
          dsimp only
          rw [m1, m3, ev]
        · rw [if_neg (show ¬ nI w = (7 : Int32) from nI_ne (b := 7) (by omega) (by omega) h7), ck_e (inB_n (show c < 16 by omega) (by omega)), nI_clamp (by omega)] at e7
          obtain ⟨z1, r1, r2, r3, r4⟩ := c_rk hD hp.1 (fl := rf ev 103 th) (S.l3 (show c < 16 by omega)) f2 p1 (by omega)
          rw [r1, ob_e] at e7
          obtain ⟨-, r6⟩ := rv_k (hp.1.rv ev p1 (by omega))
          obtain ⟨z', m1, m2, -, m4, m5⟩ := mod z1 (I.2.mu r2.mu)
          have val : g_X1_value ev z1 (rf ev 103 th) (nI w) = some (rI z' (rf ev 127 m) w) := by
            rcases (show w = 0 ∨ w = 1 ∨ w = 2 ∨ w = 3 ∨ w = 4 ∨ w = 5 ∨ w = 6 by omega) with e | e | e | e | e | e | e <;> subst e
            · rw [m4 0 (by omega), ← r3 0 (by omega)]; rfl
            · rw [m4 1 (by omega), ← r3 1 (by omega)]; rfl
            · rw [m4 2 (by omega), ← r3 2 (by omega)]; rfl
            · rw [m4 3 (by omega), ← r3 3 (by omega)]; rfl
            · rw [m4 4 (by omega), ← r3 4 (by omega)]; rfl
            · rw [m4 5 (by omega), ← r3 5 (by omega)]; rfl
            · unfold g_X1_value
              rw [if_neg (by decide), if_neg (by decide), if_neg (by decide), if_neg (by decide), if_neg (by decide), if_neg (by decide), r4 p2, m5]
              rcases r6 with e | e
              · rw [e, if_pos rfl]
              · rw [e, if_neg ne10]
          rw [val, ob_e] at e7
          exact ⟨_, z1, z', e7, m1, IV.mk (INV.fm S (I.1.neu S r2.neu) I.2 r2.mu m2)⟩
      · refine ⟨-1, z, w32 z 120 m 0, ?_, ?_, w0⟩
        · unfold g_X7_at
          rw [c_th1 I.1.1 h16 c1, ob_e, if_neg ne10, if_neg a0, if_neg a7, show (999983 : Int32) = nI 999983 from rfl]
          rcases (c_pr (by omega) l2).2 hP with h | ⟨h, h'⟩
          · rw [if_pos h]
          · rw [if_neg h, h', ob_e, if_pos rfl]
        · dsimp only
          unfold g_X8_at
          rw [bd_e, m_th1 M0.1.2.1 h16 c1, ob_e, if_neg ne10, show (999983 : Int64) = ph ((999983 : Nat) : Int) from rfl]
          rcases (m_pr (M := 999983) (by omega) l2).2 hP with h | ⟨h, h'⟩
          · rw [h, ob_e, if_pos rfl]
          · rw [h, ob_e, if_neg ne10, h', ob_e, if_pos rfl]
    · rw [if_neg hw] at wh
      refine ⟨-1, z, w32 z 120 m 0, ?_, ?_, w0⟩
      · unfold g_X7_at
        rw [c_th1 I.1.1 h16 c1, ob_e, if_neg ne10]
        by_cases h0 : l3 < 0
        · rw [if_pos h0]
        · rw [if_neg h0, if_pos (by rw [Int32.lt_iff_toInt_lt, x0] at h0; rw [Int32.lt_iff_toInt_lt, x7]; omega)]
      · dsimp only
        unfold g_X8_at
        rw [bd_e, m_th1 M0.1.2.1 h16 c1, ob_e, if_neg ne10, show (999983 : Int64) = ph ((999983 : Nat) : Int) from rfl]
        by_cases hP : PRM 999983 l2
        · obtain ⟨q3, q4⟩ := (m_pr (by omega) l2).1 hP
          rw [q3, ob_e, if_neg ne10, q4, ob_e, if_neg ne10, wh, ob_e, if_pos rfl]
        · rcases (m_pr (M := 999983) (by omega) l2).2 hP with h | ⟨h, h'⟩
          · rw [h, ob_e, if_pos rfl]
          · rw [h, ob_e, if_neg ne10, h', ob_e, if_pos rfl]
  · refine ⟨-1, z, w32 z 120 m 0, ?_, ?_, w0⟩
    · unfold g_X7_at; rw [c_th0 I.1.1 h16 hc, ob_e, if_pos rfl]
    · dsimp only; unfold g_X8_at; rw [bd_e, m_th0 M0.1.2.1 h16 hc, ob_e, if_pos rfl]
