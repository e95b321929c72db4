/-! the model's fallsFar -/
theorem i_div {a b : Nat} (ha : a < 1000) (hb : b < 1000) (hb0 : 0 < b) : nI a / nI b = nI (a / b) := by
  apply Int32.toInt_inj.mp
  have hq : a / b ≤ a := Nat.div_le_self a b
  rw [Int32.toInt_div, nI_toInt (n := a) (by omega), nI_toInt (n := b) (by omega), nI_toInt (n := a / b) (by omega), td_nn (by omega)]
  have : ((a : Int) / b) = ((a / b : Nat) : Int) := by rfl
  rw [this]
  generalize a / b = q at *
  exact Int.bmod_eq_of_le (by omega) (by omega)
theorem i_mulN (a b : Nat) : nI a * nI b = nI (a * b) := by
  unfold nI
  rw [← Int32.ofNat_mul]
theorem m_less {a b : Nat} (ha : a < 1000) (hb : b < 1000) : g_X8_lesser (nI a) (nI b) = some (nI (min a b)) := by
  unfold g_X8_lesser
  by_cases h : b ≤ a
  · rw [if_pos ((i_le (by omega) (by omega)).mpr h)]; congr 2; omega
  · rw [if_neg (fun h' => h ((i_le (by omega) (by omega)).mp h'))]; congr 2; omega
/-- times, with 99 for 0 -/
def tv (P : Nat) (x : Int) (n : Nat) : Prop := (x = 0 ∧ n = 99) ∨ (x ≠ 0 ∧ n < 63 ∧ (P : Int) ^ n ∣ x ∧ ¬ (P : Int) ^ (n + 1) ∣ x)
theorem m_tv {P : Nat} (hp : Pr P) (hp2 : P < 2147483648) {x : Int} (hb : b9 x) : ∃ n, tv P x n ∧ n < 100 ∧ g_X8_times (ph P) (ph x) = some (nI n) := by
  by_cases hx : x = 0
  · subst hx
    exact ⟨99, Or.inl ⟨rfl, rfl⟩, by omega, by unfold g_X8_times; rw [if_pos (by rfl)]; rfl⟩
  · obtain ⟨v, h1, h2, h3, h4⟩ := n_times (p := P) (x := x) hp.1 (by omega) hx hb
    exact ⟨v, Or.inr ⟨hx, h1, h2, h3⟩, by omega, h4⟩
theorem dv_sc {P : Nat} (hp : Pr P) {y w : Int} (hw : ¬ (P : Int) ∣ w) (a b j : Nat) : (P : Int) ^ (a + b) ∣ (P : Int) ^ a * (w ^ j * y) ↔ (P : Int) ^ b ∣ y := by
  have nwj : ¬ (P : Int) ∣ w ^ j := fun h => hw (hp.pow j h)
  rw [Int.pow_add]
  constructor
  · intro ⟨q, hq⟩
    apply hp.can nwj b
    refine ⟨q, ?_⟩
    apply Int.eq_of_mul_eq_mul_left (a := (P : Int) ^ a) (Int.pow_ne_zero hp.ne)
    rw [hq]; grind
  · intro ⟨q, hq⟩
    exact ⟨w ^ j * q, by rw [hq]; grind⟩
theorem tv_lo {P : Nat} {x : Int} {n a : Nat} (h : tv P x n) (ha : (P : Int) ^ a ∣ x) : x = 0 ∧ n = 99 ∨ a ≤ n := by
  rcases h with h | ⟨h0, h1, h2, h3⟩
  · exact Or.inl h
  · right
    rcases Nat.lt_or_ge n a with h | h
    · exact absurd (dv_pow ha (by omega)) h3
    · exact h
theorem tv_hi {P : Nat} {x : Int} {n a : Nat} (h : tv P x n) (ha : ¬ (P : Int) ^ a ∣ x) : n < a := by
  rcases h with ⟨h, -⟩ | ⟨h0, h1, h2, h3⟩
  · subst h; exact absurd ⟨0, by omega⟩ ha
  · rcases Nat.lt_or_ge n a with h | h
    · exact h
    · exact absurd (dv_pow h2 h) ha
theorem sc_pw {L : Cv} {w p : Int} {k : Nat} : c4 (sc L (w * p ^ k)) = p ^ (4 * k) * (w ^ 4 * c4 L) ∧ c6 (sc L (w * p ^ k)) = p ^ (6 * k) * (w ^ 6 * c6 L) ∧ dd (sc L (w * p ^ k)) = p ^ (12 * k) * (w ^ 12 * dd L) := by
  rw [c4_sc, c6_sc, dd_sc]
  have e : ∀ n : Nat, (w * p ^ k) ^ n = w ^ n * p ^ (n * k) := by
    intro n
    rw [Int.mul_pow, ← Int.pow_mul, Nat.mul_comm]
  rw [e, e, e]
  refine ⟨by grind, by grind, by grind⟩
/-- Min, for p above 3, by c4 and c6 -/
def MinF (P : Nat) (L : Cv) : Prop := ¬ ((P : Int) ^ 4 ∣ c4 L ∧ (P : Int) ^ 6 ∣ c6 L)
theorem pw_fermat {P : Nat} (hp : Pr P) (h3 : 3 ≤ P) {c w : Int} (hw : ¬ (P : Int) ∣ w) : (P : Int) ∣ (-(w ^ 6 * c)) ^ ((P - 1) / 2) - 1 ↔ (P : Int) ∣ (-c) ^ ((P - 1) / 2) - 1 := by
  have ho := hp.odd h3
  have hw3 : ¬ (P : Int) ∣ w ^ 3 := fun h => hw (hp.pow 3 h)
  have hf := fermat1 hp hw3
  have e1 : (-(w ^ 6 * c)) ^ ((P - 1) / 2) = (w ^ 3) ^ (P - 1) * (-c) ^ ((P - 1) / 2) := by
    have : -(w ^ 6 * c) = (w ^ 3 * w ^ 3) * (-c) := by
      have : w ^ 6 = w ^ 3 * w ^ 3 := by rw [← Int.pow_add]
      rw [this]; grind
    rw [this, Int.mul_pow, Int.mul_pow, ← Int.pow_add]
    congr 2; omega
  rw [e1]
  obtain ⟨q, hq⟩ := hf
  apply Iff.symm
  apply dv_iff
  exact ⟨q * (-c) ^ ((P - 1) / 2), by
    have : (w ^ 3) ^ (P - 1) = P * q + 1 := by omega
    rw [this]; grind⟩
theorem m_far {ev : EV} {m P : Nat} {z : PS} {E L : Cv} {w : Int} {k : Nat} {v : Nat → Int32} (A : AM ev m z E) (hp : Pr P) (h5 : 5 ≤ P) (hP : P < 2147483648) (hw : ¬ (P : Int) ∣ w) (hE : Eqv E (sc L (w * (P : Int) ^ k))) (b4 : b9 (c4 E)) (b6 : b9 (c6 E)) (bd : b9 (dd E)) (hd0 : dd E ≠ 0) (hmin : MinF P L) (hv : RekG P L v) (h165 : (P : Int) ∣ c4 L → (P : Int) ^ 4 ∣ dd L → P ≤ 165) (h30 : (P : Int) ∣ c4 L → (P : Int) ^ 6 ∣ dd L → P ≤ 30) :
    ∃ z', g_X8_fallsFar ev z m (ph P) = some z' ∧ Fr ev m z z' ∧ rI z' (rf ev 127 m) 7 = nI k ∧ (∀ j, j < 6 → rI z' (rf ev 127 m) j = v j) ∧ (P ≤ 999983 → rI z' (rf ev 127 m) 6 = v 6) := by
  obtain ⟨s4, s6, s12⟩ := sc_pw (L := L) (w := w) (p := (P : Int)) (k := k)
  rw [hE.c4] at s4
  rw [hE.c6] at s6
  rw [hE.dd] at s12
  obtain ⟨n4, t4, u4, g4⟩ := m_tv hp hP b4
  obtain ⟨n6, t6, u6, g6⟩ := m_tv hp hP b6
  obtain ⟨n12, t12, u12, g12⟩ := m_tv hp hP bd
  have l4 := tv_lo t4 (a := 4 * k) ⟨_, s4⟩
  have l6 := tv_lo t6 (a := 6 * k) ⟨_, s6⟩
  have l12 := tv_lo t12 (a := 12 * k) ⟨_, s12⟩
  have n12lt : n12 < 63 := by rcases t12 with ⟨h, -⟩ | ⟨-, h, -⟩
                              · exact absurd h hd0
                              · exact h
  have hk5 : k ≤ 5 := by rcases l12 with ⟨h, -⟩ | h
                         · exact absurd h hd0
                         · omega
  have hhi : n4 < 4 * k + 4 ∨ n6 < 6 * k + 6 := by
    by_cases h : (P : Int) ^ 4 ∣ c4 L
    · right
      refine tv_hi t6 ?_
      rw [s6, dv_sc hp hw]
      exact fun h' => hmin ⟨h, h'⟩
    · left
      refine tv_hi t4 ?_
      rw [s4, dv_sc hp hw]
      exact h
  have hmk : min (min (n4 / 4) (n6 / 6)) (n12 / 12) = k := by
    rcases l12 with ⟨h, -⟩ | l12
    · exact absurd h hd0
    · omega
  have hR : ∀ {x : Int}, b9 x → inR x := fun h => ⟨by have := h.1; omega, by have := h.2; omega⟩
  have kk : PK P (12 * k) := PK_D (by omega) hP hd0 bd (fun h => by omega) ⟨_, s12⟩
  have wo4 : g_X8_without (ph (c4 E)) (ph P) (nI (4 * k)) = some (ph (w ^ 4 * c4 L)) := by rw [s4]; exact m_without (kk.dn (by omega)) (by omega) (by rw [← s4]; exact hR b4)
  have wo6 : g_X8_without (ph (c6 E)) (ph P) (nI (6 * k)) = some (ph (w ^ 6 * c6 L)) := by rw [s6]; exact m_without (kk.dn (by omega)) (by omega) (by rw [← s6]; exact hR b6)
  have wo12 : g_X8_without (ph (dd E)) (ph P) (nI (12 * k)) = some (ph (w ^ 12 * dd L)) := by rw [s12]; exact m_without kk (by omega) (by rw [← s12]; exact hR bd)
  have shrink : ∀ {q x y : Int}, 0 < q → x = q * y → b9 x → b9 y := by
    intro q x y hq e hb
    have := dv_bnd (m := 1) (by omega) (show 1 ≤ q by omega) (show -9000000000000000000 ≤ q * y ∧ q * y ≤ 9000000000000000000 by rw [← e]; exact hb)
    exact ⟨by omega, by omega⟩
  have bx : b9 (w ^ 4 * c4 L) := shrink (kk.dn (j := 4 * k) (by omega)).2.2.1 s4 b4
  have bY : b9 (w ^ 6 * c6 L) := shrink (kk.dn (j := 6 * k) (by omega)).2.2.1 s6 b6
  have bz : b9 (w ^ 12 * dd L) := shrink kk.2.2.1 s12 bd
  have hz0 : w ^ 12 * dd L ≠ 0 := by intro h; rw [h, Int.mul_zero] at s12; exact hd0 s12
  have hdL0 : dd L ≠ 0 := by intro h; rw [h, Int.mul_zero] at hz0; exact hz0 rfl
  have hw0 : w ≠ 0 := by intro h; subst h; exact hw ⟨0, by omega⟩
  have bdL : b9 (dd L) := by
    have hw12 : 0 < w ^ 12 := by
      have h6 : w ^ 6 ≠ 0 := Int.pow_ne_zero hw0
      have e : w ^ 12 = w ^ 6 * w ^ 6 := by rw [← Int.pow_add]
      rw [e]
      rcases (show w ^ 6 < 0 ∨ 0 < w ^ 6 by omega) with h | h
      · have := Int.mul_pos_of_neg_of_neg h h; exact this
      · exact Int.mul_pos h h
    exact shrink hw12 rfl bz
  have dvD : ∀ b, (P : Int) ^ b ∣ w ^ 12 * dd L ↔ (P : Int) ^ b ∣ dd L := by
    intro b
    have := dv_sc hp (y := dd L) hw 0 b 12
    rw [Int.pow_zero, Int.one_mul, Nat.zero_add] at this
    exact this
  have dvX : ∀ b, (P : Int) ^ b ∣ w ^ 4 * c4 L ↔ (P : Int) ^ b ∣ c4 L := by
    intro b
    have := dv_sc hp (y := c4 L) hw 0 b 4
    rw [Int.pow_zero, Int.one_mul, Nat.zero_add] at this
    exact this
  generalize ho : g_X8_fallsFar ev z m (ph P) = o
  unfold g_X8_fallsFar at ho
  have d4 : nI n4 / (4 : Int32) = nI (n4 / 4) := i_div (b := 4) (by omega) (by omega) (by omega)
  have d6 : nI n6 / (6 : Int32) = nI (n6 / 6) := i_div (b := 6) (by omega) (by omega) (by omega)
  have d12 : nI n12 / (12 : Int32) = nI (n12 / 12) := i_div (b := 12) (by omega) (by omega) (by omega)
  have m4 : (4 : Int32) * nI k = nI (4 * k) := i_mulN 4 k
  have m6 : (6 : Int32) * nI k = nI (6 * k) := i_mulN 6 k
  have m12 : (12 : Int32) * nI k = nI (12 * k) := i_mulN 12 k
  rw [n_c4 A, ob_e, n_c6 A, ob_e, n_dd A, ob_e, g4, ob_e, g6, ob_e, d4, d6, m_less (by omega) (by omega), ob_e, g12, ob_e, d12, m_less (by omega) (by omega), ob_e, hmk, m4, wo4, ob_e, m6, wo6, ob_e, m12, wo12, ob_e, bd_e] at ho
  have F1 := Fr_at ev m z 7 (nI k)
  have r7 : rI (wI z (rf ev 127 m) 7 (nI k)) (rf ev 127 m) 7 = nI k := by simp [wI, rI]
  generalize wI z (rf ev 127 m) 7 (nI k) = z1 at *
  rcases hv with ⟨q1, q2⟩ | ⟨q1, N, q2, q3, q4⟩
  · have tz := m_tme hp hP bz (n := 0) (by rw [Int.pow_zero]; exact Int.one_dvd _) (by rw [Nat.zero_add, dvD, Int.pow_one]; exact q1)
    rw [tz, ob_e, if_pos (by rfl), m_is, ob_e] at ho
    obtain ⟨v0, v1, v2, v3, v4, v5, v6, v7⟩ := sI_v z1 (rf ev 127 m) 0 0 0 1 1 0
    have all : ∀ j, j < 7 → rI (sI z1 (rf ev 127 m) 0 0 0 1 1 0) (rf ev 127 m) j = v j := by
      intro j hj
      rw [q2 j hj]
      rcases (show j = 0 ∨ j = 1 ∨ j = 2 ∨ j = 3 ∨ j = 4 ∨ j = 5 ∨ j = 6 by omega) with rfl | rfl | rfl | rfl | rfl | rfl | rfl
      · rw [v0]; rfl
      · rw [v1]; rfl
      · rw [v2]; rfl
      · rw [v3]; rfl
      · rw [v4]; rfl
      · rw [v5]; rfl
      · rw [v6]; rfl
    exact ⟨_, ho.symm, F1.tr (sI_fr ev m z1 _ _ _ _ _ _), by rw [v7, r7], fun j hj => all j (by omega), fun _ => all 6 (by omega)⟩
  · have tz := m_tme hp hP bz (n := N) (by rw [dvD]; exact q2) (by rw [dvD]; exact q3)
    have hN0 : N ≠ 0 := by
      intro h; subst h; rw [Nat.zero_add, Int.pow_one] at q3; exact q3 q1
    have hN63 : N < 63 := by
      obtain ⟨n', h1, h2, h3⟩ := m_tv hp hP bz
      rw [tz] at h3
      rcases h1 with ⟨h, -⟩ | ⟨-, h, h', h''⟩
      · exact absurd h hz0
      · have := v_one h' h'' (by rw [dvD]; exact q2) (by rw [dvD]; exact q3)
        omega
    rw [tz, ob_e, if_neg (nI_ne0 (by omega) (by omega))] at ho
    rcases q4 with ⟨c4n, sp, s1, s2⟩ | ⟨c4d, E1, kk', i, c, e1, e2, e3, e4, e5, e6⟩
    · have tx := m_tme hp hP bx (n := 0) (by rw [Int.pow_zero]; exact Int.one_dvd _) (by rw [Nat.zero_add, dvX, Int.pow_one]; exact c4n)
      rw [tx, ob_e, if_pos (by rfl)] at ho
      have hs2 : sp = 0 ∨ sp = 1 := by
        rcases s1 with ⟨-, h | h⟩ | ⟨-, h | h⟩ <;> omega
      have Spl' : ((P : Int) ∣ (-c6 L) ^ ((P - 1) / 2) - 1 ∧ sp = 1) ∨ (¬ (P : Int) ∣ (-c6 L) ^ ((P - 1) / 2) - 1 ∧ sp = 0) := by
        rcases s1 with ⟨h, -⟩ | ⟨-, h⟩
        · omega
        · exact h
      have f163 : ∀ sp' : Nat, (sp' = 0 ∨ sp' = 1) → ∃ z', q_X8_fallsFar_163 ev m (nI N) (nI sp') z1 = some z' ∧ AnsM ev m z1 z' N 1 0 0 sp' := by
        intro sp' hsp
        unfold q_X8_fallsFar_163
        rw [jr2 (by omega)]
        rcases hsp with rfl | rfl
        · rw [if_neg (by decide)]
          by_cases hev : N % 2 = 0
          · rw [hev, if_pos (by rfl), m_is, ob_e, bd_e]
            exact ⟨_, rfl, ans_node (sp := 0) (Fs.rf ev m z1) (by rw [if_neg (by decide), if_pos hev]; rfl)⟩
          · rw [show N % 2 = 1 by omega, if_neg (by decide), m_is, ob_e, bd_e]
            exact ⟨_, rfl, ans_node (sp := 0) (Fs.rf ev m z1) (by rw [if_neg (by decide), if_neg hev]; rfl)⟩
        · rw [if_pos (by rfl), m_is, ob_e, bd_e]
          exact ⟨_, rfl, ans_node (sp := 1) (Fs.rf ev m z1) (by rw [if_pos rfl])⟩
      have f147 : ∃ z', q_X8_fallsFar_147 ev m (ph P) (ph (w ^ 6 * c6 L)) (nI N) z1 = some z' ∧ AnsM ev m z1 z' N 1 0 0 sp := by
        have hc6 : ¬ (P : Int) ∣ -(w ^ 6 * c6 L) := by
          intro h
          have h1 := Int.dvd_neg.mp h
          have h2 := (hp.2 _ _ h1).resolve_left (fun h => hw (hp.pow 6 h))
          apply c4n
          apply hp.pow 3
          have e := dd_1728 L
          obtain ⟨a, ha⟩ := h2; obtain ⟨b, hb⟩ := q1
          exact ⟨1728 * b + c6 L * a, by grind⟩
        obtain ⟨z', h1, h2⟩ := f163 sp hs2
        refine ⟨z', ?_, h2⟩
        unfold q_X8_fallsFar_147
        have bn : inR (-(w ^ 6 * c6 L)) := ⟨by have := bY.2; omega, by have := bY.1; omega⟩
        rw [ph_neg, m_square (by omega) (hp.odd (by omega)) hP bn, if_neg hc6, ob_e]
        have e := pw_fermat hp (by omega) (c := c6 L) hw
        rcases Spl' with ⟨h, rfl⟩ | ⟨h, rfl⟩
        · rw [if_pos (e.mpr h), if_pos rfl]; exact h1
        · rw [if_neg (fun h' => h (e.mp h')), if_neg (by decide)]; exact h1
      have fin : ∀ sp' z', AnsM ev m z1 z' N 1 0 0 sp' → (sp' = sp ∨ (sp' = 0 ∧ N = 1 ∧ ¬ P ≤ 999983)) → Fr ev m z z' ∧ rI z' (rf ev 127 m) 7 = nI k ∧ (∀ j, j < 6 → rI z' (rf ev 127 m) j = v j) ∧ (P ≤ 999983 → rI z' (rf ev 127 m) 6 = v 6) := by
        intro sp' z' ⟨a1, a2, a3⟩ hsp
        refine ⟨F1.tr a1, by rw [a3, r7], ?_, ?_⟩
        · intro j hj
          rw [a2 j (by omega), s2 j (by omega)]
          rcases hsp with rfl | ⟨rfl, rfl, -⟩
          · rfl
          · unfold ansv
            rcases (show j = 0 ∨ j = 1 ∨ j = 2 ∨ j = 3 ∨ j = 4 ∨ j = 5 by omega) with rfl | rfl | rfl | rfl | rfl | rfl <;> rcases hs2 with rfl | rfl <;> rfl
        · intro hle
          rw [a2 6 (by omega), s2 6 (by omega)]
          rcases hsp with rfl | ⟨rfl, rfl, h⟩
          · rfl
          · exact absurd hle h
      by_cases hN1 : N = 1
      · rw [if_pos (show nI N = (1 : Int32) by rw [hN1]; rfl)] at ho
        by_cases hle : P ≤ 999983
        · rw [if_pos (show ph (P : Int) ≤ (999983 : Int64) by rw [show (999983 : Int64) = ph 999983 from rfl, ph_le ⟨by omega, by omega⟩ ⟨by omega, by omega⟩]; omega)] at ho
          obtain ⟨z', h1, h2⟩ := f147
          rw [h1] at ho
          exact ⟨z', ho.symm, fin sp z' h2 (Or.inl rfl)⟩
        · rw [if_neg (show ¬ ph (P : Int) ≤ (999983 : Int64) by rw [show (999983 : Int64) = ph 999983 from rfl, ph_le ⟨by omega, by omega⟩ ⟨by omega, by omega⟩]; omega)] at ho
          obtain ⟨z', h1, h2⟩ := f163 0 (Or.inl rfl)
          rw [show (0 : Int32) = nI 0 from rfl, h1] at ho
          exact ⟨z', ho.symm, fin 0 z' h2 (Or.inr ⟨rfl, hN1, hle⟩)⟩
      · rw [if_neg (show ¬ nI N = (1 : Int32) from nI_ne (b := 1) (by omega) (by omega) hN1)] at ho
        obtain ⟨z', h1, h2⟩ := f147
        rw [h1] at ho
        exact ⟨z', ho.symm, fin sp z' h2 (Or.inl rfl)⟩
    · obtain ⟨n', t1, t2, t3⟩ := m_tv hp hP bx
      have hn' : n' ≠ 0 := by
        intro h
        subst h
        rcases t1 with ⟨-, h⟩ | ⟨-, -, -, h⟩
        · omega
        · apply h; rw [Nat.zero_add, dvX, Int.pow_one]; exact c4d
      rw [t3, ob_e, if_neg (nI_ne0 (by omega) (by omega))] at ho
      obtain ⟨-, ha⟩ := m_add (ev := ev) (m := m) (z := z1) hp h5 hP hw (by omega) (far_all hp h5 e1 e2 e3 e4 q2 q3) (h165 c4d) (h30 c4d) q2 bx bY bz hdL0 bdL
      rw [ha, ob_e] at ho
      have an := ans_of (ev := ev) (m := m) (N := N) (k := kk') (i := i) (c := c) (Fs.rf ev m z1) e5 rfl rfl rfl rfl rfl rfl
      refine ⟨_, ho.symm, F1.tr an.1, by rw [an.2.2, r7], fun j hj => by rw [an.2.1 j (by omega), e6 j (by omega)], fun _ => by rw [an.2.1 6 (by omega), e6 6 (by omega)]⟩
