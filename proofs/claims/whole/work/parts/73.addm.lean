/-! the model's additive kinds for p above 3 -/
def b9 (x : Int) : Prop := -9000000000000000000 ≤ x ∧ x ≤ 9000000000000000000
theorem m_without {P n : Nat} (hk : PK P n) (hn : n < 1000) {q : Int} (hR : inR ((P : Int) ^ n * q)) : g_X8_without (ph ((P : Int) ^ n * q)) (ph P) (nI n) = some (ph q) := by
  unfold g_X8_without
  have h0 : ¬ ph ((P : Int) ^ n) = 0 := by rw [l0, ph_eq hk.2.2.2.1 z_R]; have := hk.2.2.1; omega
  rw [g_power8 _ (by omega), ob_e, ck_e h0, ph_div hR hk.2.2.2.1 hk.2.2.1, td_ex (by have := hk.2.2.1; omega)]
theorem wo_R {P n : Nat} (hk : PK P n) {q : Int} (hR : inR ((P : Int) ^ n * q)) : inR q := by
  have := td_inR hR hk.2.2.1
  rwa [td_ex (by have := hk.2.2.1; omega)] at this
/-- the square's sign of s -/
def sg (P : Nat) (s : Int) (c a b : Nat) : Prop := (sqr P s ∧ c = a) ∨ (¬ sqr P s ∧ c = b)
theorem m_sq {P : Nat} (hp : Pr P) (h5 : 5 ≤ P) (h : P ≤ 165) {v s a g : Int} (hv : inR v) (ha : ¬ (P : Int) ∣ a) (hg : ¬ (P : Int) ∣ g) (hs : ¬ (P : Int) ∣ s) (hc : (P : Int) ∣ a * a * v - g * g * s) : g_X8_square (ph v) (ph P) = some 1 ∧ sqr P s ∨ g_X8_square (ph v) (ph P) = some (-1) ∧ ¬ sqr P s := by
  have hv0 : ¬ (P : Int) ∣ v := by
    intro ⟨q, hq⟩
    obtain ⟨x, hx⟩ := hc
    exact hp.nm (hp.nm hg hg) hs ⟨a * a * q - x, by grind⟩
  rw [m_square (by omega) (hp.odd (by omega)) (by omega) hv, if_neg hv0]
  have e := euler hp h5 h hv0
  rw [sqr_tr hp ha hg hc] at e
  by_cases h1 : sqr P s
  · left; rw [if_pos (e.mpr h1)]; exact ⟨rfl, h1⟩
  · right; rw [if_neg (fun h' => h1 (e.mp h'))]; exact ⟨rfl, h1⟩
theorem m_tm6 {P : Nat} (hp : 2 ≤ P) (hp2 : P ≤ 165) {q : Int} (hq : inR q) : (-6 : Int64) * jr64 (ph q) (ph P) = ph (-6 * q.tmod P) ∧ inR (-6 * q.tmod P) ∧ (P : Int) ∣ q - q.tmod P := by
  have hb := tm_lt (a := q) (m := (P : Int)) (by omega)
  refine ⟨?_, ⟨by omega, by omega⟩, tm_cg q P⟩
  rw [jr_ph hq ⟨by omega, by omega⟩ (by omega), show (-6 : Int64) = ph (-6) from rfl, ph_mul]
theorem m_tms {P : Nat} (hp : Pr P) (hp2 : P < 2147483648) {x : Int} (hb : b9 x) {n : Nat} (hn : n ≠ 99) (h : (P : Int) ^ (n + 1) ∣ x) : ∃ v, g_X8_times (ph P) (ph x) = some (nI v) ∧ v ≠ n ∧ v < 100 := by
  by_cases hx : x = 0
  · subst hx
    exact ⟨99, by unfold g_X8_times; rw [if_pos (by rfl)]; rfl, fun h => hn h.symm, by omega⟩
  · obtain ⟨v, h1, h2, h3, h4⟩ := n_times (p := P) (x := x) hp.1 (by omega) hx hb
    refine ⟨v, h4, ?_, by omega⟩
    intro hv
    rw [hv] at h3
    exact h3 h
theorem m_tme {P : Nat} (hp : Pr P) (hp2 : P < 2147483648) {x : Int} (hb : b9 x) {n : Nat} (h : (P : Int) ^ n ∣ x) (h' : ¬ (P : Int) ^ (n + 1) ∣ x) : g_X8_times (ph P) (ph x) = some (nI n) := by
  have hx : x ≠ 0 := by intro h0; subst h0; exact h' ⟨0, by omega⟩
  obtain ⟨v, h1, h2, h3, h4⟩ := n_times (p := P) (x := x) hp.1 (by omega) hx hb
  rw [h4, v_one h2 h3 h h']
theorem nI_ne {a b : Nat} (ha : a < 2147483648) (hb : b < 2147483648) (h : a ≠ b) : ¬ nI a = nI b := fun e => h ((nI_eq ha hb).mp e)
theorem m_add {ev : EV} {m P : Nat} {z : PS} {L : Cv} {w : Int} (hp : Pr P) (h5 : 5 ≤ P) (hP : P < 2147483648) (hw : ¬ (P : Int) ∣ w) {N k i c : Nat} (hN9 : N < 64) (f : FarT P L N k i c) (h165 : (P : Int) ^ 4 ∣ dd L → P ≤ 165) (h30 : (P : Int) ^ 6 ∣ dd L → P ≤ 30) (hN : (P : Int) ^ N ∣ dd L) (hx : b9 (w ^ 4 * c4 L)) (hy : b9 (w ^ 6 * c6 L)) (hz : b9 (w ^ 12 * dd L)) (hd0 : dd L ≠ 0) (hdb : b9 (dd L)) :
    ∃ mm : Int32, g_X8_additive ev z m (ph P) (ph (w ^ 4 * c4 L)) (ph (w ^ 6 * c6 L)) (ph (w ^ 12 * dd L)) (nI N) = some (sI z (rf ev 127 m) (nI k) (nI i) (nI N - nI (mmK k i - 1)) (nI (mmK k i)) (nI c) (nI N)) := by
  refine ⟨0, ?_⟩
  have h5' : 5 ≤ (P : Int) := by omega
  have hR : ∀ {x : Int}, b9 x → inR x := fun h => ⟨by have := h.1; omega, by have := h.2; omega⟩
  have hq0 : ¬ ph (P : Int) = 0 := by rw [l0, ph_eq ⟨by omega, by omega⟩ z_R]; omega
  have hw3 : ¬ (P : Int) ∣ w * w * w := hp.nm (hp.nm hw hw) hw
  have n1 : ¬ (P : Int) ∣ 1 := fun hd => by have := Int.le_of_dvd (by omega) hd; omega
  have n36 : ¬ (P : Int) ∣ 36 * (w * w * w) := by
    rw [show 36 * (w * w * w) = 2 * (2 * (3 * (3 * (w * w * w)))) by grind]
    exact (hp.n23 h5' (hp.n23 h5' (hp.n23 h5' (hp.n23 h5' hw3).2).2).1).1
  have go30 : ∀ N' : Nat, N = N' → N' ≤ 6 → g_X8_additive ev z m (ph P) (ph (w ^ 4 * c4 L)) (ph (w ^ 6 * c6 L)) (ph (w ^ 12 * dd L)) (nI N') = q_X8_additive_31 ev m (ph P) (ph (w ^ 4 * c4 L)) (ph (w ^ 6 * c6 L)) (ph (w ^ 12 * dd L)) (nI N') 0 z := by
    intro N' _ h
    unfold g_X8_additive
    rw [if_pos (show nI N' ≤ (6 : Int32) from (i_le (b := 6) (by omega) (by omega)).mpr h)]
    rfl
  have go31 : ∀ N' : Nat, N = N' → 6 < N' → (P : Int) ^ 3 ∣ c4 L → g_X8_additive ev z m (ph P) (ph (w ^ 4 * c4 L)) (ph (w ^ 6 * c6 L)) (ph (w ^ 12 * dd L)) (nI N') = q_X8_additive_31 ev m (ph P) (ph (w ^ 4 * c4 L)) (ph (w ^ 6 * c6 L)) (ph (w ^ 12 * dd L)) (nI N') 0 z := by
    intro N' hN' h h3
    obtain ⟨v, v1, v2, v3⟩ := m_tms hp hP hx (n := 2) (by omega) (Int.dvd_trans h3 ⟨w ^ 4, by grind⟩)
    unfold g_X8_additive
    rw [if_neg (show ¬ nI N' ≤ (6 : Int32) from fun h' => by have := (i_le (a := N') (b := 6) (by omega) (by omega)).mp h'; omega), v1, ob_e, if_neg (show ¬ nI v = (2 : Int32) from nI_ne (b := 2) (by omega) (by omega) v2)]
    rfl
  rcases f with ⟨rfl, rfl, rfl, rfl⟩ | ⟨rfl, rfl, rfl, rfl⟩ | ⟨rfl, rfl, rfl, s, X, s1, s2, s3⟩ | ⟨rfl, rfl, rfl, b, cc, d, X, Y, x1, x2, x3⟩ | ⟨rfl, hNi, hi, g, s, X, Y, Z, g1, g2, g3, g4, g5, g6⟩ | ⟨rfl, rfl, rfl, c3, s, X, s1, s2, s3⟩ | ⟨rfl, rfl, rfl, rfl, c3⟩ | ⟨rfl, rfl, rfl, rfl, c3⟩
  · rw [go30 2 rfl (by omega)]; rfl
  · rw [go30 3 rfl (by omega)]; rfl
  · have hP1 := h165 hN
    rw [go30 4 rfl (by omega)]
    unfold q_X8_additive_31
    have e6 : w ^ 6 * c6 L = (P : Int) ^ 2 * (w ^ 6 * (-216 * s + P * X)) := by rw [s2]; grind
    have hkk : PK P 2 := PK_small (by omega) (by omega) (by omega)
    have hyR : inR ((P : Int) ^ 2 * (w ^ 6 * (-216 * s + P * X))) := by rw [← e6]; exact hR hy
    have wo : g_X8_without (ph (w ^ 6 * c6 L)) (ph P) (2 : Int32) = some (ph (w ^ 6 * (-216 * s + P * X))) := by rw [e6]; exact m_without hkk (by omega) hyR
    obtain ⟨t1, t2, q, t3⟩ := m_tm6 (P := P) (by omega) hP1 (wo_R hkk hyR)
    have sq := m_sq hp h5 hP1 (v := -6 * (w ^ 6 * (-216 * s + P * X)).tmod P) (s := s) (a := 1) (g := 36 * (w * w * w)) t2 n1 n36 s1 ⟨6 * q - 6 * (w ^ 6 * X), by
      have : (w ^ 6 * (-216 * s + P * X)).tmod P = w ^ 6 * (-216 * s + P * X) - P * q := by omega
      rw [this]; grind⟩
    rw [if_pos rfl, if_neg (by decide), if_neg (by decide), if_pos (by rfl), wo, ob_e, ck_e hq0, t1]
    rcases sq with ⟨a1, a2⟩ | ⟨a1, a2⟩
    · rw [a1, ob_e, m_is, ob_e]
      have : c = 3 := by rcases s3 with h | h
                         · exact h.2
                         · exact absurd a2 h.1
      subst this; rfl
    · rw [a1, ob_e, m_is, ob_e]
      have : c = 1 := by rcases s3 with h | h
                         · exact absurd h.1 a2
                         · exact h.2
      subst this; rfl
  · have hP1 := h30 hN
    rw [go30 6 rfl (by omega)]
    unfold q_X8_additive_31
    have e4 : w ^ 4 * c4 L = (P : Int) ^ 2 * (w ^ 4 * (16 * (b * b - 3 * cc) + P * X)) := by rw [x1]; grind
    have e6 : w ^ 6 * c6 L = (P : Int) ^ 3 * (w ^ 6 * (-32 * (2 * b * b * b - 9 * b * cc + 27 * d) + P * Y)) := by rw [x2]; grind
    have k2 : PK P 2 := PK_small (by omega) (by omega) (by omega)
    have k3 : PK P 3 := PK_small (by omega) (by omega) (by omega)
    have hxR : inR ((P : Int) ^ 2 * (w ^ 4 * (16 * (b * b - 3 * cc) + P * X))) := by rw [← e4]; exact hR hx
    have hyR : inR ((P : Int) ^ 3 * (w ^ 6 * (-32 * (2 * b * b * b - 9 * b * cc + 27 * d) + P * Y))) := by rw [← e6]; exact hR hy
    have wo4 : g_X8_without (ph (w ^ 4 * c4 L)) (ph P) (2 : Int32) = some (ph (w ^ 4 * (16 * (b * b - 3 * cc) + P * X))) := by rw [e4]; exact m_without k2 (by omega) hxR
    have wo6 : g_X8_without (ph (w ^ 6 * c6 L)) (ph P) (3 : Int32) = some (ph (w ^ 6 * (-32 * (2 * b * b * b - 9 * b * cc + 27 * d) + P * Y))) := by rw [e6]; exact m_without k3 (by omega) hyR
    have cf := cnt_far hp h5 (b := b) (c := cc) (d := d) (x := w ^ 4 * (16 * (b * b - 3 * cc) + P * X)) (y := w ^ 6 * (-32 * (2 * b * b * b - 9 * b * cc + 27 * d) + P * Y)) hw ⟨w ^ 4 * X, by grind⟩ ⟨w ^ 6 * Y, by grind⟩
    rw [if_pos rfl, if_neg (by decide), if_neg (by decide), if_neg (by decide), if_pos (by rfl), wo4, ob_e, wo6, ob_e, cr_m (by omega) hP1 (wo_R k2 hxR) (wo_R k3 hyR), ob_e, m_is, ob_e, ← cf, x3, ← i_add]
    rfl
  · have hN7 : 7 ≤ N := by omega
    have hP1 := h30 (dv_pow hN (by omega))
    have n16 : ¬ (P : Int) ∣ 16 * g * g := by
      rw [show 16 * g * g = 2 * (2 * (2 * (2 * (g * g)))) by grind]
      exact (hp.n23 h5' (hp.n23 h5' (hp.n23 h5' (hp.n23 h5' (hp.nm g1 g1)).1).1).1).1
    have n64 : ¬ (P : Int) ∣ -64 * g * g * g := by
      rw [show -64 * g * g * g = -(2 * (2 * (2 * (2 * (2 * (2 * (g * g * g))))))) by grind]
      exact hp.nn (hp.n23 h5' (hp.n23 h5' (hp.n23 h5' (hp.n23 h5' (hp.n23 h5' (hp.n23 h5' (hp.nm (hp.nm g1 g1) g1)).1).1).1).1).1).1
    have nw4 : ¬ (P : Int) ∣ w ^ 4 := fun h => hw (hp.pow 4 h)
    have nw6 : ¬ (P : Int) ∣ w ^ 6 := fun h => hw (hp.pow 6 h)
    have vc4 := vx (D := w ^ 4 * c4 L) (n := 2) hp.ne (m := w ^ 4 * (16 * g * g)) (X := w ^ 4 * X) (by rw [g3]; grind) (hp.nm nw4 n16)
    have vc6 := vx (D := w ^ 6 * c6 L) (n := 3) hp.ne (m := w ^ 6 * (-64 * g * g * g)) (X := w ^ 6 * Y) (by rw [g4]; grind) (hp.nm nw6 n64)
    have t4 := m_tme hp hP hx vc4.1 vc4.2
    have t6 := m_tme hp hP hy vc6.1 vc6.2
    obtain ⟨D0, hD0⟩ := hN
    have e12 : w ^ 12 * dd L = (P : Int) ^ N * (w ^ 12 * D0) := by rw [hD0]; grind
    have hD4 : 4 * D0 = (if N % 2 = 1 then -64 * g * g * g else 64 * g * g) * s + P * Z := by
      apply Int.eq_of_mul_eq_mul_left (a := (P : Int) ^ N) (Int.pow_ne_zero hp.ne)
      rw [← g5, hD0]; grind
    have kN : PK P N := PK_D (by omega) hP hd0 hdb (fun h => by omega) ⟨D0, hD0⟩
    have hzR : inR ((P : Int) ^ N * (w ^ 12 * D0)) := by rw [← e12]; exact hR hz
    have woN : g_X8_without (ph (w ^ 12 * dd L)) (ph P) (nI N) = some (ph (w ^ 12 * D0)) := by rw [e12]; exact m_without kN (by omega) hzR
    have D0R := wo_R kN hzR
    have tb := tm_lt (a := w ^ 12 * D0) (m := (P : Int)) (by omega)
    obtain ⟨q1, hq1⟩ := tm_cg (w ^ 12 * D0) P
    have jD : jr64 (ph (w ^ 12 * D0)) (ph P) = ph ((w ^ 12 * D0).tmod P) := jr_ph D0R ⟨by omega, by omega⟩ (by omega)
    have go : g_X8_additive ev z m (ph P) (ph (w ^ 4 * c4 L)) (ph (w ^ 6 * c6 L)) (ph (w ^ 12 * dd L)) (nI N) = q_X8_additive_31 ev m (ph P) (ph (w ^ 4 * c4 L)) (ph (w ^ 6 * c6 L)) (ph (w ^ 12 * dd L)) (nI N) 1 z := by
      unfold g_X8_additive
      rw [if_neg (show ¬ nI N ≤ (6 : Int32) from fun h' => by have := (i_le (a := N) (b := 6) (by omega) (by omega)).mp h'; omega), t4, ob_e, if_pos (by rfl), t6, ob_e, if_pos (by rfl)]
    rw [go]
    unfold q_X8_additive_31
    rw [if_neg (by decide), woN, ob_e, ck_e hq0, jr2 (by omega)]
    have fin : ∀ v : Int, inR v → (∃ a G : Int, ¬ (P : Int) ∣ a ∧ ¬ (P : Int) ∣ G ∧ (P : Int) ∣ a * a * v - G * G * s) → ob (g_X8_square (ph v) (ph P)) (fun v35 => ob (g_X8_is ev z m (6 : Int32) (nI N - (6 : Int32)) (2 : Int32) (nI N - (1 : Int32)) ((3 : Int32) + v35) (nI N)) (fun z36 => some z36)) = some (sI z (rf ev 127 m) (nI 6) (nI i) (nI N - nI (mmK 6 i - 1)) (nI (mmK 6 i)) (nI c) (nI N)) := by
      intro v hv ⟨a, G, ha, hG, hc⟩
      have e1 : nI N - (6 : Int32) = nI i := by rw [show (6 : Int32) = nI 6 from rfl, i_sub (by omega)]; congr 1; omega
      have e2 : nI N - (1 : Int32) = nI (mmK 6 i) := by
        rw [show (1 : Int32) = nI 1 from rfl, i_sub (by omega)]; show _ = nI (5 + i); congr 1; omega
      have e3 : nI N - nI (mmK 6 i - 1) = 2 := by
        rw [i_sub (by show 5 + i - 1 ≤ N; omega), show N - (mmK 6 i - 1) = 2 by show N - (5 + i - 1) = 2; omega]; rfl
      rcases m_sq hp h5 (by omega) hv ha hG g2 hc with ⟨a1, a2⟩ | ⟨a1, a2⟩
      · rw [a1, ob_e, m_is, ob_e, e1, e2, e3]
        have : c = 4 := by rcases g6 with h | h
                           · exact h.2
                           · exact absurd a2 h.1
        subst this; rfl
      · rw [a1, ob_e, m_is, ob_e, e1, e2, e3]
        have : c = 2 := by rcases g6 with h | h
                           · exact absurd h.1 a2
                           · exact h.2
        subst this; rfl
    have hD4' : ∀ M : Int, 4 * D0 = M + P * Z → (P : Int) ∣ 4 * (w ^ 12 * D0).tmod P - w ^ 12 * M := by
      intro M hM
      refine ⟨w ^ 12 * Z - 4 * q1, ?_⟩
      have e : (w ^ 12 * D0).tmod P = w ^ 12 * D0 - P * q1 := by omega
      rw [e]
      have : 4 * (w ^ 12 * D0) = w ^ 12 * (M + P * Z) := by rw [← hM]; grind
      grind
    have n2 := hp.n2 (show 3 ≤ (P : Int) by omega)
    have nw9 : ¬ (P : Int) ∣ w ^ 9 := fun h => hw (hp.pow 9 h)
    have nwx6 : ¬ (P : Int) ∣ w ^ 6 := fun h => hw (hp.pow 6 h)
    by_cases ho : N % 2 = 1
    · rw [if_pos ho] at hD4
      have hq6 : w ^ 6 * c6 L = (P : Int) ^ 3 * (w ^ 6 * (-64 * g * g * g + P * Y)) := by rw [g4]; grind
      have k3 : PK P 3 := PK_small (by omega) (by omega) (by omega)
      have hyR : inR ((P : Int) ^ 3 * (w ^ 6 * (-64 * g * g * g + P * Y))) := by rw [← hq6]; exact hR hy
      have wo6 : g_X8_without (ph (w ^ 6 * c6 L)) (ph P) (3 : Int32) = some (ph (w ^ 6 * (-64 * g * g * g + P * Y))) := by rw [hq6]; exact m_without k3 (by omega) hyR
      have j6 : jr64 (ph (w ^ 6 * (-64 * g * g * g + P * Y))) (ph P) = ph ((w ^ 6 * (-64 * g * g * g + P * Y)).tmod P) := jr_ph (wo_R k3 hyR) ⟨by omega, by omega⟩ (by omega)
      have tb6 := tm_lt (a := w ^ 6 * (-64 * g * g * g + P * Y)) (m := (P : Int)) (by omega)
      obtain ⟨q6, hq6'⟩ := tm_cg (w ^ 6 * (-64 * g * g * g + P * Y)) P
      rw [ho, if_pos (by rfl), wo6, ob_e, ck_e hq0, j6, jD]
      unfold q_X8_additive_69
      rw [bd_e, ph_mul]
      refine fin _ (sq_rng (m := (P : Int)) (by omega) (by omega) tb tb6) ⟨2, 64 * (g * g * g) * w ^ 9, n2, ?_, ?_⟩
      · rw [show 64 * (g * g * g) * w ^ 9 = 2 * (2 * (2 * (2 * (2 * (2 * (g * g * g * w ^ 9)))))) by grind]
        exact (hp.n23 h5' (hp.n23 h5' (hp.n23 h5' (hp.n23 h5' (hp.n23 h5' (hp.n23 h5' (hp.nm (hp.nm (hp.nm g1 g1) g1) nw9)).1).1).1).1).1).1
      · obtain ⟨q, hq⟩ := hD4' _ hD4
        have e6 : (w ^ 6 * (-64 * g * g * g + P * Y)).tmod P = w ^ 6 * (-64 * g * g * g) + P * (w ^ 6 * Y - q6) := by
          have : w ^ 6 * (-64 * g * g * g + P * Y) = w ^ 6 * (-64 * g * g * g) + P * (w ^ 6 * Y) := by grind
          grind
        rw [e6]
        have e7 : 4 * (w ^ 12 * D0).tmod P = w ^ 12 * (-64 * g * g * g * s) + P * q := by omega
        generalize (w ^ 12 * D0).tmod P = A at *
        generalize w ^ 6 * Y - q6 = V at *
        refine ⟨q * (w ^ 6 * (-64 * g * g * g) + P * V) + w ^ 12 * (-64 * g * g * g * s) * V, ?_⟩
        have : 2 * 2 * (A * (w ^ 6 * (-64 * g * g * g) + P * V)) = (w ^ 12 * (-64 * g * g * g * s) + P * q) * (w ^ 6 * (-64 * g * g * g) + P * V) := by rw [← e7]; grind
        rw [this]
        have e9 : w ^ 9 * w ^ 9 = w ^ 18 := by rw [← Int.pow_add]
        have e18 : w ^ 12 * w ^ 6 = w ^ 18 := by rw [← Int.pow_add]
        grind
    · rw [if_neg ho] at hD4
      rw [show N % 2 = 0 by omega, if_neg (by decide), jD]
      unfold q_X8_additive_69
      rw [bd_e, l1, ph_mul, Int.mul_one]
      refine fin _ ⟨by omega, by omega⟩ ⟨2, 8 * g * w ^ 6, n2, ?_, ?_⟩
      · rw [show 8 * g * w ^ 6 = 2 * (2 * (2 * (g * w ^ 6))) by grind]
        exact (hp.n23 h5' (hp.n23 h5' (hp.n23 h5' (hp.nm g1 nwx6)).1).1).1
      · obtain ⟨q, hq⟩ := hD4' _ hD4
        refine ⟨q, ?_⟩
        have e12 : w ^ 6 * w ^ 6 = w ^ 12 := by rw [← Int.pow_add]
        grind
  · have hP1 := h165 (dv_pow hN (by omega))
    rw [go31 8 rfl (by omega) c3]
    unfold q_X8_additive_31
    have e6 : w ^ 6 * c6 L = (P : Int) ^ 4 * (w ^ 6 * (-216 * s + P * X)) := by rw [s2]; grind
    have hkk : PK P 4 := PK_small (by omega) (by omega) (by omega)
    have hyR : inR ((P : Int) ^ 4 * (w ^ 6 * (-216 * s + P * X))) := by rw [← e6]; exact hR hy
    have wo : g_X8_without (ph (w ^ 6 * c6 L)) (ph P) (4 : Int32) = some (ph (w ^ 6 * (-216 * s + P * X))) := by rw [e6]; exact m_without hkk (by omega) hyR
    obtain ⟨t1, t2, q, t3⟩ := m_tm6 (P := P) (by omega) hP1 (wo_R hkk hyR)
    have sq := m_sq hp h5 hP1 (v := -6 * (w ^ 6 * (-216 * s + P * X)).tmod P) (s := s) (a := 1) (g := 36 * (w * w * w)) t2 n1 n36 s1 ⟨6 * q - 6 * (w ^ 6 * X), by
      have : (w ^ 6 * (-216 * s + P * X)).tmod P = w ^ 6 * (-216 * s + P * X) - P * q := by omega
      rw [this]; grind⟩
    rw [if_pos rfl, if_neg (by decide), if_neg (by decide), if_neg (by decide), if_neg (by decide), if_pos (by rfl), wo, ob_e, ck_e hq0, t1]
    rcases sq with ⟨a1, a2⟩ | ⟨a1, a2⟩
    · rw [a1, ob_e, m_is, ob_e]
      have : c = 3 := by rcases s3 with h | h
                         · exact h.2
                         · exact absurd a2 h.1
      subst this; rfl
    · rw [a1, ob_e, m_is, ob_e]
      have : c = 1 := by rcases s3 with h | h
                         · exact absurd h.1 a2
                         · exact h.2
      subst this; rfl
  · rw [go31 9 rfl (by omega) c3]; rfl
  · rw [go31 10 rfl (by omega) c3]; rfl
