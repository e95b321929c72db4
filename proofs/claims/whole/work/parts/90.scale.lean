/-! scale -/
theorem pw_6 {u : Int} (hu : 2 ≤ u ∧ u ≤ 9) {e : Nat} (he : e ≤ 6) : 0 < u ^ e ∧ u ^ e < 2147483648 := by
  have h : ∀ (a : Fin 10) (b : Fin 7), 2 ≤ a.val → 0 < (a.val : Int) ^ b.val ∧ (a.val : Int) ^ b.val < 2147483648 := by decide +kernel
  have := h ⟨u.toNat, by omega⟩ ⟨e, by omega⟩ (by show 2 ≤ u.toNat; omega)
  dsimp only at this
  rwa [show ((u.toNat : Nat) : Int) = u by omega] at this
theorem c_can {ev : EV} {z : PS} {e : Nat} {E : Cv} (h : EQ z e E) (hc : CR E) {u : Int} (hu : 2 ≤ u ∧ u ≤ 9) : ((∀ k, k < 5 → u ^ wt k ∣ co E k) → g_X0_canShrink ev z e (ph u) = some 1) ∧ (¬ (∀ k, k < 5 → u ^ wt k ∣ co E k) → g_X0_canShrink ev z e (ph u) = some 0) := by
  obtain ⟨r1, r2, r3, r4, r6⟩ := hc
  have hr : ∀ (e : Nat) (x : Int), e ≤ 6 → inR x → g_X4_rest (ph x) (ph (u ^ e)) = some (ph (x % u ^ e)) := fun e x he hx => by
    obtain ⟨p1, p2⟩ := pw_6 hu he
    exact c_rest p1 ⟨by omega, by omega⟩ (Or.inl hx)
  have hz : ∀ (e : Nat) (x : Int), e ≤ 6 → (ph (x % u ^ e) = 0 ↔ u ^ e ∣ x) := fun e x he => by
    obtain ⟨p1, p2⟩ := pw_6 hu he
    exact mod_0 p1 p2
  have r1' := hr 1 (a1 E) (by omega) r1
  have z1' := hz 1 (a1 E) (by omega)
  rw [Int.pow_one] at r1' z1'
  have key : g_X0_canShrink ev z e (ph u) = if ph (a1 E % u) = 0 ∧ ph (a2 E % u ^ 2) = 0 ∧ ph (a3 E % u ^ 3) = 0 ∧ ph (a4 E % u ^ 4) = 0 ∧ ph (a6 E % u ^ 6) = 0 then some 1 else some 0 := by
    unfold g_X0_canShrink
    rw [h.a1, h.a2, h.a3, h.a4, h.a6, r1', ob_e, show (2 : Int32) = nI 2 from rfl, show (3 : Int32) = nI 3 from rfl, show (4 : Int32) = nI 4 from rfl, show (6 : Int32) = nI 6 from rfl, c_power u (by omega), ob_e, hr 2 _ (by omega) r2, ob_e, c_power u (by omega), ob_e, hr 3 _ (by omega) r3, ob_e, c_power u (by omega), ob_e, hr 4 _ (by omega) r4, ob_e, c_power u (by omega), ob_e, hr 6 _ (by omega) r6, ob_e]
    simp only [iand]
  rw [key]
  constructor
  · intro hh
    have h0 : u ∣ a1 E := by have h1 : u ^ 1 ∣ a1 E := hh 0 (by omega)
                             rwa [Int.pow_one] at h1
    rw [if_pos ⟨z1'.mpr h0, (hz 2 _ (by omega)).mpr (hh 1 (by omega)), (hz 3 _ (by omega)).mpr (hh 2 (by omega)), (hz 4 _ (by omega)).mpr (hh 3 (by omega)), (hz 6 _ (by omega)).mpr (hh 4 (by omega))⟩]
  · intro hh
    rw [if_neg (fun g => hh (fun k hk => ?_))]
    rcases (show k = 0 ∨ k = 1 ∨ k = 2 ∨ k = 3 ∨ k = 4 by omega) with rfl | rfl | rfl | rfl | rfl
    · show u ^ 1 ∣ a1 E
      rw [Int.pow_one]; exact z1'.mp g.1
    · exact (hz 2 _ (by omega)).mp g.2.1
    · exact (hz 3 _ (by omega)).mp g.2.2.1
    · exact (hz 4 _ (by omega)).mp g.2.2.2.1
    · exact (hz 6 _ (by omega)).mp g.2.2.2.2
theorem c_shrink {ev : EV} {z : PS} {e x : Nat} {F : Cv} {u : Int} (h : EQ z x (sc F u)) (hc : CR (sc F u)) (hu : 2 ≤ u ∧ u ≤ 9) : g_X0_shrink ev z e x (ph u) = some (sE z e F) := by
  obtain ⟨r1, r2, r3, r4, r6⟩ := hc
  have hq : ∀ (e : Nat) (x : Int), e ≤ 6 → inR (u ^ e * x) → g_X4_quotient (ph (u ^ e * x)) (ph (u ^ e)) = some (ph x) := fun e x he hx => by
    obtain ⟨p1, p2⟩ := pw_6 hu he
    exact c_quot_ex p1 ⟨by omega, by omega⟩ hx
  have q1 : g_X4_quotient (ph (a1 (sc F u))) (ph u) = some (ph (a1 F)) := by
    have := hq 1 (a1 F) (by omega) (by rw [Int.pow_one]; exact r1)
    rw [Int.pow_one] at this; exact this
  have q2 : g_X4_quotient (ph (a2 (sc F u))) (ph (u ^ 2)) = some (ph (a2 F)) := hq 2 _ (by omega) r2
  have q3 : g_X4_quotient (ph (a3 (sc F u))) (ph (u ^ 3)) = some (ph (a3 F)) := hq 3 _ (by omega) r3
  have q4 : g_X4_quotient (ph (a4 (sc F u))) (ph (u ^ 4)) = some (ph (a4 F)) := hq 4 _ (by omega) r4
  have q6 : g_X4_quotient (ph (a6 (sc F u))) (ph (u ^ 6)) = some (ph (a6 F)) := hq 6 _ (by omega) r6
  unfold g_X0_shrink
  rw [h.a1, h.a2, h.a3, h.a4, h.a6, q1, ob_e, show (2 : Int32) = nI 2 from rfl, show (3 : Int32) = nI 3 from rfl, show (4 : Int32) = nI 4 from rfl, show (6 : Int32) = nI 6 from rfl, c_power u (by omega), ob_e, q2, ob_e, c_power u (by omega), ob_e, q3, ob_e, c_power u (by omega), ob_e, q4, ob_e, c_power u (by omega), ob_e, q6, ob_e, c_put, ob_e]
theorem td_le_iff {a b c : Int} (hb : 0 ≤ b) (hc : 0 < c) : a ≤ b.tdiv c ↔ a * c ≤ b := by
  rw [Int.tdiv_eq_ediv_of_nonneg hb, Int.le_ediv_iff_mul_le hc]
theorem td_small {b c : Int} (hb : 0 ≤ b) (hc : 0 < c) : 0 ≤ b.tdiv c ∧ b.tdiv c ≤ b := (td_le hc).1 hb
theorem pd_step {v u : Int} (hv : 1 ≤ v ∧ v ≤ 4000000000000000000) (hu : 2 ≤ u ∧ u ≤ 9) : g_X8_product (ph v) (ph u) = some (ph (if u * v ≤ 4000000000000000000 then v * u else 4000000000000000000)) := by
  have rv : inR v := ⟨by omega, by omega⟩
  have nv : ¬ ph v = 0 := by rw [l0, ph_eq rv z_R]; omega
  have k := td_small (b := 4000000000000000000) (c := v) (by omega) (by omega)
  unfold g_X8_product
  rw [if_neg nv, m_size ⟨by omega, by omega⟩, ob_e, m_size ⟨by omega, by omega⟩, ob_e, show ((u.natAbs : Nat) : Int) = u by omega, show ((v.natAbs : Nat) : Int) = v by omega, ck_e nv, show (4000000000000000000 : Int64) = ph 4000000000000000000 from rfl, ph_div ⟨by omega, by omega⟩ rv (by omega)]
  by_cases h : u * v ≤ 4000000000000000000
  · rw [if_pos ((ph_le ⟨by omega, by omega⟩ ⟨by omega, by omega⟩).mpr ((td_le_iff (by omega) (by omega)).mpr h)), if_pos h, ph_mul]
  · rw [if_neg (fun hh => h ((td_le_iff (by omega) (by omega)).mp ((ph_le ⟨by omega, by omega⟩ ⟨by omega, by omega⟩).mp hh))), if_neg h]
def IvP (D u : Int) (k : Nat) (v : Int) : Prop := (1 ≤ v ∧ v ≤ 4000000000000000000) ∧ (v = D * u ^ k ∨ (v = 4000000000000000000 ∧ 1000000000000000000 < D * u ^ k))
theorem IvP.s {D u v : Int} {k : Nat} (hD : 1 ≤ D) (hu : 2 ≤ u ∧ u ≤ 9) (h : IvP D u k v) : IvP D u (k + 1) (if u * v ≤ 4000000000000000000 then v * u else 4000000000000000000) := by
  obtain ⟨hv, h⟩ := h
  have e : D * u ^ (k + 1) = D * u ^ k * u := by rw [Int.pow_succ]; grind
  have huv : v ≤ u * v := by have := Int.mul_le_mul_of_nonneg_right (show 1 ≤ u by omega) (show 0 ≤ v by omega); omega
  have cm := Int.mul_comm u v
  by_cases c : u * v ≤ 4000000000000000000
  · rw [if_pos c]
    refine ⟨⟨by omega, by omega⟩, ?_⟩
    rcases h with h | ⟨h, -⟩
    · left; rw [e, ← h]
    · exfalso
      have := Int.mul_le_mul_of_nonneg_right (show 2 ≤ u by omega) (show 0 ≤ v by omega)
      omega
  · rw [if_neg c]
    refine ⟨by omega, Or.inr ⟨rfl, ?_⟩⟩
    rcases h with h | ⟨-, h⟩
    · rw [e, ← h]; omega
    · rw [e]
      have := Int.mul_le_mul_of_nonneg_left (show 1 ≤ u by omega) (show 0 ≤ D * u ^ k by omega)
      omega
theorem sc_loop {ev : EV} {m w : Nat} {z : PS} {D : Int} (hD : 1 ≤ D) (hw : 2 ≤ w ∧ w ≤ 9) : ∀ (d n k : Nat) (v : Int), k + d = 12 → IvP D w k v → q_X8_scale_68 ev m (n + d + 1) (nI w) (ph v) (nI k) z = if D * (w : Int) ^ 12 ≤ 1000000000000000000 then q_X8_scale_104 ev m FU (nI w) (0 : Int32) z else some ((-1 : Int32), z) := by
  intro d
  induction d with
  | zero =>
    intro n k v hk h
    have : k = 12 := by omega
    subst this
    obtain ⟨hv, h⟩ := h
    rw [q_X8_scale_68, if_pos (by decide), show (1000000000000000000 : Int64) = ph 1000000000000000000 from rfl]
    by_cases c : v ≤ 1000000000000000000
    · rw [if_pos ((ph_le ⟨by omega, by omega⟩ ⟨by omega, by omega⟩).mpr c), if_pos (by omega)]
    · rw [if_neg (fun hh => c ((ph_le ⟨by omega, by omega⟩ ⟨by omega, by omega⟩).mp hh)), if_neg (by omega)]
  | succ d ih =>
    intro n k v hk h
    rw [q_X8_scale_68, if_neg (by rw [show (12 : Int32) = nI 12 from rfl, i_le (by omega) (by omega)]; omega), nI_L (by omega), pd_step h.1 ⟨by omega, by omega⟩, ob_e, bd_e, nI_s]
    exact ih n (k + 1) _ (by omega) (h.s hD ⟨by omega, by omega⟩)
theorem co_sc (E : Cv) (u : Int) {k : Nat} (hk : k < 5) : co E k * u ^ wt k = co (sc E u) k := by
  rcases (show k = 0 ∨ k = 1 ∨ k = 2 ∨ k = 3 ∨ k = 4 by omega) with rfl | rfl | rfl | rfl | rfl
  · show a1 E * u ^ 1 = u * a1 E; rw [Int.pow_one, Int.mul_comm]
  · show a2 E * u ^ 2 = u ^ 2 * a2 E; rw [Int.mul_comm]
  · show a3 E * u ^ 3 = u ^ 3 * a3 E; rw [Int.mul_comm]
  · show a4 E * u ^ 4 = u ^ 4 * a4 E; rw [Int.mul_comm]
  · show a6 E * u ^ 6 = u ^ 6 * a6 E; rw [Int.mul_comm]
theorem gr_step {ev : EV} {m w : Nat} (hw : w ≤ 9) {E : Cv} (y : PS) (k g : Nat) (hk : k < 5) (hx : rJ y (rf ev 123 m) k = ph (co E k)) : q_X8_scale_104 ev m (g + 1) (nI w) (nI k) y = q_X8_scale_104 ev m g (nI w) (nI (k + 1)) (wJ y (rf ev 123 m) k (ph (co (sc E w) k))) := by
  rw [q_X8_scale_104, if_neg (lt5 hk), ck_e (inB_n hk (by omega)), g_wt hk, ob_e, nI_L (by omega), g_power8 _ (by have := wt_le hk; omega), ob_e, bd_e, ck_e (inB_n hk (by omega)), cl k hk, hx, ph_mul, co_sc E w hk, bd_e, bd_e, nI_s]
theorem gr_all {ev : EV} {m w : Nat} (hw : w ≤ 9) {E : Cv} {z : PS} (A : AM ev m z E) : q_X8_scale_104 ev m FU (nI w) (0 : Int32) z = ob (g_X8_keeps ev (sA z (rf ev 123 m) (sc E w)) m) (fun qv21 => bd qv21.1 (fun v21 => bd qv21.2 (fun z20 => some (v21, z20)))) := by
  obtain ⟨f, hf⟩ := FU5
  have ne : ∀ (y : PS) (j : Nat) (v : Int64) (i : Nat), i ≠ j → rJ (wJ y (rf ev 123 m) j v) (rf ev 123 m) i = rJ y (rf ev 123 m) i := fun y j v i h => by simp [rJ, wJ, h]
  rw [hf, show (0 : Int32) = nI 0 from rfl, show f + 1 + 5 = f + 1 + 4 + 1 from rfl, gr_step hw z 0 _ (by omega) (A 0 (by omega)), show f + 1 + 4 = f + 1 + 3 + 1 from rfl,
    gr_step hw (E := E) (wJ z (rf ev 123 m) 0 _) 1 _ (by omega) ((ne _ _ _ _ (by decide)).trans (A 1 (by omega))), show f + 1 + 3 = f + 1 + 2 + 1 from rfl,
    gr_step hw (E := E) (wJ (wJ z (rf ev 123 m) 0 _) (rf ev 123 m) 1 _) 2 _ (by omega) ((ne _ _ _ _ (by decide)).trans ((ne _ _ _ _ (by decide)).trans (A 2 (by omega)))), show f + 1 + 2 = f + 1 + 1 + 1 from rfl,
    gr_step hw (E := E) (wJ (wJ (wJ z (rf ev 123 m) 0 _) (rf ev 123 m) 1 _) (rf ev 123 m) 2 _) 3 _ (by omega) ((ne _ _ _ _ (by decide)).trans ((ne _ _ _ _ (by decide)).trans ((ne _ _ _ _ (by decide)).trans (A 3 (by omega))))),
    gr_step hw (E := E) (wJ (wJ (wJ (wJ z (rf ev 123 m) 0 _) (rf ev 123 m) 1 _) (rf ev 123 m) 2 _) (rf ev 123 m) 3 _) 4 _ (by omega) ((ne _ _ _ _ (by decide)).trans ((ne _ _ _ _ (by decide)).trans ((ne _ _ _ _ (by decide)).trans ((ne _ _ _ _ (by decide)).trans (A 4 (by omega)))))),
    wJ5, q_X8_scale_104, if_pos (by decide)]
theorem s5_9 {E : Cv} (h : S5 E) : ∀ k, k < 5 → b9 (co E k) := by
  obtain ⟨h1, h2, h3, h4, h6⟩ := h
  intro k hk
  rcases (show k = 0 ∨ k = 1 ∨ k = 2 ∨ k = 3 ∨ k = 4 by omega) with rfl | rfl | rfl | rfl | rfl
  · show b9 (a1 E); exact ⟨by omega, by omega⟩
  · show b9 (a2 E); exact ⟨by omega, by omega⟩
  · show b9 (a3 E); exact ⟨by omega, by omega⟩
  · show b9 (a4 E); exact ⟨by omega, by omega⟩
  · show b9 (a6 E); exact ⟨by omega, by omega⟩
theorem s5_R {E : Cv} (h : S5 E) : ∀ k, inR (co E k) := by
  obtain ⟨h1, h2, h3, h4, h6⟩ := h
  intro k
  unfold co
  repeat' split
  all_goals exact ⟨by omega, by omega⟩
theorem s5_co {E : Cv} (h : S5 E) {k : Nat} (hk : k < 5) : -100000 ≤ co E k ∧ co E k ≤ 100000 := by
  obtain ⟨h1, h2, h3, h4, h6⟩ := h
  unfold co
  repeat' split
  all_goals omega
theorem sc_9 {E : Cv} (h : S5 E) {u : Int} (hu : 2 ≤ u ∧ u ≤ 9) : ∀ k, k < 5 → b9 (co (sc E u) k) := by
  intro k hk
  rw [← co_sc E u hk]
  obtain ⟨p1, p2⟩ := pw_6 hu (wt_le hk)
  have := mb (Y := 2147483648) (s5_co h hk) (show -2147483648 ≤ u ^ wt k ∧ u ^ wt k ≤ 2147483648 by omega)
  exact ⟨by omega, by omega⟩
theorem dn_9 {F : Cv} {u : Int} (hu : 2 ≤ u ∧ u ≤ 9) (h : S5 (sc F u)) : ∀ k, k < 5 → b9 (co F k) := by
  intro k hk
  obtain ⟨p1, p2⟩ := pw_6 hu (wt_le hk)
  have := dvd_ab (show 1 ≤ u ^ wt k from p1) (by rw [Int.mul_comm]; exact (co_sc F u hk).symm) (s5_co h hk)
  exact ⟨by omega, by omega⟩
theorem abs_ph {D : Int} (hb : b9 D) : (if 0 < ph D then ph D else -ph D) = ph (D.natAbs : Int) := by
  have hb1 := hb.1
  have hb2 := hb.2
  rw [l0, ph_neg]
  by_cases h : 0 < D
  · rw [if_pos (by rw [ph_lt z_R ⟨by omega, by omega⟩]; exact h)]; congr 1; omega
  · rw [if_neg (by rw [ph_lt z_R ⟨by omega, by omega⟩]; exact h)]; congr 1; omega
theorem op_scale {ev : EV} {th m : Nat} (S : Sep ev th m) {z : PS} (I : IV ev th m z) (l1 l2 l3 : Int32) : OP ev th m (g_X7_scale ev z th l1 l2 l3) (fun z1 => g_X8_scale ev z1 m l1 l2 l3) := by
  obtain ⟨n, C, L, U, I⟩ := I
  have hD := S.2.2.2
  have h16 := I.1.2.1
  have M0 := I.2.fm hD (w120 ev m z 0)
  have w0 := IV.w0 S I (NEU.rf ev th m z) (MU.rf ev m z) 0
  have r2 := i_R l2
  by_cases hc : ∃ c, c < n ∧ l1 = nI c
  · obtain ⟨c, c1, rfl⟩ := hc
    obtain ⟨f1, f2, f3, f4, f5⟩ := I.1.he c1
    have i2 : (2 : Int32).toInt = 2 := by decide
    have i9 : (9 : Int32).toInt = 9 := by decide
    by_cases hw : 2 ≤ l2.toInt ∧ l2.toInt ≤ 9
    · obtain ⟨w, w1, w2, w3⟩ : ∃ w : Nat, 2 ≤ w ∧ w ≤ 9 ∧ l2 = nI w := by
        refine ⟨l2.toInt.toNat, by omega, by omega, ?_⟩
        apply Int32.toInt_inj.mp
        rw [nI_toInt (by omega)]; omega
      subst w3
      have e2 : ¬ nI w < (2 : Int32) := by rw [show (2 : Int32) = nI 2 from rfl, nI_ltI (by omega) (by omega)]; omega
      have e9 : nI w ≤ (9 : Int32) := by rw [show (9 : Int32) = nI 9 from rfl, nI_leI (by omega) (by omega)]; omega
      have hu : 2 ≤ (w : Int) ∧ (w : Int) ≤ 9 := by omega
      have h7 := Eq.refl (g_X7_scale ev z th (nI c) (nI w) l3)
      conv at h7 =>
        rhs
        unfold g_X7_scale
        rw [c_th1 I.1.1 h16 c1, ob_e, if_neg ne10, if_neg e2, if_pos e9, ck_e (inB_n (show c < 16 by omega) (by omega)), nI_clamp (show c < 2 ^ 31 by omega), nI_L (show w < 2147483648 by omega)]
      have h8 : ∀ z1, MI ev m z1 n C → g_X8_scale ev z1 m (nI c) (nI w) l3 = if l3 = 0 then (ob (g_X8_shrinks ev (sA (w32 z1 120 m 0) (rf ev 123 m) (C c)) m (ph (w : Int))) (fun qv11 => bd qv11.1 (fun v11 => bd qv11.2 (fun z10 => if v11 = 0 then (some ((-1 : Int32), z10)) else (ob (g_X8_keeps ev z10 m) (fun qv14 => bd qv14.1 (fun v14 => bd qv14.2 (fun z13 => some (v14, z13))))))))) else (ob (g_X8_disc ev (sA (w32 z1 120 m 0) (rf ev 123 m) (C c)) m) (fun v8 => ob (g_X8_size v8) (fun v9 => q_X8_scale_68 ev m FU (nI w) v9 (0 : Int32) (sA (w32 z1 120 m 0) (rf ev 123 m) (C c))))) := by
        intro z1 M
        have M' := M.fm hD (w120 ev m z1 0)
        unfold g_X8_scale
        rw [bd_e, m_th1 M'.1.2.1 h16 c1, ob_e, if_neg ne10, nI_L (show w < 2147483648 by omega), show (2 : Int64) = ph 2 from rfl, show (9 : Int64) = ph 9 from rfl, m_within ⟨by omega, by omega⟩ ⟨by omega, by omega⟩ ⟨by omega, by omega⟩, ob_e, if_pos hu, if_neg ne10, n_loads hD M'.1 c1, ob_e]
      by_cases h3 : l3 = 0
      · rw [if_pos h3] at h7
        have h8' := fun z1 M => (h8 z1 M).trans (if_pos h3)
        by_cases hs : ∀ k, k < 5 → (w : Int) ^ wt k ∣ co (C c) k
        · obtain ⟨F, hF⟩ := sc_of hs
          rw [(c_can f1 (cr_of (s5_9 f4.2.1)) hu).1 hs, ob_e, if_neg ne10] at h7
          rw [← hF] at f1 f4
          rw [c_shrink f1 (cr_of (s5_9 f4.2.1)) hu, ob_e] at h7
          obtain ⟨u', k⟩ := KG.dn ev hu.1 f4.1 f4.2.2.2 f4.2.2.1
          have hdd : b9 (dd F) := by
            have := dvd_ab (show 1 ≤ (w : Int) ^ 12 from Int.pow_pos (by omega)) (dd_sc F w) f4.2.2.1
            exact ⟨by omega, by omega⟩
          obtain ⟨r, z2, b1, b2, b3⟩ := both_keep S I (sE_neu ev th m z _) (sE_mu ev m z _ _) (EQ_sE z (rf ev 102 th) F) k (fun _ => f4.2.2.2) (dn_9 hu f4.2.1) hdd
          have sh1 := (n_shr (AM_sA ev m (w32 z2 120 m 0) (C c)) hu (by rw [← hF]; exact s5_R f4.2.1)).1 hs F hF
          rw [sA_sA] at sh1
          obtain ⟨z4, d1, d2⟩ := b3 _ ((w120 ev m z2 0).tr (FM_sA ev m _ F (Or.inl rfl))) (AH_sA ev m _ 123 _)
          refine ⟨r, z2, z4, by rw [h7, b1, ob_e, bd_e, bd_e], ?_, d2⟩
          dsimp only
          rw [h8' z2 (I.2.mu b2), sh1, ob_e, bd_e, bd_e, if_neg ne10, d1, ob_e, bd_e, bd_e]
        · rw [(c_can f1 (cr_of (s5_9 f4.2.1)) hu).2 hs, ob_e, if_pos rfl] at h7
          have sh0 := (n_shr (AM_sA ev m (w32 z 120 m 0) (C c)) hu (s5_R f4.2.1)).2 hs
          refine ⟨-1, z, _, h7, ?_, n, C, L, U, INV.fm S I.1 I.2 (MU.rf ev m z) ((w120 ev m z 0).tr (FM_sA ev m _ (C c) (Or.inl rfl)))⟩
          dsimp only
          rw [h8' z I.2, sh0, ob_e, bd_e, bd_e, if_pos rfl]
      · rw [if_neg h3] at h7
        have h8' := fun z1 M => (h8 z1 M).trans (if_neg h3)
        have d8 := f4.2.2.1
        have hb := d8_9 d8
        have d0 : dd (C c) ≠ 0 := f4.1.2.2.2.2.1
        have u12 := pw_u hu (e := 12) (by omega)
        have tds := td_small (b := 1000000000000000000) (c := (w : Int) ^ 12) (by omega) u12.1
        have d81 := d8.1
        have d82 := d8.2
        rw [show (12 : Int32) = nI 12 from rfl, c_power _ (by omega), ob_e, show (1000000000000000000 : Int64) = ph 1000000000000000000 from rfl, c_quot u12.1 u12.2.1, ob_e, ph_div ⟨by omega, by omega⟩ u12.2.1 u12.1, f1.dd, abs_ph hb] at h7
        have hz : ∀ z1 : PS, MI ev m z1 n C → g_X8_scale ev z1 m (nI c) (nI w) l3 = if ((dd (C c)).natAbs : Int) * (w : Int) ^ 12 ≤ 1000000000000000000 then q_X8_scale_104 ev m FU (nI w) (0 : Int32) (sA (w32 z1 120 m 0) (rf ev 123 m) (C c)) else some ((-1 : Int32), sA (w32 z1 120 m 0) (rf ev 123 m) (C c)) := by
          intro z1 M
          obtain ⟨fn, hfn⟩ := FU_ge (d := 12) (by omega)
          rw [h8' z1 M, n_dd (AM_sA ev m _ (C c)), ob_e, m_size hb, ob_e, hfn, show (0 : Int32) = nI 0 from rfl, sc_loop (D := ((dd (C c)).natAbs : Int)) (by omega) ⟨w1, w2⟩ 12 fn 0 _ (by omega) ⟨by omega, Or.inl (by rw [Int.pow_zero, Int.mul_one])⟩, ← hfn, nI_0]
        by_cases hg : ((dd (C c)).natAbs : Int) * (w : Int) ^ 12 ≤ 1000000000000000000
        · rw [if_pos ((ph_le ⟨by omega, by omega⟩ ⟨by omega, by omega⟩).mpr ((td_le_iff (by omega) u12.1).mpr hg)), c_grow f1, ob_e] at h7
          have hdd : D8 (sc (C c) w) := by
            unfold D8
            rw [dd_sc]
            have e : ((w : Int) ^ 12 * dd (C c)).natAbs = (dd (C c)).natAbs * ((w : Int) ^ 12).natAbs := by rw [Int.natAbs_mul, Nat.mul_comm]
            have e1 : (((w : Int) ^ 12).natAbs : Int) = (w : Int) ^ 12 := by have := u12.1; omega
            have e2 : (((w : Int) ^ 12 * dd (C c)).natAbs : Int) = ((dd (C c)).natAbs : Int) * (w : Int) ^ 12 := by rw [e]; push_cast; rw [← e1]; push_cast; rfl
            omega
          obtain ⟨r, z2, b1, b2, b3⟩ := both_keep S I (sE_neu ev th m z _) (sE_mu ev m z _ _) (EQ_sE z (rf ev 102 th) (sc (C c) w)) (f4.1.up w1 w2) (fun _ => f4.2.2.2) (sc_9 f4.2.1 hu) (d8_9 hdd)
          obtain ⟨z4, d1, d2⟩ := b3 _ ((w120 ev m z2 0).tr (FM_sA ev m _ (sc (C c) w) (Or.inl rfl))) (AH_sA ev m _ 123 _)
          refine ⟨r, z2, z4, by rw [h7, b1, ob_e, bd_e, bd_e], ?_, d2⟩
          dsimp only
          rw [hz z2 (I.2.mu b2), if_pos hg, gr_all w2 (AM_sA ev m _ (C c)), sA_sA, d1, ob_e, bd_e, bd_e]
        · rw [if_neg (fun hh => hg ((td_le_iff (by omega) u12.1).mp ((ph_le ⟨by omega, by omega⟩ ⟨by omega, by omega⟩).mp hh)))] at h7
          refine ⟨-1, z, _, h7, ?_, n, C, L, U, INV.fm S I.1 I.2 (MU.rf ev m z) ((w120 ev m z 0).tr (FM_sA ev m _ (C c) (Or.inl rfl)))⟩
          dsimp only
          rw [hz z I.2, if_neg hg]
    · refine ⟨-1, z, w32 z 120 m 0, ?_, ?_, w0⟩
      · unfold g_X7_scale
        rw [c_th1 I.1.1 h16 c1, ob_e, if_neg ne10]
        by_cases h2 : l2 < (2 : Int32)
        · rw [if_pos h2]
        · rw [if_neg h2, if_neg (fun h9 => hw ⟨by rw [Int32.lt_iff_toInt_lt, i2] at h2; omega, by rw [Int32.le_iff_toInt_le, i9] at h9; omega⟩)]
      · dsimp only
        unfold g_X8_scale
        rw [bd_e, m_th1 M0.1.2.1 h16 c1, ob_e, if_neg ne10, i64 l2, show (2 : Int64) = ph 2 from rfl, show (9 : Int64) = ph 9 from rfl, m_within (i_in l2) ⟨by omega, by omega⟩ ⟨by omega, by omega⟩, ob_e, if_neg hw, if_pos rfl]
  · refine ⟨-1, z, w32 z 120 m 0, ?_, ?_, w0⟩
    · unfold g_X7_scale; rw [c_th0 I.1.1 h16 hc, ob_e, if_pos rfl]
    · dsimp only; unfold g_X8_scale; rw [bd_e, m_th0 M0.1.2.1 h16 hc, ob_e, if_pos rfl]
