/-! a curve is kept -/
theorem i64 (l : Int32) : l.toInt64 = ph l.toInt := by
  have h1 := l.le_toInt
  have h2 := l.toInt_lt
  exact Int64.toInt_inj.mp (by rw [Int32.toInt_toInt64, ph_int ⟨by omega, by omega⟩])
theorem i_R (l : Int32) : -2147483648 ≤ l.toInt ∧ l.toInt < 2147483648 := by
  have h1 := l.le_toInt
  have h2 := l.toInt_lt
  exact ⟨by omega, by omega⟩
theorem i_in (l : Int32) : inR l.toInt := by have := i_R l; exact ⟨by omega, by omega⟩
theorem c_within {v M : Int} (hv : inR v) (h0 : 0 ≤ M) (hM : M < 9223372036854775808) : g_X7_within (ph v) (ph M) = some (if -M ≤ v ∧ v ≤ M then 1 else 0) := by
  unfold g_X7_within
  rw [ph_neg]
  by_cases h1 : v < -M
  · rw [if_pos ((ph_lt hv ⟨by omega, by omega⟩).mpr h1), if_neg (by omega)]
  · rw [if_neg (fun h => h1 ((ph_lt hv ⟨by omega, by omega⟩).mp h))]
    by_cases h2 : M < v
    · rw [if_pos ((ph_lt ⟨by omega, by omega⟩ hv).mpr h2), if_neg (by omega)]
    · rw [if_neg (fun h => h2 ((ph_lt ⟨by omega, by omega⟩ hv).mp h)), if_pos (by omega)]
theorem m_within {v a b : Int} (hv : inR v) (ha : inR a) (hb : inR b) : g_X8_within (ph v) (ph a) (ph b) = some (if a ≤ v ∧ v ≤ b then 1 else 0) := by
  unfold g_X8_within
  by_cases h1 : v < a
  · rw [if_pos ((ph_lt hv ha).mpr h1), if_neg (by omega)]
  · rw [if_neg (fun h => h1 ((ph_lt hv ha).mp h))]
    by_cases h2 : b < v
    · rw [if_pos ((ph_lt hb hv).mpr h2), if_neg (by omega)]
    · rw [if_neg (fun h => h2 ((ph_lt hb hv).mp h)), if_pos (by omega)]
theorem ite01 {c : Prop} [Decidable c] {α : Type} (x y : α) : (if (if c then (1 : Int32) else 0) = 0 then x else y) = if c then y else x := by
  by_cases h : c
  · rw [if_pos h, if_pos h, if_neg (by decide)]
  · rw [if_neg h, if_neg h, if_pos rfl]
theorem iand {a b : Prop} [Decidable a] [Decidable b] {α : Type} (x y : α) : (if a then (if b then x else y) else y) = if a ∧ b then x else y := by
  by_cases h : a <;> by_cases h' : b <;> simp [h, h']
def CR (E : Cv) : Prop := inR (a1 E) ∧ inR (a2 E) ∧ inR (a3 E) ∧ inR (a4 E) ∧ inR (a6 E)
theorem c_bounds {ev : EV} {z : PS} {e : Nat} {E : Cv} (h : EQ z e E) (hc : CR E) (hd : b9 (dd E)) : (S5 E ∧ D8 E → g_X0_isWithinBounds ev z e = some 1) ∧ (¬ (S5 E ∧ D8 E) → g_X0_isWithinBounds ev z e = some 0) := by
  obtain ⟨r1, r2, r3, r4, r6⟩ := hc
  have rd : inR (dd E) := ⟨by have := hd.1; omega, by have := hd.2; omega⟩
  have key : g_X0_isWithinBounds ev z e = if (-100000 ≤ a1 E ∧ a1 E ≤ 100000) ∧ (-100000 ≤ a2 E ∧ a2 E ≤ 100000) ∧ (-100000 ≤ a3 E ∧ a3 E ≤ 100000) ∧ (-100000 ≤ a4 E ∧ a4 E ≤ 100000) ∧ (-100000 ≤ a6 E ∧ a6 E ≤ 100000) ∧ (-1000000000000000000 ≤ dd E ∧ dd E ≤ 1000000000000000000) then some 1 else some 0 := by
    unfold g_X0_isWithinBounds
    rw [h.a1, h.a2, h.a3, h.a4, h.a6, h.dd, show (100000 : Int64) = ph 100000 from rfl, show (1000000000000000000 : Int64) = ph 1000000000000000000 from rfl,
      c_within r1 (by omega) (by omega), c_within r2 (by omega) (by omega), c_within r3 (by omega) (by omega), c_within r4 (by omega) (by omega), c_within r6 (by omega) (by omega), c_within rd (by omega) (by omega)]
    simp only [ob_e, ite01]
    by_cases c1 : -100000 ≤ a1 E ∧ a1 E ≤ 100000
    · by_cases c2 : -100000 ≤ a2 E ∧ a2 E ≤ 100000
      · by_cases c3 : -100000 ≤ a3 E ∧ a3 E ≤ 100000
        · by_cases c4' : -100000 ≤ a4 E ∧ a4 E ≤ 100000
          · by_cases c6' : -100000 ≤ a6 E ∧ a6 E ≤ 100000
            · rw [if_pos c1, if_pos c2, if_pos c3, if_pos c4', if_pos c6']
              by_cases c7 : -1000000000000000000 ≤ dd E ∧ dd E ≤ 1000000000000000000
              · rw [if_pos c7, if_pos ⟨c1, c2, c3, c4', c6', c7⟩]
              · rw [if_neg c7, if_neg (fun hh => c7 hh.2.2.2.2.2)]
            · rw [if_pos c1, if_pos c2, if_pos c3, if_pos c4', if_neg c6', if_neg (fun hh => c6' hh.2.2.2.2.1)]
          · rw [if_pos c1, if_pos c2, if_pos c3, if_neg c4', if_neg (fun hh => c4' hh.2.2.2.1)]
        · rw [if_pos c1, if_pos c2, if_neg c3, if_neg (fun hh => c3 hh.2.2.1)]
      · rw [if_pos c1, if_neg c2, if_neg (fun hh => c2 hh.2.1)]
    · rw [if_neg c1, if_neg (fun hh => c1 hh.1)]
  rw [key]
  constructor
  · intro hh
    rw [if_pos ⟨hh.1.1, hh.1.2.1, hh.1.2.2.1, hh.1.2.2.2.1, hh.1.2.2.2.2, hh.2⟩]
  · intro hh
    rw [if_neg (fun g => hh ⟨⟨g.1, g.2.1, g.2.2.1, g.2.2.2.1, g.2.2.2.2.1⟩, g.2.2.2.2.2⟩)]
theorem c_hold {ev : EV} {z : PS} {h x : Nat} {E L : Cv} {u : Int} (hx : EQ z x E) (k : KG E L u) (h5 : B5 L) (h8 : D8 E) : g_X2_hold ev z h x = some (w32 (w64 (sE (sE z (rf ev 40 h) E) (rf ev 41 h) L) 42 h (ph u)) 44 h 0) := by
  unfold g_X2_hold
  rw [c_take hx, ob_e, (EQ_sE z (rf ev 40 h) E).c4, (EQ_sE z (rf ev 40 h) E).c6, (EQ_sE z (rf ev 40 h) E).dd, c_low k h5 h8, ob_e, bd_e, bd_e, bd_e, bd_e]
theorem r32_ne (z : PS) {i j : Nat} (x y : Nat) (v : Int32) (h : j ≠ i) : r32 (w32 z i x v) j y = r32 z j y := by simp [w32, r32, h]
theorem r32_eq (z : PS) (i x : Nat) (v : Int32) : r32 (w32 z i x v) i x = v := by simp [w32, r32]
theorem r32_nx (z : PS) (i : Nat) {x y : Nat} (v : Int32) (h : y ≠ x) : r32 (w32 z i x v) i y = r32 z i y := by simp [w32, r32, h]
theorem r64_ne (z : PS) {i j : Nat} (x y : Nat) (v : Int64) (h : j ≠ i) : r64 (w64 z i x v) j y = r64 z j y := by simp [w64, r64, h]
theorem r64_nx (z : PS) (i : Nat) {x y : Nat} (v : Int64) (h : y ≠ x) : r64 (w64 z i x v) i y = r64 z i y := by simp [w64, r64, h]
theorem sE_hi (z : PS) (e x : Nat) (E : Cv) {k : Nat} (h : 12 ≤ k) : r64 (sE z e E) k x = r64 z k x := by show (if _ then _ else _) = _; rw [if_neg (by omega)]
theorem HE.cg {ev : EV} {h : Nat} {z z' : PS} {E L : Cv} {u : Int} (H : HE ev h z E L u) (e0 : ∀ k, k < 12 → z'.2.1 k (rf ev 40 h) = z.2.1 k (rf ev 40 h)) (e1 : ∀ k, k < 12 → z'.2.1 k (rf ev 41 h) = z.2.1 k (rf ev 41 h)) (e2 : z'.2.1 42 h = z.2.1 42 h) (e3 : z'.1 44 h = z.1 44 h) (e4 : z'.1 61 (rf ev 43 h) = z.1 61 (rf ev 43 h)) (e5 : ∀ j, z'.2.2.1 (rf ev 60 (rf ev 43 h)) j = z.2.2.1 (rf ev 60 (rf ev 43 h)) j) : HE ev h z' E L u := by
  obtain ⟨h1, h2, h3, h4, h5⟩ := H
  refine ⟨h1.cg e0, h2.cg e1, e2.trans h3, h4, ?_⟩
  rcases h5 with h5 | ⟨h5, k, f, c, p⟩
  · exact Or.inl (e3.trans h5)
  · exact Or.inr ⟨by show ¬ z'.1 44 _ = 0; rw [e3]; exact h5, k, f, ⟨e4.trans c.1, fun j hj => (e5 j).trans (c.2 j hj)⟩, p⟩
theorem c_keep {ev : EV} {th m : Nat} (S : Sep ev th m) {z : PS} {n : Nat} {C L : Nat → Cv} {U : Nat → Int} (I : CI ev th z n C L U) {E G : Cv} {u : Int} (hE : EQ z (rf ev 102 th) E) (k : KG E G u) (h5 : S5 E → B5 G) (hc : CR E) (hd : b9 (dd E)) :
    (n < 16 ∧ S5 E ∧ D8 E → ∃ z', g_X7_keepDraft ev z th = some (nI n, z') ∧ CI ev th z' (n + 1) (upF C n E) (upF L n G) (upF U n u) ∧ MU ev m z z') ∧ (¬ (n < 16 ∧ S5 E ∧ D8 E) → g_X7_keepDraft ev z th = some (-1, z)) := by
  obtain ⟨i1, i2, i3, i4⟩ := I
  obtain ⟨p1, p2⟩ := c_bounds (ev := ev) hE hc hd
  constructor
  · intro ⟨hn, s5, d8⟩
    have e6 : ∀ v : Int32, r32 (w32 (w32 (w64 (sE (sE z (rf ev 40 (Ho ev th n)) E) (rf ev 41 (Ho ev th n)) G) 42 (Ho ev th n) (ph u)) 44 (Ho ev th n) 0) 105 th v) 101 th = nI n := fun v => (r32_ne _ _ _ _ (by decide)).trans ((r32_ne _ _ _ _ (by decide)).trans i1)
    refine ⟨w32 (w32 (w32 (w64 (sE (sE z (rf ev 40 (Ho ev th n)) E) (rf ev 41 (Ho ev th n)) G) 42 (Ho ev th n) (ph u)) 44 (Ho ev th n) 0) 105 th (-1)) 101 th (nI (n + 1)), ?_, ⟨r32_eq _ _ _ _, by omega, ?_, Or.inl ?_⟩, ?_⟩
    · unfold g_X7_keepDraft
      rw [i1, if_neg (by rw [show (16 : Int32) = nI 16 from rfl, i_le (by omega) (by omega)]; omega), p1 ⟨s5, d8⟩, ob_e, if_neg (by decide), ck_e (inB_n hn (by omega)), nI_clamp (by omega), c_hold hE k (h5 s5) d8, ob_e, bd_e, bd_e, e6, bd_e, nI_s, r32_eq, nI_pred]
    · intro i hi
      rcases (show i = n ∨ i < n by omega) with h | h
      · subst h
        rw [upF_n, upF_n, upF_n]
        refine ⟨?_, ?_, ?_, ⟨k, s5, d8, h5 s5⟩, Or.inl ?_⟩
        · intro j hj
          show r64 (w64 (sE (sE z (rf ev 40 (Ho ev th i)) E) (rf ev 41 (Ho ev th i)) G) 42 (Ho ev th i) (ph u)) j (rf ev 40 (Ho ev th i)) = _
          rw [r64_ne _ _ _ _ (by omega), sE_ne _ _ (S.ol (by omega) (by omega))]
          exact EQ_sE z _ E j hj
        · intro j hj
          show r64 (w64 (sE (sE z (rf ev 40 (Ho ev th i)) E) (rf ev 41 (Ho ev th i)) G) 42 (Ho ev th i) (ph u)) j (rf ev 41 (Ho ev th i)) = _
          rw [r64_ne _ _ _ _ (by omega)]
          exact EQ_sE _ _ G j hj
        · exact rw_eq _ _ _ _
        · rw [r32_ne _ _ _ _ (by decide), r32_ne _ _ _ _ (by decide), r32_eq]
      · rw [upF_lt _ _ h, upF_lt _ _ h, upF_lt _ _ h]
        have hne := (S.2.2.1 i n (by omega) (by omega) (by omega)).1
        refine (i3 i h).cg ?_ ?_ ?_ ?_ ?_ (fun _ => rfl)
        · intro j hj
          show r64 (w64 (sE (sE z (rf ev 40 (Ho ev th n)) E) (rf ev 41 (Ho ev th n)) G) 42 (Ho ev th n) (ph u)) j _ = r64 z j _
          rw [r64_ne _ _ _ _ (by omega), sE_ne _ _ (S.ol (by omega) (by omega)), sE_ne _ _ (S.oo (by omega) (by omega) (by omega))]
        · intro j hj
          show r64 (w64 (sE (sE z (rf ev 40 (Ho ev th n)) E) (rf ev 41 (Ho ev th n)) G) 42 (Ho ev th n) (ph u)) j _ = r64 z j _
          rw [r64_ne _ _ _ _ (by omega), sE_ne _ _ (S.ll (by omega) (by omega) (by omega)), sE_ne _ _ (fun e => S.ol (i := n) (j := i) (by omega) (by omega) e.symm)]
        · show r64 (w64 (sE (sE z (rf ev 40 (Ho ev th n)) E) (rf ev 41 (Ho ev th n)) G) 42 (Ho ev th n) (ph u)) 42 _ = r64 z 42 _
          rw [r64_nx _ _ _ hne, sE_hi _ _ _ _ (by omega), sE_hi _ _ _ _ (by omega)]
        · show r32 (w32 (w32 (w32 _ _ _ _) _ _ _) _ _ _) 44 _ = r32 z 44 _
          rw [r32_ne _ _ _ _ (by decide), r32_ne _ _ _ _ (by decide), r32_nx _ _ _ hne]; rfl
        · show r32 (w32 (w32 (w32 _ _ _ _) _ _ _) _ _ _) 61 _ = r32 z 61 _
          rw [r32_ne _ _ _ _ (by decide), r32_ne _ _ _ _ (by decide), r32_ne _ _ _ _ (by decide)]; rfl
    · rw [r32_ne _ _ _ _ (by decide), r32_eq]
    · refine ⟨fun i x hi => ?_, fun _ => rfl, rfl⟩
      show r32 (w32 (w32 (w32 _ _ _ _) _ _ _) _ _ _) i x = r32 z i x
      rw [r32_ne _ _ _ _ (by omega), r32_ne _ _ _ _ (by omega), r32_ne _ _ _ _ (by omega)]; rfl
  · intro hh
    unfold g_X7_keepDraft
    rw [i1]
    by_cases hn : n < 16
    · rw [if_neg (by rw [show (16 : Int32) = nI 16 from rfl, i_le (by omega) (by omega)]; omega), p2 (fun g => hh ⟨hn, g⟩), ob_e, if_pos rfl]
    · rw [if_pos (by rw [show (16 : Int32) = nI 16 from rfl, i_le (by omega) (by omega)]; omega)]
/-! the reference's -/
def bI (b : Bool) : Int32 := if b then 1 else 0
theorem bI_0 (b : Bool) : bI b = 0 ↔ b = false := by cases b <;> decide
theorem bI_ck (b : Bool) : bI b = 0 ∨ bI b = 1 := by cases b <;> decide
def sb1 (x : Int) : Bool := decide (-100000 ≤ x ∧ x ≤ 100000)
def sb8 (E : Cv) : Bool := decide (-1000000000000000000 ≤ dd E ∧ dd E ≤ 1000000000000000000)
theorem ss_step {ev : EV} {m : Nat} {z : PS} {E : Cv} (A : AM ev m z E) (hc : ∀ k, k < 5 → b9 (co E k)) {k : Nat} (hk : k < 5) (n : Nat) (b : Bool) : q_X8_isSmall_22 ev z m (n + 1) (bI b) (nI k) = q_X8_isSmall_22 ev z m n (bI (b && sb1 (co E k))) (nI (k + 1)) := by
  have hb := hc k hk
  have h1 := hb.1
  have h2 := hb.2
  rw [q_X8_isSmall_22, if_neg (lt5 hk), nI_s]
  cases b with
  | false => rw [if_pos (by decide), bd_e]; rfl
  | true =>
    rw [if_neg (by decide), ck_e (inB_n hk (by omega)), cl k hk, A k hk, m_size hb, ob_e, show (100000 : Int64) = ph 100000 from rfl, bd_e, bd_e]
    by_cases h : -100000 ≤ co E k ∧ co E k ≤ 100000
    · rw [if_neg (by rw [ph_lt ⟨by omega, by omega⟩ ⟨by omega, by omega⟩]; omega), show sb1 (co E k) = true from decide_eq_true h]; rfl
    · rw [if_pos (by rw [ph_lt ⟨by omega, by omega⟩ ⟨by omega, by omega⟩]; omega), show sb1 (co E k) = false from decide_eq_false h]; rfl
theorem ss_all {ev : EV} {m : Nat} {z : PS} {E : Cv} (A : AM ev m z E) (hc : ∀ k, k < 5 → b9 (co E k)) (b : Bool) : q_X8_isSmall_22 ev z m FU (bI b) (0 : Int32) = some (bI (b && sb1 (co E 0) && sb1 (co E 1) && sb1 (co E 2) && sb1 (co E 3) && sb1 (co E 4))) := by
  obtain ⟨n, hn⟩ := FU5
  rw [hn, show (0 : Int32) = nI 0 from rfl, show n + 1 + 5 = n + 1 + 4 + 1 from rfl, ss_step A hc (by omega), show n + 1 + 4 = n + 1 + 3 + 1 from rfl, ss_step A hc (by omega), show n + 1 + 3 = n + 1 + 2 + 1 from rfl, ss_step A hc (by omega), show n + 1 + 2 = n + 1 + 1 + 1 from rfl, ss_step A hc (by omega), ss_step A hc (by omega), q_X8_isSmall_22, if_pos (by decide), ck_e (bI_ck _)]
theorem n_small {ev : EV} {m : Nat} {z : PS} {E : Cv} (A : AM ev m z E) (hc : ∀ k, k < 5 → b9 (co E k)) (hd : b9 (dd E)) : (S5 E ∧ D8 E → g_X8_isSmall ev z m = some 1) ∧ (¬ (S5 E ∧ D8 E) → g_X8_isSmall ev z m = some 0) := by
  have h1 := hd.1
  have h2 := hd.2
  have key : g_X8_isSmall ev z m = some (bI (sb8 E && sb1 (co E 0) && sb1 (co E 1) && sb1 (co E 2) && sb1 (co E 3) && sb1 (co E 4))) := by
    unfold g_X8_isSmall
    rw [n_dd A, ob_e, m_size hd, ob_e, show (1000000000000000000 : Int64) = ph 1000000000000000000 from rfl]
    by_cases h : D8 E
    · rw [if_neg (by unfold D8 at h; rw [ph_lt ⟨by omega, by omega⟩ ⟨by omega, by omega⟩]; omega), show sb8 E = true from decide_eq_true h]
      exact ss_all A hc true
    · rw [if_pos (by unfold D8 at h; rw [ph_lt ⟨by omega, by omega⟩ ⟨by omega, by omega⟩]; omega), show sb8 E = false from decide_eq_false h]
      exact ss_all A hc false
  rw [key]
  have e : (sb8 E && sb1 (co E 0) && sb1 (co E 1) && sb1 (co E 2) && sb1 (co E 3) && sb1 (co E 4)) = true ↔ S5 E ∧ D8 E := by
    simp only [Bool.and_eq_true, sb1, sb8, decide_eq_true_eq]
    constructor
    · intro ⟨⟨⟨⟨⟨a, b⟩, c⟩, d⟩, e⟩, f⟩; exact ⟨⟨b, c, d, e, f⟩, a⟩
    · intro ⟨⟨b, c, d, e, f⟩, a⟩; exact ⟨⟨⟨⟨⟨a, b⟩, c⟩, d⟩, e⟩, f⟩
  constructor
  · intro h; rw [e.mpr h]; rfl
  · intro h
    rw [Bool.eq_false_iff.mpr (fun hh => h (e.mp hh))]; rfl
theorem kp_step {ev : EV} {m : Nat} {z : PS} {n k : Nat} (h : r32 z 121 m = nI n) (hn : n < 16) (hk : k < 5) {x : Int} (hx : rJ z (rf ev 123 m) k = ph x) (f : Nat) : q_X8_keeps_20 ev m (f + 1) (nI k) z = q_X8_keeps_20 ev m f (nI (k + 1)) (wJ z (rf ev 122 m) (5 * n + k) (ph x)) := by
  rw [q_X8_keeps_20, if_neg (lt5 hk), ck_e (inB_n hk (by omega)), cl k hk, hx, bd_e, h, show (5 : Int32) = nI 5 from rfl, i_mulN, i_add, ck_e (inB_n (show 5 * n + k < 80 by omega) (by omega)), nI_clamp (show 5 * n + k < 2 ^ 31 by omega), bd_e, bd_e, nI_s]
theorem w5_r (z : PS) (B o : Nat) (v0 v1 v2 v3 v4 : Int64) (j : Nat) : rJ (wJ (wJ (wJ (wJ (wJ z B (o + 0) v0) B (o + 1) v1) B (o + 2) v2) B (o + 3) v3) B (o + 4) v4) B j = if j = o + 4 then v4 else if j = o + 3 then v3 else if j = o + 2 then v2 else if j = o + 1 then v1 else if j = o + 0 then v0 else rJ z B j := by simp [rJ, wJ]
theorem n_keeps {ev : EV} {m : Nat} (hD : DM ev m) {z : PS} {n : Nat} {C : Nat → Cv} (M : MI ev m z n C) {E : Cv} (A : AH ev m z 123 E) (hc : ∀ k, k < 5 → b9 (co E k)) (hd : b9 (dd E)) :
    (n < 16 ∧ S5 E ∧ D8 E → ∃ z', g_X8_keeps ev z m = some (nI n, z') ∧ MI ev m z' (n + 1) (upF C n E) ∧ ∀ th, NEU ev th m z z') ∧ (¬ (n < 16 ∧ S5 E ∧ D8 E) → g_X8_keeps ev z m = some (-1, z)) := by
  obtain ⟨⟨i1, i2, i3⟩, i4⟩ := M
  obtain ⟨p1, p2⟩ := n_small A hc hd
  have hne := hD.ne 123 122
  constructor
  · intro ⟨hn, s5, d8⟩
    have ne : ∀ (y : PS) (j : Nat) (v : Int64) (i : Nat), rJ (wJ y (rf ev 122 m) j v) (rf ev 123 m) i = rJ y (rf ev 123 m) i := fun y j v i => by simp [rJ, wJ, hne]
    have st : ∀ (y : PS) (k g : Nat), k < 5 → r32 y 121 m = nI n → rJ y (rf ev 123 m) k = ph (co E k) → q_X8_keeps_20 ev m (g + 1) (nI k) y = q_X8_keeps_20 ev m g (nI (k + 1)) (wJ y (rf ev 122 m) (5 * n + k) (ph (co E k))) := fun y k g hk h hx => kp_step h hn hk hx g
    obtain ⟨f, hf⟩ := FU5
    refine ⟨w32 (wJ (wJ (wJ (wJ (wJ z (rf ev 122 m) (5 * n + 0) (ph (co E 0))) (rf ev 122 m) (5 * n + 1) (ph (co E 1))) (rf ev 122 m) (5 * n + 2) (ph (co E 2))) (rf ev 122 m) (5 * n + 3) (ph (co E 3))) (rf ev 122 m) (5 * n + 4) (ph (co E 4))) 121 m (nI (n + 1)), ?_, ⟨⟨by omega, r32_eq _ _ _ _, ?_⟩, i4⟩, ?_⟩
    · unfold g_X8_keeps
      rw [i2, if_neg (by rw [show (16 : Int32) = nI 16 from rfl, nI_eq (by omega) (by omega)]; omega), p1 ⟨s5, d8⟩, ob_e, if_neg (by decide), hf, show (0 : Int32) = nI 0 from rfl, show f + 1 + 5 = f + 1 + 4 + 1 from rfl,
        st z 0 _ (by omega) i2 (A 0 (by omega)), show f + 1 + 4 = f + 1 + 3 + 1 from rfl, st (wJ z (rf ev 122 m) (5 * n + 0) (ph (co E 0))) 1 _ (by omega) i2 ((ne _ _ _ _).trans (A 1 (by omega))), show f + 1 + 3 = f + 1 + 2 + 1 from rfl, st (wJ (wJ z (rf ev 122 m) (5 * n + 0) (ph (co E 0))) (rf ev 122 m) (5 * n + 1) (ph (co E 1))) 2 _ (by omega) i2 ((ne _ _ _ _).trans ((ne _ _ _ _).trans (A 2 (by omega)))), show f + 1 + 2 = f + 1 + 1 + 1 from rfl, st (wJ (wJ (wJ z (rf ev 122 m) (5 * n + 0) (ph (co E 0))) (rf ev 122 m) (5 * n + 1) (ph (co E 1))) (rf ev 122 m) (5 * n + 2) (ph (co E 2))) 3 _ (by omega) i2 ((ne _ _ _ _).trans ((ne _ _ _ _).trans ((ne _ _ _ _).trans (A 3 (by omega))))), st (wJ (wJ (wJ (wJ z (rf ev 122 m) (5 * n + 0) (ph (co E 0))) (rf ev 122 m) (5 * n + 1) (ph (co E 1))) (rf ev 122 m) (5 * n + 2) (ph (co E 2))) (rf ev 122 m) (5 * n + 3) (ph (co E 3))) 4 _ (by omega) i2 ((ne _ _ _ _).trans ((ne _ _ _ _).trans ((ne _ _ _ _).trans ((ne _ _ _ _).trans (A 4 (by omega)))))), q_X8_keeps_20, if_pos (by decide)]
      simp only [bd_e]
      rw [r32_eq]
      show some (r32 z 121 m + 1 - 1, w32 _ 121 m (r32 z 121 m + 1)) = _
      rw [i2, nI_s, nI_pred]
    · intro i hi k hk
      show rJ (wJ (wJ (wJ (wJ (wJ z (rf ev 122 m) (5 * n + 0) (ph (co E 0))) (rf ev 122 m) (5 * n + 1) (ph (co E 1))) (rf ev 122 m) (5 * n + 2) (ph (co E 2))) (rf ev 122 m) (5 * n + 3) (ph (co E 3))) (rf ev 122 m) (5 * n + 4) (ph (co E 4))) (rf ev 122 m) (5 * i + k) = _
      rw [w5_r]
      rcases (show i = n ∨ i < n by omega) with h | h
      · subst h
        rw [upF_n]
        rcases (show k = 0 ∨ k = 1 ∨ k = 2 ∨ k = 3 ∨ k = 4 by omega) with h | h | h | h | h <;> subst h
        · rw [if_neg (by omega), if_neg (by omega), if_neg (by omega), if_neg (by omega), if_pos (by omega)]
        · rw [if_neg (by omega), if_neg (by omega), if_neg (by omega), if_pos (by omega)]
        · rw [if_neg (by omega), if_neg (by omega), if_pos (by omega)]
        · rw [if_neg (by omega), if_pos (by omega)]
        · rw [if_pos (by omega)]
      · rw [if_neg (by omega), if_neg (by omega), if_neg (by omega), if_neg (by omega), if_neg (by omega), upF_lt _ _ h]
        exact i3 i h k hk
    · intro th
      exact ⟨fun i x hi _ => r32_ne _ _ _ _ (by omega), fun _ _ _ _ => rfl, fun _ _ _ _ => rfl⟩
  · intro hh
    unfold g_X8_keeps
    rw [i2]
    by_cases hn : n < 16
    · rw [if_neg (by rw [show (16 : Int32) = nI 16 from rfl, nI_eq (by omega) (by omega)]; omega), p2 (fun g => hh ⟨hn, g⟩), ob_e, if_pos rfl]
    · rw [if_pos (by rw [show n = 16 by omega]; rfl)]
