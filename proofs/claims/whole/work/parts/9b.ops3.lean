/-! minus; the calls that may throw -/
theorem sp_pin {E : Cv} (hs : S5 E) : (∀ p ∈ spL E 121, Pin p) ∧ (spL E 121).Nodup ∧ (spL E 121).length ≤ 242 := by
  obtain ⟨a, b, c⟩ := spL_in hs 121 (by omega)
  exact ⟨fun p hp => by obtain ⟨p1, p2, p3, p4⟩ := a p hp; exact ⟨⟨p1, by omega⟩, p3, p4⟩, b, by omega⟩
theorem c_has {ev : EV} {th m : Nat} (S : Sep ev th m) {z : PS} {n : Nat} {C L : Nat → Cv} {U : Nat → Int} (I : INV ev th m z n C L U) (l1 l2 : Int32) :
    (∃ c i z1, c < n ∧ l1 = nI c ∧ i < (spL (C c) 121).length ∧ l2 = nI i ∧ g_X7_hasSmallPoint ev z th l1 l2 = some (1, z1) ∧ CI ev th z1 n C L U ∧ MU ev m z z1 ∧ SPt ev (rf ev 104 th) z1 (spL (C c) 121)) ∨
    ((∃ z1, g_X7_hasSmallPoint ev z th l1 l2 = some (0, z1) ∧ CI ev th z1 n C L U ∧ MU ev m z z1) ∧ ((¬ ∃ c, c < n ∧ l1 = nI c) ∨ ∃ c, c < n ∧ l1 = nI c ∧ ¬ ∃ i, i < (spL (C c) 121).length ∧ l2 = nI i)) := by
  have h16 := I.1.2.1
  by_cases hc : ∃ c, c < n ∧ l1 = nI c
  · obtain ⟨c, c1, rfl⟩ := hc
    obtain ⟨f1, f2, f3, f4, f5⟩ := I.1.he c1
    obtain ⟨-, -, len⟩ := sp_pin f4.2.1
    obtain ⟨z1, a1', a2', a3', a4'⟩ := c_fsp (m := m) S I.1 c1
    by_cases hi : ∃ i, i < (spL (C c) 121).length ∧ l2 = nI i
    · obtain ⟨i, i1, rfl⟩ := hi
      refine Or.inl ⟨c, i, z1, c1, rfl, i1, rfl, ?_, a2', a3', a4'⟩
      unfold g_X7_hasSmallPoint
      rw [c_th1 I.1.1 h16 c1, ob_e, if_neg ne10, a1', ob_e, if_neg (nI_pos (by omega)), a4'.1, if_neg (by rw [i_le (by omega) (by omega)]; omega)]
    · refine Or.inr ⟨⟨z1, ?_, a2', a3'⟩, Or.inr ⟨c, c1, rfl, hi⟩⟩
      unfold g_X7_hasSmallPoint
      rw [c_th1 I.1.1 h16 c1, ob_e, if_neg ne10, a1', ob_e]
      by_cases h0 : l2 < 0
      · rw [if_pos h0]
      · obtain ⟨j, j1, rfl⟩ := nI_of h0
        rw [if_neg h0, a4'.1, if_pos (by rw [i_le (by omega) (by omega)]; exact Nat.le_of_not_lt (fun hh => hi ⟨j, hh, rfl⟩))]
  · refine Or.inr ⟨⟨z, ?_, I.1, MU.rf ev m z⟩, Or.inl hc⟩
    unfold g_X7_hasSmallPoint
    rw [c_th0 I.1.1 h16 hc, ob_e, if_pos rfl]
theorem op_minus {ev : EV} {th m : Nat} (S : Sep ev th m) {z : PS} (I : IV ev th m z) (l1 l2 : Int32) : OP ev th m (g_X7_minus ev z th l1 l2) (fun z1 => g_X8_minus ev z1 m l1 l2) := by
  obtain ⟨n, C, L, U, I⟩ := I
  have hD := S.2.2.2
  have h16 := I.1.2.1
  rcases c_has S I l1 l2 with ⟨c, i, z1, c1, e1, i1, e2, g1, g2, g3, g4⟩ | ⟨⟨z1, g1, g2, g3⟩, hno⟩
  · subst e1
    subst e2
    obtain ⟨f1, f2, f3, f4, f5⟩ := g2.he c1
    obtain ⟨pin, nd, len⟩ := sp_pin f4.2.1
    obtain ⟨a, ha⟩ := get_ex i1
    have M1 := (I.2.mu g3).fm hD (w120 ev m z1 0)
    obtain ⟨z2, b1, b2', b3⟩ := m_lp hD f4.2.1 (AM_sA ev m (w32 z1 120 m 0) (C c))
    have A2 : AM ev m z2 (C c) := b3.am hD (AM_sA ev m (w32 z1 120 m 0) (C c))
    obtain ⟨f, hf⟩ := FU_ge (d := (spL (C c) 121).length) (by omega)
    have lp := mo_loop A2 f4.2.1 len nd pin b2' ha (spL (C c) 121).length f 0 (-1) (by omega) (fun _ => rfl) (fun ⟨k, b, hk, _⟩ => by omega)
    refine ⟨fnd (C c) (spL (C c) 121) a, z1, z2, ?_, ?_, IV.mk (INV.fm S g2 I.2 g3 (((w120 ev m z1 0).tr (FM_sA ev m _ (C c) (Or.inl rfl))).tr b3.fm))⟩
    · unfold g_X7_minus
      rw [g1, ob_e, bd_e, bd_e, if_neg ne10, ck_e (inB_n (show c < 16 by omega) (by omega)), nI_clamp (by omega), c_opp f1 f4.2.1 len nd pin g4 ha, ob_e]
    · dsimp only
      unfold g_X8_minus
      rw [bd_e, m_th1 M1.1.2.1 h16 c1, ob_e, if_neg ne10, n_loads hD M1.1 c1, ob_e, b1, ob_e, if_neg (nI_pos (by omega)), b2'.1, if_pos (by rw [nI_ltI (by omega) (by omega)]; omega), hf]
      exact lp
  · have e7 : g_X7_minus ev z th l1 l2 = some (-1, z1) := by
      unfold g_X7_minus
      rw [g1, ob_e, bd_e, bd_e, if_pos rfl]
    have M1 := (I.2.mu g3).fm hD (w120 ev m z1 0)
    rcases hno with hc | ⟨c, c1, e1, hi⟩
    · refine ⟨-1, z1, w32 z1 120 m 0, e7, ?_, IV.mk (INV.fm S g2 I.2 g3 (w120 ev m z1 0))⟩
      dsimp only
      unfold g_X8_minus
      rw [bd_e, m_th0 M1.1.2.1 h16 hc, ob_e, if_pos rfl]
    · subst e1
      obtain ⟨f1, f2, f3, f4, f5⟩ := g2.he c1
      obtain ⟨-, -, len⟩ := sp_pin f4.2.1
      obtain ⟨z2, b1, b2', b3⟩ := m_lp hD f4.2.1 (AM_sA ev m (w32 z1 120 m 0) (C c))
      refine ⟨-1, z1, z2, e7, ?_, IV.mk (INV.fm S g2 I.2 g3 (((w120 ev m z1 0).tr (FM_sA ev m _ (C c) (Or.inl rfl))).tr b3.fm))⟩
      dsimp only
      unfold g_X8_minus
      rw [bd_e, m_th1 M1.1.2.1 h16 c1, ob_e, if_neg ne10, n_loads hD M1.1 c1, ob_e, b1, ob_e]
      by_cases h0 : l2 < 0
      · rw [if_pos h0]
      · obtain ⟨j, j1, rfl⟩ := nI_of h0
        rw [if_neg h0, b2'.1, if_neg (by rw [nI_ltI (by omega) (by omega)]; exact fun hh => hi ⟨j, hh, rfl⟩)]
/-! of, leastOf, point -/
def g_X7_of (ev : EV) (z : PS) (th : Nat) (l1 : Int32) (l2 : Int32) : Option (Option Int64) := ob (g_X7_there ev z th l1) (fun v1 => if v1 = 0 then some none else (if l2 < 0 then some none else (if l2 ≤ (11 : Int32) then (ck (inB l1 16) (ob (g_X0_value ev z (rf ev 40 (rh ev (rf ev 100 th) l1.toNatClampNeg)) l2) (fun v => some (some v)))) else some none)))
def g_X7_leastOf (ev : EV) (z : PS) (th : Nat) (l1 : Int32) (l2 : Int32) : Option (Option Int64) := ob (g_X7_there ev z th l1) (fun v1 => if v1 = 0 then some none else (if l2 < 0 then some none else (if l2 ≤ (12 : Int32) then (ck (inB l1 16) (if l2 = (12 : Int32) then (some (some (r64 z 42 (rh ev (rf ev 100 th) l1.toNatClampNeg)))) else (ob (g_X0_value ev z (rf ev 41 (rh ev (rf ev 100 th) l1.toNatClampNeg)) l2) (fun v => some (some v))))) else some none)))
def g_X7_point (ev : EV) (z : PS) (th : Nat) (l1 : Int32) (l2 : Int32) (l3 : Int32) : Option (Option Int32 × PS) := ob (g_X7_hasSmallPoint ev z th l1 l2) (fun q => bd q.1 (fun v => bd q.2 (fun z1 => if v = 0 then some (none, z1) else (if l3 < 0 then some (none, z1) else (if l3 ≤ (1 : Int32) then (ck (inB l2 242) (if l3 = 0 then some (some (rI z1 (rf ev 80 (rf ev 104 th)) l2.toNatClampNeg), z1) else some (some (rI z1 (rf ev 81 (rf ev 104 th)) l2.toNatClampNeg), z1))) else some (none, z1))))))
/-- the law's own row of one long -/
def oOK (ev : EV) (m o : Nat) : Prop := sb ev m o ∧ o ≠ rf ev 122 m
theorem INV.wo {ev : EV} {th m o : Nat} (h : oOK ev m o) {z : PS} {n : Nat} {C L : Nat → Cv} {U : Nat → Int} (I : INV ev th m z n C L U) (v : Int64) : INV ev th m (wJ z o 0 v) n C L U := by
  obtain ⟨c, ⟨m1, m2, m3⟩, m4⟩ := I
  refine ⟨c, ⟨m1, m2, fun i hi k hk => ?_⟩, m4⟩
  show (if _ then _ else _) = _
  rw [if_neg (fun hh => h.2 hh.1.symm)]
  exact m3 i hi k hk
theorem val_v {ev : EV} {z : PS} {e : Nat} {E : Cv} (h : EQ z e E) {w : Nat} (hw : w < 12) : g_X0_value ev z e (nI w) = some (ph (val E w)) := by
  rw [← h w hw]
  rcases (show w = 0 ∨ w = 1 ∨ w = 2 ∨ w = 3 ∨ w = 4 ∨ w = 5 ∨ w = 6 ∨ w = 7 ∨ w = 8 ∨ w = 9 ∨ w = 10 ∨ w = 11 by omega) with e | e | e | e | e | e | e | e | e | e | e | e <;> subst e <;> rfl
theorem told_v {ev : EV} {m : Nat} {z : PS} {E : Cv} (A : AM ev m z E) {w : Nat} (hw : w < 12) : g_X8_told ev z m (nI w) = some (ph (val E w)) := by
  have b4e : g_X8_b4 ev z m = some (ph (b4 E)) := by have := m_b4 ev z m E; rwa [AM.eq A] at this
  unfold g_X8_told
  rcases (show w = 0 ∨ w = 1 ∨ w = 2 ∨ w = 3 ∨ w = 4 ∨ w = 5 ∨ w = 6 ∨ w = 7 ∨ w = 8 ∨ w = 9 ∨ w = 10 ∨ w = 11 by omega) with e | e | e | e | e | e | e | e | e | e | e | e <;> subst e
  · rw [if_neg (by decide), if_neg (by decide), if_neg (by decide), if_neg (by decide), if_neg (by decide), if_neg (by decide), if_neg (by decide), ck_e (inB_n (by omega) (by omega)), cl 0 (by omega), A 0 (by omega)]; rfl
  · rw [if_neg (by decide), if_neg (by decide), if_neg (by decide), if_neg (by decide), if_neg (by decide), if_neg (by decide), if_neg (by decide), ck_e (inB_n (by omega) (by omega)), cl 1 (by omega), A 1 (by omega)]; rfl
  · rw [if_neg (by decide), if_neg (by decide), if_neg (by decide), if_neg (by decide), if_neg (by decide), if_neg (by decide), if_neg (by decide), ck_e (inB_n (by omega) (by omega)), cl 2 (by omega), A 2 (by omega)]; rfl
  · rw [if_neg (by decide), if_neg (by decide), if_neg (by decide), if_neg (by decide), if_neg (by decide), if_neg (by decide), if_neg (by decide), ck_e (inB_n (by omega) (by omega)), cl 3 (by omega), A 3 (by omega)]; rfl
  · rw [if_neg (by decide), if_neg (by decide), if_neg (by decide), if_neg (by decide), if_neg (by decide), if_neg (by decide), if_neg (by decide), ck_e (inB_n (by omega) (by omega)), cl 4 (by omega), A 4 (by omega)]; rfl
  · rw [if_pos (by decide), n_b2 A, ob_e]; rfl
  · rw [if_neg (by decide), if_pos (by decide), b4e, ob_e]; rfl
  · rw [if_neg (by decide), if_neg (by decide), if_pos (by decide), n_b6 A, ob_e]; rfl
  · rw [if_neg (by decide), if_neg (by decide), if_neg (by decide), if_pos (by decide), n_b8 A, ob_e]; rfl
  · rw [if_neg (by decide), if_neg (by decide), if_neg (by decide), if_neg (by decide), if_pos (by decide), n_c4 A, ob_e]; rfl
  · rw [if_neg (by decide), if_neg (by decide), if_neg (by decide), if_neg (by decide), if_neg (by decide), if_pos (by decide), n_c6 A, ob_e]; rfl
  · rw [if_neg (by decide), if_neg (by decide), if_neg (by decide), if_neg (by decide), if_neg (by decide), if_neg (by decide), if_pos (by decide), n_dd A, ob_e]; rfl
/-- 0 to M -/
theorem rng_or (l : Int32) {M : Nat} (hM : M < 1000) : (∃ w : Nat, w ≤ M ∧ l = nI w) ∨ (¬ (0 ≤ l.toInt ∧ l.toInt ≤ M) ∧ (l < 0 ∨ (¬ l < 0 ∧ ¬ l ≤ nI M))) := by
  have x0 : (0 : Int32).toInt = 0 := by decide
  by_cases h : 0 ≤ l.toInt ∧ l.toInt ≤ M
  · exact Or.inl ⟨l.toInt.toNat, by omega, by apply Int32.toInt_inj.mp; rw [nI_toInt (by omega)]; omega⟩
  · refine Or.inr ⟨h, ?_⟩
    by_cases h0 : l < 0
    · exact Or.inl h0
    · refine Or.inr ⟨h0, fun hh => h ?_⟩
      rw [Int32.lt_iff_toInt_lt, x0] at h0
      rw [Int32.le_iff_toInt_le, nI_toInt (by omega)] at hh
      omega
def OPT {α : Type} (ev : EV) (th m o : Nat) (f : α → Int64) (a : Option (Option α × PS)) (b : PS → Option (α × PS)) : Prop := (∃ z1 z2 v, a = some (none, z1) ∧ b z1 = some (v, z2) ∧ r32 z2 120 m = 1 ∧ IV ev th m z2) ∨ (∃ z1 z2 v, a = some (some v, z1) ∧ b (wJ z1 o 0 (f v)) = some (v, z2) ∧ r32 z2 120 m = 0 ∧ rJ z2 o 0 = f v ∧ IV ev th m z2)
theorem FM.o {ev : EV} {m o : Nat} (h : oOK ev m o) {z z' : PS} (F : FM ev m z z') : rJ z' o 0 = rJ z o 0 := F.2.2.2 o 0 h.1
theorem op_of {ev : EV} {th m o : Nat} (S : Sep ev th m) (ho : oOK ev m o) {z : PS} (I : IV ev th m z) (l1 l2 : Int32) : OPT ev th m o id (ob (g_X7_of ev z th l1 l2) (fun r => some (r, z))) (fun z1 => g_X8_of ev z1 m l1 l2) := by
  obtain ⟨n, C, L, U, I⟩ := I
  have hD := S.2.2.2
  have h16 := I.1.2.1
  have bad : ∀ v : Int32, r32 (w32 z 120 m v) 120 m = v := fun v => r32_eq _ _ _ _
  by_cases hc : ∃ c, c < n ∧ l1 = nI c
  · obtain ⟨c, c1, rfl⟩ := hc
    obtain ⟨f1, f2, f3, f4, f5⟩ := I.1.he c1
    rcases rng_or l2 (M := 11) (by omega) with ⟨w, w1, rfl⟩ | ⟨hr, hr'⟩
    · right
      have I' := I.wo ho (ph (val (C c) w))
      have M1 := I'.2.fm hD (w120 ev m _ 0)
      have F : FM ev m (wJ z o 0 (ph (val (C c) w))) (sA (w32 (wJ z o 0 (ph (val (C c) w))) 120 m 0) (rf ev 123 m) (C c)) := (w120 ev m _ 0).tr (FM_sA ev m _ (C c) (Or.inl rfl))
      refine ⟨z, _, ph (val (C c) w), ?_, ?_, ?_, ?_, IV.mk (INV.fm S I'.1 I'.2 (MU.rf ev m _) F)⟩
      · unfold g_X7_of
        rw [c_th1 I.1.1 h16 c1, ob_e, if_neg ne10, if_neg (nI_pos (by omega)), if_pos (by rw [show (11 : Int32) = nI 11 from rfl, i_le (by omega) (by omega)]; exact w1), ck_e (inB_n (show c < 16 by omega) (by omega)), nI_clamp (by omega), val_v f1 (by omega), ob_e, ob_e]
      · dsimp only [id]
        unfold g_X8_of
        rw [m_th1 I'.2.1.2.1 h16 c1, ob_e, if_neg ne10, nI_L (by omega), show (0 : Int64) = ph 0 from rfl, show (11 : Int64) = ph 11 from rfl, m_within ⟨by omega, by omega⟩ ⟨by omega, by omega⟩ ⟨by omega, by omega⟩, ob_e, ite01, if_pos (by omega), bd_e, if_pos (by rw [r32_eq]; decide), n_loads hD M1.1 c1, ob_e, told_v (AM_sA ev m _ (C c)) (by omega), ob_e]
      · exact r32_eq _ _ _ _
      · exact (F.o ho).trans (wr_eq _ _ _ _)
    · left
      refine ⟨z, w32 z 120 m 1, 0, ?_, ?_, bad 1, IV.w0 S I (NEU.rf ev th m z) (MU.rf ev m z) 1⟩
      · unfold g_X7_of
        rw [c_th1 I.1.1 h16 c1, ob_e, if_neg ne10]
        rcases hr' with h | ⟨h, h'⟩
        · rw [if_pos h, ob_e]
        · rw [if_neg h, show (11 : Int32) = nI 11 from rfl, if_neg h', ob_e]
      · dsimp only
        unfold g_X8_of
        rw [m_th1 I.2.1.2.1 h16 c1, ob_e, if_neg ne10, i64 l2, show (0 : Int64) = ph 0 from rfl, show (11 : Int64) = ph 11 from rfl, m_within (i_in l2) ⟨by omega, by omega⟩ ⟨by omega, by omega⟩, ob_e, ite01, if_neg (by omega), bd_e, if_neg (by rw [r32_eq]; decide)]
  · left
    refine ⟨z, w32 z 120 m 1, 0, ?_, ?_, bad 1, IV.w0 S I (NEU.rf ev th m z) (MU.rf ev m z) 1⟩
    · unfold g_X7_of
      rw [c_th0 I.1.1 h16 hc, ob_e, if_pos rfl, ob_e]
    · dsimp only
      unfold g_X8_of
      rw [m_th0 I.2.1.2.1 h16 hc, ob_e, if_pos rfl, bd_e, if_neg (by rw [r32_eq]; decide)]
theorem op_leastOf {ev : EV} {th m o : Nat} (S : Sep ev th m) (ho : oOK ev m o) {z : PS} (I : IV ev th m z) (l1 l2 : Int32) : OPT ev th m o id (ob (g_X7_leastOf ev z th l1 l2) (fun r => some (r, z))) (fun z1 => g_X8_leastOf ev z1 m l1 l2) := by
  obtain ⟨n, C, L, U, I⟩ := I
  have hD := S.2.2.2
  have h16 := I.1.2.1
  have bad : ∀ v : Int32, r32 (w32 z 120 m v) 120 m = v := fun v => r32_eq _ _ _ _
  by_cases hc : ∃ c, c < n ∧ l1 = nI c
  · obtain ⟨c, c1, rfl⟩ := hc
    obtain ⟨f1, f2, f3, f4, f5⟩ := I.1.he c1
    rcases rng_or l2 (M := 12) (by omega) with ⟨w, w1, rfl⟩ | ⟨hr, hr'⟩
    · right
      have go : ∀ v : Int64, ∃ z3, FM ev m (wJ z o 0 v) z3 ∧ r32 z3 120 m = 0 ∧ AM ev m z3 (L c) ∧ g_X8_leastOf ev (wJ z o 0 v) m (nI c) (nI w) = if nI w = (12 : Int32) then some (ph (U c), z3) else ob (g_X8_told ev z3 m (nI w)) (fun v10 => some (v10, z3)) := by
        intro v
        have I' := I.wo ho v
        have M1 := I'.2.fm hD (w120 ev m _ 0)
        obtain ⟨z3, g1, g2, g3, g4⟩ := n_goesN hD f4.pq (AH_sA ev m (w32 (wJ z o 0 v) 120 m 0) 123 (C c))
        refine ⟨z3, ((w120 ev m _ 0).tr (FM_sA ev m _ (C c) (Or.inl rfl))).tr g4.fm, (g4.1 120 m (by omega)).trans (r32_eq _ _ _ _), g2, ?_⟩
        unfold g_X8_leastOf
        rw [m_th1 I'.2.1.2.1 h16 c1, ob_e, if_neg ne10, nI_L (by omega), show (0 : Int64) = ph 0 from rfl, show (12 : Int64) = ph 12 from rfl, m_within ⟨by omega, by omega⟩ ⟨by omega, by omega⟩ ⟨by omega, by omega⟩, ob_e, ite01, if_pos (by omega)]
        unfold q_X8_leastOf_26
        rw [bd_e, if_pos (by rw [r32_eq]; decide), n_loads hD M1.1 c1, ob_e, g1, ob_e, g3]
      by_cases h12 : w = 12
      · subst h12
        obtain ⟨z3, p1, p2, p3, p4⟩ := go (ph (U c))
        refine ⟨z, z3, ph (U c), ?_, ?_, p2, (p1.o ho).trans (wr_eq _ _ _ _), IV.mk (INV.fm S (I.wo ho _).1 (I.wo ho _).2 (MU.rf ev m _) p1)⟩
        · unfold g_X7_leastOf
          rw [c_th1 I.1.1 h16 c1, ob_e, if_neg ne10, if_neg (nI_pos (by omega)), if_pos (by decide), ck_e (inB_n (show c < 16 by omega) (by omega)), if_pos (show nI 12 = (12 : Int32) from rfl), nI_clamp (by omega), f3, ob_e]
        · exact p4.trans (if_pos rfl)
      · have n12 : ¬ nI w = (12 : Int32) := nI_ne (b := 12) (by omega) (by omega) h12
        obtain ⟨z3, p1, p2, p3, p4⟩ := go (ph (val (L c) w))
        refine ⟨z, z3, ph (val (L c) w), ?_, ?_, p2, (p1.o ho).trans (wr_eq _ _ _ _), IV.mk (INV.fm S (I.wo ho _).1 (I.wo ho _).2 (MU.rf ev m _) p1)⟩
        · unfold g_X7_leastOf
          rw [c_th1 I.1.1 h16 c1, ob_e, if_neg ne10, if_neg (nI_pos (by omega)), if_pos (by rw [show (12 : Int32) = nI 12 from rfl, i_le (by omega) (by omega)]; exact w1), ck_e (inB_n (show c < 16 by omega) (by omega)), if_neg n12, nI_clamp (by omega), val_v f2 (by omega), ob_e, ob_e]
        · refine p4.trans ?_
          rw [if_neg n12, told_v p3 (by omega), ob_e]
    · left
      refine ⟨z, w32 z 120 m 1, 0, ?_, ?_, bad 1, IV.w0 S I (NEU.rf ev th m z) (MU.rf ev m z) 1⟩
      · unfold g_X7_leastOf
        rw [c_th1 I.1.1 h16 c1, ob_e, if_neg ne10]
        rcases hr' with h | ⟨h, h'⟩
        · rw [if_pos h, ob_e]
        · rw [if_neg h, if_neg (show ¬ l2 ≤ (12 : Int32) from h'), ob_e]
      · dsimp only
        unfold g_X8_leastOf
        rw [m_th1 I.2.1.2.1 h16 c1, ob_e, if_neg ne10, i64 l2, show (0 : Int64) = ph 0 from rfl, show (12 : Int64) = ph 12 from rfl, m_within (i_in l2) ⟨by omega, by omega⟩ ⟨by omega, by omega⟩, ob_e, ite01, if_neg (by omega)]
        unfold q_X8_leastOf_25 q_X8_leastOf_26
        rw [bd_e, if_neg (by rw [r32_eq]; decide)]
        rfl
  · left
    refine ⟨z, w32 z 120 m 1, 0, ?_, ?_, bad 1, IV.w0 S I (NEU.rf ev th m z) (MU.rf ev m z) 1⟩
    · unfold g_X7_leastOf
      rw [c_th0 I.1.1 h16 hc, ob_e, if_pos rfl, ob_e]
    · dsimp only
      unfold g_X8_leastOf
      rw [m_th0 I.2.1.2.1 h16 hc, ob_e, if_pos rfl]
      unfold q_X8_leastOf_25 q_X8_leastOf_26
      rw [bd_e, if_neg (by rw [r32_eq]; decide)]
theorem op_point {ev : EV} {th m o : Nat} (S : Sep ev th m) (ho : oOK ev m o) {z : PS} (I : IV ev th m z) (l1 l2 l3 : Int32) : OPT ev th m o Int32.toInt64 (g_X7_point ev z th l1 l2 l3) (fun z1 => g_X8_point ev z1 m l1 l2 l3) := by
  obtain ⟨n, C, L, U, I⟩ := I
  have hD := S.2.2.2
  have h16 := I.1.2.1
  have F135 : ∀ y : PS, FM ev m y (w32 y 135 m 0) := fun y => ⟨fun i x h => by show (if _ then _ else _) = _; rw [if_neg (fun hh => h ⟨Or.inr (Or.inr hh.1), hh.2⟩)], fun _ _ _ => rfl, fun _ _ _ => rfl, fun _ _ _ => rfl⟩
  have e49 : ∀ y : PS, q_X8_point_49 ev m l2 l3 y = some (0, w32 y 120 m 1) := by
    intro y
    unfold q_X8_point_49 q_X8_point_50
    rw [bd_e, if_neg (by rw [r32_eq]; decide)]
  have wh := m_within (v := l3.toInt) (a := 0) (b := 1) (i_in l3) ⟨by omega, by omega⟩ ⟨by omega, by omega⟩
  rw [← i64 l3, show ph 0 = (0 : Int64) from rfl, show ph 1 = (1 : Int64) from rfl] at wh
  rcases c_has S I l1 l2 with ⟨c, i, z1, c1, e1, i1, e2, g1, g2, g3, g4⟩ | ⟨⟨z1, g1, g2, g3⟩, hno⟩
  · subst e1
    subst e2
    obtain ⟨f1, f2, f3, f4, f5⟩ := g2.he c1
    obtain ⟨pin, nd, len⟩ := sp_pin f4.2.1
    obtain ⟨a, ha⟩ := get_ex i1
    have hp := pin a (List.mem_of_getElem? ha)
    obtain ⟨x1, y1⟩ := g4.2 i a.1 a.2 ha
    have I1 : INV ev th m z1 n C L U := ⟨g2, I.2.mu g3⟩
    have mod : ∀ y : PS, MI ev m y n C → ∃ z2, FM ev m y z2 ∧ MPt ev m z2 (spL (C c) 121) ∧ g_X8_point ev y m (nI c) (nI i) l3 = ob (g_X8_within l3.toInt64 (0 : Int64) (1 : Int64)) (fun v8 => if v8 = 0 then (q_X8_point_49 ev m (nI i) l3 z2) else (q_X8_point_50 ev m (nI i) l3 (0 : Int32) z2)) := by
      intro y M
      have M' := M.fm hD (F135 y)
      obtain ⟨z2, b1, b2', b3⟩ := m_lp hD f4.2.1 (AM_sA ev m (w32 y 135 m 0) (C c))
      refine ⟨z2, ((F135 y).tr (FM_sA ev m _ (C c) (Or.inl rfl))).tr b3.fm, b2', ?_⟩
      unfold g_X8_point
      rw [bd_e, m_th1 M'.1.2.1 h16 c1, ob_e, if_neg ne10, n_loads hD M'.1 c1, ob_e, b1, ob_e]
      unfold q_X8_point_22
      rw [if_neg (nI_pos (by omega)), b2'.1, if_neg (by rw [i_le (by omega) (by omega)]; omega)]
    rcases rng_or l3 (M := 1) (by omega) with ⟨w, w1, rfl⟩ | ⟨hr, hr'⟩
    · right
      rw [nI_toInt (by omega), if_pos (by omega)] at wh
      have fin : ∀ (v : Int32) (x : Int), (-2147483648 ≤ x ∧ x < 2147483648) → v = hI x → (∀ z2, MPt ev m z2 (spL (C c) 121) → rJ z2 (rf ev 134 m) (2 * i + w) = ph x) → g_X7_point ev z th (nI c) (nI i) (nI w) = some (some v, z1) → OPT ev th m o Int32.toInt64 (g_X7_point ev z th (nI c) (nI i) (nI w)) (fun z1 => g_X8_point ev z1 m (nI c) (nI i) (nI w)) := by
        intro v x hx hv hz hg
        have I' := I1.wo ho v.toInt64
        obtain ⟨z2, p1, p2, p3⟩ := mod _ I'.2
        have F := p1.tr (w120 ev m z2 0)
        refine Or.inr ⟨z1, w32 z2 120 m 0, v, hg, ?_, r32_eq _ _ _ _, (F.o ho).trans (wr_eq _ _ _ _), IV.mk (INV.fm S I'.1 I'.2 (MU.rf ev m _) F)⟩
        dsimp only
        rw [p3, wh, ob_e, if_neg ne10]
        unfold q_X8_point_50
        rw [bd_e, if_pos (by rw [r32_eq]; decide), i_mul2, i_add, ck_e (inB_n (show 2 * i + w < 484 by omega) (by omega)), nI_clamp (by omega)]
        rw [show rJ (w32 z2 120 m 0) (rf ev 134 m) (2 * i + w) = ph x from hz z2 p2, ph_hI hx, hv]
      have e7 : g_X7_point ev z th (nI c) (nI i) (nI w) = if nI w = 0 then some (some (rI z1 (rf ev 80 (rf ev 104 th)) i), z1) else some (some (rI z1 (rf ev 81 (rf ev 104 th)) i), z1) := by
        unfold g_X7_point
        rw [g1, ob_e, bd_e, bd_e, if_neg ne10, if_neg (nI_pos (by omega)), if_pos (by rw [show (1 : Int32) = nI 1 from rfl, i_le (by omega) (by omega)]; exact w1), ck_e (inB_n (show i < 242 by omega) (by omega)), nI_clamp (by omega)]
      have res : OPT ev th m o Int32.toInt64 (g_X7_point ev z th (nI c) (nI i) (nI w)) (fun z1 => g_X8_point ev z1 m (nI c) (nI i) (nI w)) := by
        rcases (show w = 0 ∨ w = 1 by omega) with h | h <;> subst h
        · exact fin _ a.1 (by have := hp.1; omega) x1 (fun z2 p => (p.2 i a.1 a.2 ha).1) (by rw [e7, if_pos nI_0])
        · exact fin _ a.2 (by have := hp.2; omega) y1 (fun z2 p => (p.2 i a.1 a.2 ha).2) (by rw [e7, if_neg (by decide)])
      rcases res with ⟨y1', y2', v', q1, q2, q3, q4⟩ | h
      · exfalso
        rw [e7] at q1
        split at q1 <;> cases q1
      · exact h
    · left
      rw [if_neg (by omega)] at wh
      obtain ⟨z2, p1, p2, p3⟩ := mod z1 I1.2
      refine ⟨z1, w32 z2 120 m 1, 0, ?_, ?_, r32_eq _ _ _ _, IV.mk (INV.fm S I1.1 I1.2 (MU.rf ev m _) (p1.tr (w120 ev m z2 1)))⟩
      · unfold g_X7_point
        rw [g1, ob_e, bd_e, bd_e, if_neg ne10]
        rcases hr' with h | ⟨h, h'⟩
        · rw [if_pos h]
        · rw [if_neg h, if_neg (show ¬ l3 ≤ (1 : Int32) from h')]
      · dsimp only
        rw [p3, wh, ob_e, if_pos rfl, e49]
  · left
    have e7 : g_X7_point ev z th l1 l2 l3 = some (none, z1) := by
      unfold g_X7_point
      rw [g1, ob_e, bd_e, bd_e, if_pos rfl]
    have I1 : INV ev th m z1 n C L U := ⟨g2, I.2.mu g3⟩
    have M' := I1.2.fm hD (F135 z1)
    rcases hno with hc | ⟨c, c1, e1, hi⟩
    · refine ⟨z1, w32 (w32 z1 135 m 0) 120 m 1, 0, e7, ?_, r32_eq _ _ _ _, IV.mk (INV.fm S I1.1 I1.2 (MU.rf ev m _) ((F135 z1).tr (w120 ev m _ 1)))⟩
      dsimp only
      unfold g_X8_point
      rw [bd_e, m_th0 M'.1.2.1 h16 hc, ob_e, if_pos rfl]
      unfold q_X8_point_22
      by_cases h0 : l2 < 0
      · rw [if_pos h0, e49]
      · obtain ⟨j, j1, rfl⟩ := nI_of h0
        rw [if_neg h0, r32_eq, if_pos (nI_pos' (by omega)), e49]
    · subst e1
      obtain ⟨f1, f2, f3, f4, f5⟩ := g2.he c1
      obtain ⟨-, -, len⟩ := sp_pin f4.2.1
      obtain ⟨z2, b1, b2', b3⟩ := m_lp hD f4.2.1 (AM_sA ev m (w32 z1 135 m 0) (C c))
      refine ⟨z1, w32 z2 120 m 1, 0, e7, ?_, r32_eq _ _ _ _, IV.mk (INV.fm S I1.1 I1.2 (MU.rf ev m _) ((((F135 z1).tr (FM_sA ev m _ (C c) (Or.inl rfl))).tr b3.fm).tr (w120 ev m z2 1)))⟩
      dsimp only
      unfold g_X8_point
      rw [bd_e, m_th1 M'.1.2.1 h16 c1, ob_e, if_neg ne10, n_loads hD M'.1 c1, ob_e, b1, ob_e]
      unfold q_X8_point_22
      by_cases h0 : l2 < 0
      · rw [if_pos h0, e49]
      · obtain ⟨j, j1, rfl⟩ := nI_of h0
        rw [if_neg h0, b2'.1, if_pos (by rw [i_le (by omega) (by omega)]; exact Nat.le_of_not_lt (fun hh => hi ⟨j, hh, rfl⟩)), e49]
