/-! the class's equations -/
def val (E : Cv) (k : Nat) : Int := if k = 0 then a1 E else if k = 1 then a2 E else if k = 2 then a3 E else if k = 3 then a4 E else if k = 4 then a6 E else if k = 5 then b2 E else if k = 6 then b4 E else if k = 7 then b6 E else if k = 8 then b8 E else if k = 9 then c4 E else if k = 10 then c6 E else dd E
def EQ (z : PS) (e : Nat) (E : Cv) : Prop := ∀ k, k < 12 → r64 z k e = ph (val E k)
def sE (z : PS) (e : Nat) (E : Cv) : PS := (z.1, fun j y => if y = e ∧ j < 12 then ph (val E j) else z.2.1 j y, z.2.2)
theorem EQ_sE (z : PS) (e : Nat) (E : Cv) : EQ (sE z e E) e E := fun k hk => by show (if _ then _ else _) = _; rw [if_pos ⟨rfl, hk⟩]
theorem sE_ne (z : PS) {e x : Nat} (E : Cv) (h : x ≠ e) (k : Nat) : r64 (sE z e E) k x = r64 z k x := by show (if _ then _ else _) = _; rw [if_neg (fun h' => h h'.1)]
theorem EQ.ne {z : PS} {e x : Nat} {E F : Cv} (h : EQ z x F) (hx : x ≠ e) : EQ (sE z e E) x F := fun k hk => by rw [sE_ne z E hx k]; exact h k hk
theorem w12 (z : PS) (e : Nat) (E : Cv) {v0 v1 v2 v3 v4 v5 v6 v7 v8 v9 v10 v11 : Int64} (h0 : v0 = ph (a1 E)) (h1 : v1 = ph (a2 E)) (h2 : v2 = ph (a3 E)) (h3 : v3 = ph (a4 E)) (h4 : v4 = ph (a6 E)) (h5 : v5 = ph (b2 E)) (h6 : v6 = ph (b4 E)) (h7 : v7 = ph (b6 E)) (h8 : v8 = ph (b8 E)) (h9 : v9 = ph (c4 E)) (h10 : v10 = ph (c6 E)) (h11 : v11 = ph (dd E)) :
    w64 (w64 (w64 (w64 (w64 (w64 (w64 (w64 (w64 (w64 (w64 (w64 z 0 e v0) 1 e v1) 2 e v2) 3 e v3) 4 e v4) 5 e v5) 6 e v6) 7 e v7) 8 e v8) 9 e v9) 10 e v10) 11 e v11 = sE z e E := by
  subst h0 h1 h2 h3 h4 h5 h6 h7 h8 h9 h10 h11
  unfold sE w64
  refine Prod.ext rfl (Prod.ext ?_ rfl)
  funext j y
  dsimp only
  by_cases hy : y = e
  · subst hy
    by_cases h : j < 12
    · rcases (show j = 0 ∨ j = 1 ∨ j = 2 ∨ j = 3 ∨ j = 4 ∨ j = 5 ∨ j = 6 ∨ j = 7 ∨ j = 8 ∨ j = 9 ∨ j = 10 ∨ j = 11 by omega) with rfl | rfl | rfl | rfl | rfl | rfl | rfl | rfl | rfl | rfl | rfl | rfl <;> simp [val]
    · rw [if_neg (by omega), if_neg (by omega), if_neg (by omega), if_neg (by omega), if_neg (by omega), if_neg (by omega), if_neg (by omega), if_neg (by omega), if_neg (by omega), if_neg (by omega), if_neg (by omega), if_neg (by omega), if_neg (by omega)]
  · simp [hy]
theorem rw_eq (z : PS) (i x : Nat) (v : Int64) : r64 (w64 z i x v) i x = v := by simp [w64, r64]
theorem rw_ne (z : PS) {i j : Nat} (x : Nat) (v : Int64) (h : j ≠ i) : r64 (w64 z i x v) j x = r64 z j x := by simp [w64, r64, h]
theorem c_put (ev : EV) (z : PS) (e : Nat) (x1 x2 x3 x4 x6 : Int) : g_X0_put ev z e (ph x1) (ph x2) (ph x3) (ph x4) (ph x6) = some (sE z e (x1, x2, x3, x4, x6)) := by
  unfold g_X0_put
  simp only [bd_e]
  congr 1
  have k0 : ∀ z : PS, ∀ {i : Nat} (v : Int64), i ≠ 0 → r64 (w64 z i e v) 0 e = r64 z 0 e := fun z i v h => rw_ne z e v h.symm
  have k1 : ∀ z : PS, ∀ {i : Nat} (v : Int64), i ≠ 1 → r64 (w64 z i e v) 1 e = r64 z 1 e := fun z i v h => rw_ne z e v h.symm
  have k2 : ∀ z : PS, ∀ {i : Nat} (v : Int64), i ≠ 2 → r64 (w64 z i e v) 2 e = r64 z 2 e := fun z i v h => rw_ne z e v h.symm
  have k3 : ∀ z : PS, ∀ {i : Nat} (v : Int64), i ≠ 3 → r64 (w64 z i e v) 3 e = r64 z 3 e := fun z i v h => rw_ne z e v h.symm
  have k4 : ∀ z : PS, ∀ {i : Nat} (v : Int64), i ≠ 4 → r64 (w64 z i e v) 4 e = r64 z 4 e := fun z i v h => rw_ne z e v h.symm
  have k5 : ∀ z : PS, ∀ {i : Nat} (v : Int64), i ≠ 5 → r64 (w64 z i e v) 5 e = r64 z 5 e := fun z i v h => rw_ne z e v h.symm
  have k6 : ∀ z : PS, ∀ {i : Nat} (v : Int64), i ≠ 6 → r64 (w64 z i e v) 6 e = r64 z 6 e := fun z i v h => rw_ne z e v h.symm
  have k7 : ∀ z : PS, ∀ {i : Nat} (v : Int64), i ≠ 7 → r64 (w64 z i e v) 7 e = r64 z 7 e := fun z i v h => rw_ne z e v h.symm
  have k8 : ∀ z : PS, ∀ {i : Nat} (v : Int64), i ≠ 8 → r64 (w64 z i e v) 8 e = r64 z 8 e := fun z i v h => rw_ne z e v h.symm
  apply w12
  · rfl
  · rfl
  · rfl
  · rfl
  · rfl
  all_goals simp (discharger := decide) only [rw_eq, k0, k1, k2, k3, k4, k5, k6, k7, k8, l4, l2, l24, l36, l216, l8, l27, l9, ph_mul, ph_add, ph_sub, ph_neg]
  all_goals congr 1
  all_goals simp only [b2, b4, b6, b8, c4, c6, dd, a1, a2, a3, a4, a6]
  all_goals grind
theorem EQ.g {z : PS} {e : Nat} {E : Cv} (h : EQ z e E) : r64 z 0 e = ph (a1 E) ∧ r64 z 1 e = ph (a2 E) ∧ r64 z 2 e = ph (a3 E) ∧ r64 z 3 e = ph (a4 E) ∧ r64 z 4 e = ph (a6 E) := ⟨h 0 (by omega), h 1 (by omega), h 2 (by omega), h 3 (by omega), h 4 (by omega)⟩
theorem EQ.b2 {z : PS} {e : Nat} {E : Cv} (h : EQ z e E) : r64 z 5 e = ph (b2 E) := h 5 (by omega)
theorem EQ.b4 {z : PS} {e : Nat} {E : Cv} (h : EQ z e E) : r64 z 6 e = ph (b4 E) := h 6 (by omega)
theorem EQ.b6 {z : PS} {e : Nat} {E : Cv} (h : EQ z e E) : r64 z 7 e = ph (b6 E) := h 7 (by omega)
theorem EQ.b8 {z : PS} {e : Nat} {E : Cv} (h : EQ z e E) : r64 z 8 e = ph (b8 E) := h 8 (by omega)
theorem EQ.c4 {z : PS} {e : Nat} {E : Cv} (h : EQ z e E) : r64 z 9 e = ph (c4 E) := h 9 (by omega)
theorem EQ.c6 {z : PS} {e : Nat} {E : Cv} (h : EQ z e E) : r64 z 10 e = ph (c6 E) := h 10 (by omega)
theorem EQ.dd {z : PS} {e : Nat} {E : Cv} (h : EQ z e E) : r64 z 11 e = ph (dd E) := h 11 (by omega)
theorem EQ.a1 {z : PS} {e : Nat} {E : Cv} (h : EQ z e E) : r64 z 0 e = ph (a1 E) := h 0 (by omega)
theorem EQ.a2 {z : PS} {e : Nat} {E : Cv} (h : EQ z e E) : r64 z 1 e = ph (a2 E) := h 1 (by omega)
theorem EQ.a3 {z : PS} {e : Nat} {E : Cv} (h : EQ z e E) : r64 z 2 e = ph (a3 E) := h 2 (by omega)
theorem EQ.a4 {z : PS} {e : Nat} {E : Cv} (h : EQ z e E) : r64 z 3 e = ph (a4 E) := h 3 (by omega)
theorem EQ.a6 {z : PS} {e : Nat} {E : Cv} (h : EQ z e E) : r64 z 4 e = ph (a6 E) := h 4 (by omega)
theorem c_take {ev : EV} {z : PS} {e x : Nat} {E : Cv} (h : EQ z x E) : g_X0_take ev z e x = some (sE z e E) := by
  unfold g_X0_take
  rw [h.a1, h.a2, h.a3, h.a4, h.a6, c_put, ob_e]
theorem sE_sE (z : PS) (e : Nat) (E F : Cv) : sE (sE z e E) e F = sE z e F := by
  unfold sE
  refine Prod.ext rfl (Prod.ext ?_ rfl)
  funext j y
  dsimp only
  split <;> rfl
theorem c_shift {ev : EV} {z : PS} {e : Nat} {E : Cv} (h : EQ z e E) (r s t : Int) : g_X0_shift ev z e (ph r) (ph s) (ph t) = some (sE z e (sh E r s t)) := by
  unfold g_X0_shift
  rw [h.a1, h.a2, h.a3, h.a4, h.a6]
  simp only [l2, l3, ph_mul, ph_add, ph_sub]
  rw [c_put, ob_e]
  rfl
theorem c_grow {ev : EV} {z : PS} {e x : Nat} {E : Cv} (h : EQ z x E) (u : Int) : g_X0_grow ev z e x (ph u) = some (sE z e (sc E u)) := by
  unfold g_X0_grow
  rw [h.a1, h.a2, h.a3, h.a4, h.a6]
  simp only [bd_e, ph_mul]
  rw [c_put, ob_e]
  congr 2
  unfold sc
  refine Prod.ext ?_ (Prod.ext ?_ (Prod.ext ?_ (Prod.ext ?_ ?_))) <;> dsimp only <;> grind
theorem c_slope {ev : EV} {z : PS} {e : Nat} {E : Cv} (h : EQ z e E) (x : Int) : g_X0_slopeAt ev z e (ph x) = some (ph (a1 E * x + a3 E)) := by
  unfold g_X0_slopeAt
  rw [h.a1, h.a3, ph_mul, ph_add]
theorem c_right {ev : EV} {z : PS} {e : Nat} {E : Cv} (h : EQ z e E) (x : Int) : g_X0_rightAt ev z e (ph x) = some (ph (((x + a2 E) * x + a4 E) * x + a6 E)) := by
  unfold g_X0_rightAt
  rw [h.a2, h.a4, h.a6]
  simp only [ph_mul, ph_add]
theorem c_disc {ev : EV} {z : PS} {e : Nat} {E : Cv} (h : EQ z e E) (x : Int) : g_X0_discriminantAt ev z e (ph x) = some (ph ((a1 E * x + a3 E) * (a1 E * x + a3 E) + 4 * (((x + a2 E) * x + a4 E) * x + a6 E))) := by
  unfold g_X0_discriminantAt
  rw [c_slope h, ob_e, ob_e, c_right h, ob_e]
  simp only [l4, ph_mul, ph_add]
