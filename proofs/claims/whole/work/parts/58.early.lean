/-! the class's telling -/
def sT (z : PS) (th : Nat) (k f mm c : Int32) : PS := w32 (w32 (w32 (w32 (w32 z 20 th k) 21 th 0) 22 th f) 23 th mm) 24 th c
theorem c_tell (ev : EV) (z : PS) (th : Nat) (k f mm c : Int32) : g_X1_tell ev z th k f mm c = some (sT z th k f mm c) := rfl
def FrC (ev : EV) (th : Nat) (z z' : PS) : Prop := z'.2.2 = z.2.2 ∧ (∀ i x, ¬ (20 ≤ i ∧ i < 29 ∧ x = th) → z'.1 i x = z.1 i x) ∧ (∀ i x, ¬ (i < 12 ∧ x = rf ev 27 th) → z'.2.1 i x = z.2.1 i x)
theorem FrC.rf (ev : EV) (th : Nat) (z : PS) : FrC ev th z z := ⟨rfl, fun _ _ _ => rfl, fun _ _ _ => rfl⟩
theorem FrC.tr {ev : EV} {th : Nat} {x y z : PS} (h : FrC ev th x y) (h' : FrC ev th y z) : FrC ev th x z := ⟨h'.1.trans h.1, fun i a ha => (h'.2.1 i a ha).trans (h.2.1 i a ha), fun i a ha => (h'.2.2 i a ha).trans (h.2.2 i a ha)⟩
theorem FrC_sE (ev : EV) (th : Nat) (z : PS) (E : Cv) : FrC ev th z (sE z (rf ev 27 th) E) := ⟨rfl, fun _ _ _ => rfl, fun i x h => by show (if _ then _ else _) = _; rw [if_neg (fun h' => h ⟨h'.2, h'.1⟩)]⟩
theorem FrC_w (ev : EV) (th : Nat) (z : PS) {i : Nat} (hi : 20 ≤ i ∧ i < 29) (v : Int32) : FrC ev th z (w32 z i th v) := ⟨rfl, fun j x h => by show (if _ then _ else _) = _; rw [if_neg (fun h' => h ⟨by omega, by omega, h'.2⟩)], fun _ _ _ => rfl⟩
theorem FrC_sT (ev : EV) (th : Nat) (z : PS) (k f mm c : Int32) : FrC ev th z (sT z th k f mm c) :=
  ((((FrC_w ev th z (by omega) k).tr (FrC_w ev th _ (by omega) 0)).tr (FrC_w ev th _ (by omega) f)).tr (FrC_w ev th _ (by omega) mm)).tr (FrC_w ev th _ (by omega) c)
/-- what the Fall shows -/
def AnsC (ev : EV) (th : Nat) (z z' : PS) (N k i c sp : Nat) : Prop := FrC ev th z z' ∧ ∀ j, j < 7 → r32 z' (20 + j) th = ansv N k i c sp j
def CF (ev : EV) (z : PS) (th P N : Nat) (E : Cv) : Prop := r32 z 28 th = nI P ∧ r32 z 25 th = nI N ∧ r32 z 26 th = 0 ∧ EQ z (rf ev 27 th) E
theorem CF.sE {ev : EV} {z : PS} {th P N : Nat} {E : Cv} (h : CF ev z th P N E) (F : Cv) : CF ev (sE z (rf ev 27 th) F) th P N F := ⟨h.1, h.2.1, h.2.2.1, EQ_sE z _ F⟩
theorem ansC {ev : EV} {th : Nat} {z z1 : PS} {P N k i c : Nat} {E : Cv} (F : FrC ev th z z1) (C : CF ev z1 th P N E) (hk : k ≠ 1) {K f mm cc I : Int32} (h0 : K = nI k) (h2 : f = nI N - nI (mmK k i - 1)) (h3 : mm = nI (mmK k i)) (h4 : cc = nI c) (h1 : I = nI i) : AnsC ev th z (w32 (sT z1 th K f mm cc) 21 th I) N k i c 0 := by
  refine ⟨(F.tr (FrC_sT ev th z1 K f mm cc)).tr (FrC_w ev th _ (by omega) I), ?_⟩
  intro j hj
  unfold ansv
  rw [if_neg hk]
  have e5 : r32 z1 25 th = nI N := C.2.1
  have e6 : r32 z1 26 th = 0 := C.2.2.1
  rcases (show j = 0 ∨ j = 1 ∨ j = 2 ∨ j = 3 ∨ j = 4 ∨ j = 5 ∨ j = 6 by omega) with rfl | rfl | rfl | rfl | rfl | rfl | rfl
  · rw [if_pos rfl, ← h0]; simp [sT, w32, r32]
  · rw [if_neg (by decide), if_pos rfl, ← h1]; simp [sT, w32, r32]
  · rw [if_neg (by decide), if_neg (by decide), if_pos rfl, ← h2]; simp [sT, w32, r32]
  · rw [if_neg (by decide), if_neg (by decide), if_neg (by decide), if_pos rfl, ← h3]; simp [sT, w32, r32]
  · rw [if_neg (by decide), if_neg (by decide), if_neg (by decide), if_neg (by decide), if_pos rfl, ← h4]; simp [sT, w32, r32]
  · rw [if_neg (by decide), if_neg (by decide), if_neg (by decide), if_neg (by decide), if_neg (by decide), if_pos rfl, ← e5]; simp [sT, w32, r32]
  · rw [if_neg (by decide), if_neg (by decide), if_neg (by decide), if_neg (by decide), if_neg (by decide), if_neg (by decide), show nI 0 = (0 : Int32) from rfl, ← e6]; simp [sT, w32, r32]
theorem sT_21 (z : PS) (th : Nat) (k f mm c : Int32) : w32 (sT z th k f mm c) 21 th 0 = sT z th k f mm c := by
  unfold sT w32
  refine Prod.ext ?_ rfl
  funext j y
  dsimp only
  by_cases h : j = 21 ∧ y = th
  · obtain ⟨rfl, rfl⟩ := h; simp
  · rw [if_neg h]
theorem ansC0 {ev : EV} {th : Nat} {z z1 : PS} {P N k c : Nat} {E : Cv} (F : FrC ev th z z1) (C : CF ev z1 th P N E) (hk : k ≠ 1) {K f mm cc : Int32} (h0 : K = nI k) (h2 : f = nI N - nI (mmK k 0 - 1)) (h3 : mm = nI (mmK k 0)) (h4 : cc = nI c) : AnsC ev th z (sT z1 th K f mm cc) N k 0 c 0 := by
  have := ansC (i := 0) F C hk h0 h2 h3 h4 rfl
  rwa [show nI 0 = (0 : Int32) from rfl, sT_21] at this
theorem qr_cg {p x y c x' y' c' : Int} (hx : p ∣ x - x') (hy : p ∣ y - y') (hc : p ∣ c - c') : qr p x y c ↔ qr p x' y' c' := by
  have : ∀ T, p ∣ x * T * T + y * T + c ↔ p ∣ x' * T * T + y' * T + c' := by
    intro T
    apply Iff.symm
    apply dv_iff
    obtain ⟨a, ha⟩ := hx; obtain ⟨b, hb⟩ := hy; obtain ⟨d, hd⟩ := hc
    exact ⟨a * T * T + b * T + d, by
      have e1 : x = x' + p * a := by omega
      have e2 : y = y' + p * b := by omega
      have e3 : c = c' + p * d := by omega
      rw [e1, e2, e3]; grind⟩
  exact ⟨fun ⟨T, h⟩ => ⟨T, (this T).mp h⟩, fun ⟨T, h⟩ => ⟨T, (this T).mpr h⟩⟩
theorem PK_small {P : Nat} (h2 : 2 ≤ P) (hp : P ≤ 27064) {n : Nat} (hn : n ≤ 4) : PK P n := by
  have h4 : PK P 4 := by
    have m1 := mb (X := 27064) (Y := 27064) (x := (P : Int)) (y := P) (by omega) (by omega)
    have m2 := mb m1 m1
    have e : (P : Int) ^ 4 = P * P * (P * P) := by grind
    have : 0 < (P : Int) ^ 4 := Int.pow_pos (by omega)
    exact ⟨by omega, by omega, this, by rw [e]; exact ⟨by omega, by omega⟩, fun _ => by omega⟩
  exact h4.dn hn
/-- Tate's list from the equation at the singular point on, with the roots counted up to p -/
def LateG (P : Nat) (E : Cv) (k i c : Nat) : Prop := ∃ b cc d : Int, a2 E = P * b ∧ a4 E = (P : Int) ^ 2 * cc ∧ a6 E = (P : Int) ^ 3 * d ∧
  ((¬ (P : Int) ∣ cubD b cc d ∧ k = 5 ∧ i = 0 ∧ c = 1 + cnt P b cc d P) ∨
   ((P : Int) ∣ cubD b cc d ∧ ¬ (P : Int) ∣ b * b - 3 * cc ∧ k = 6 ∧ ∃ E3 : Cv, Eqv E E3 ∧ NK P 1 E3 ∧ ∃ j, i = j + 1 ∧ TO P j 1 E3 c) ∨
   ((P : Int) ∣ cubD b cc d ∧ (P : Int) ∣ b * b - 3 * cc ∧ i = 0 ∧ ∃ E3 : Cv, Eqv E E3 ∧ NT P E3 ∧ ∃ y z : Int, a3 E3 = (P : Int) ^ 2 * y ∧ a6 E3 = (P : Int) ^ 4 * (-z) ∧
     ((¬ (P : Int) ∣ y * y - 4 * 1 * z ∧ k = 7 ∧ ((qr P 1 y z ∧ c = 3) ∨ (¬ qr P 1 y z ∧ c = 1))) ∨
      ((P : Int) ∣ y * y - 4 * 1 * z ∧ ∃ E4 : Cv, Eqv E3 E4 ∧ NT2 P E4 ∧ ((¬ (P : Int) ^ 4 ∣ a4 E4 ∧ k = 8 ∧ c = 2) ∨ ((P : Int) ^ 4 ∣ a4 E4 ∧ ¬ (P : Int) ^ 6 ∣ a6 E4 ∧ k = 9 ∧ c = 1))))))
def OutG (P : Nat) (E1 : Cv) (k i c : Nat) : Prop :=
    ((¬ (P : Int) ^ 2 ∣ a6 E1 ∧ k = 2 ∧ i = 0 ∧ c = 1) ∨
     ((P : Int) ^ 2 ∣ a6 E1 ∧ ¬ (P : Int) ^ 3 ∣ b8 E1 ∧ k = 3 ∧ i = 0 ∧ c = 2) ∨
     ((P : Int) ^ 2 ∣ a6 E1 ∧ (P : Int) ^ 3 ∣ b8 E1 ∧ ¬ (P : Int) ^ 3 ∣ b6 E1 ∧ k = 4 ∧ i = 0 ∧ ∃ α δ : Int, a3 E1 = P * α ∧ a6 E1 = (P : Int) ^ 2 * δ ∧ ((qr P 1 α (-δ) ∧ c = 3) ∨ (¬ qr P 1 α (-δ) ∧ c = 1))) ∨
     ((P : Int) ^ 2 ∣ a6 E1 ∧ (P : Int) ^ 3 ∣ b8 E1 ∧ (P : Int) ^ 3 ∣ b6 E1 ∧ ∃ E2 : Cv, Eqv E1 E2 ∧ FL P E2 ∧ LateG P E2 k i c))
theorem c_early {ev : EV} {z : PS} {th P N : Nat} {L : Cv} {r t : Int} (hpr : Pr P) (hp2 : P ≤ 27064) (hL : LB L) (hr : 0 ≤ r ∧ r < P) (ht : 0 ≤ t ∧ t < P) (C : CF ev z th P N (sh L r 0 t)) (hN1 : N1 P (sh L r 0 t)) :
    (∃ k c z', k ≠ 1 ∧ OutG P (sh L r 0 t) k 0 c ∧ g_X1_tellEarlyKind ev z th = some (1, z') ∧ AnsC ev th z z' N k 0 c 0) ∨
    ((P : Int) ^ 2 ∣ a6 (sh L r 0 t) ∧ (P : Int) ^ 3 ∣ b8 (sh L r 0 t) ∧ (P : Int) ^ 3 ∣ b6 (sh L r 0 t) ∧ g_X1_tellEarlyKind ev z th = some (0, z)) := by
  have hp := hpr.1
  obtain ⟨hP, hN, hS, hE⟩ := C
  obtain ⟨f1, f2, f3, f4, f6⟩ := lb_sh hL (r := r) (s := 0) (t := t) (by omega) (by omega) (by omega)
  obtain ⟨g6, g8⟩ := lb_b hL (r := r) (s := 0) (t := t) (by omega)
  have C : CF ev z th P N (sh L r 0 t) := ⟨hP, hN, hS, hE⟩
  generalize ho : g_X1_tellEarlyKind ev z th = o
  unfold g_X1_tellEarlyKind at ho
  have w6 : g_X1_goesIn ev z th (ph (a6 (sh L r 0 t))) (2 : Int32) = some (if (P : Int) ^ 2 ∣ a6 (sh L r 0 t) then 1 else 0) := k_in (n := 2) hP (PK_small (by omega) hp2 (by omega)) (Or.inr ⟨by omega, by omega⟩) (by omega)
  have w8 : g_X1_goesIn ev z th (ph (b8 (sh L r 0 t))) (3 : Int32) = some (if (P : Int) ^ 3 ∣ b8 (sh L r 0 t) then 1 else 0) := k_in (n := 3) hP (PK_small (by omega) hp2 (by omega)) (Or.inr g8) (by omega)
  have wb : g_X1_goesIn ev z th (ph (b6 (sh L r 0 t))) (3 : Int32) = some (if (P : Int) ^ 3 ∣ b6 (sh L r 0 t) then 1 else 0) := k_in (n := 3) hP (PK_small (by omega) hp2 (by omega)) (Or.inr g6) (by omega)
  rw [hE.a6, hE.b8, hE.b6, hE.a3, w6, ob_e, hN] at ho
  by_cases h6 : (P : Int) ^ 2 ∣ a6 (sh L r 0 t)
  · rw [if_pos h6, if_neg (by decide), w8, ob_e] at ho
    by_cases h8 : (P : Int) ^ 3 ∣ b8 (sh L r 0 t)
    · rw [if_pos h8, if_neg (by decide), wb, ob_e] at ho
      by_cases hb : (P : Int) ^ 3 ∣ b6 (sh L r 0 t)
      · rw [if_pos hb, if_neg (by decide)] at ho
        exact Or.inr ⟨h6, h8, hb, ho.symm⟩
      · left
        obtain ⟨α, hα⟩ := hN1.1
        obtain ⟨δ, hδ⟩ := h6
        obtain ⟨w, e1, wR, w1, w2⟩ := k_part (ev := ev) (n := 1) hP (PK_small (by omega) hp2 (by omega)) (a := α) (by rw [Int.pow_one, ← hα]; exact Or.inr ⟨by omega, by omega⟩) (by omega)
        obtain ⟨v, e2, vR, v1, v2⟩ := k_part (ev := ev) (n := 2) hP (PK_small (by omega) hp2 (by omega)) (a := δ) (by rw [← hδ]; exact Or.inr ⟨by omega, by omega⟩) (by omega)
        have e1 : g_X1_part ev z th (ph (a3 (sh L r 0 t))) (1 : Int32) = some (ph w) := by
          rw [hα]; rw [Int.pow_one] at e1; exact e1
        have e2 : g_X1_part ev z th (ph (a6 (sh L r 0 t))) (2 : Int32) = some (ph v) := by rw [hδ]; exact e2
        rw [if_neg hb, if_pos rfl, e1, ob_e, e2, ob_e, l1, ph_neg] at ho
        have hq : qr P 1 w (-v) ↔ qr P 1 α (-δ) := qr_cg ⟨0, by omega⟩ w1 (by obtain ⟨q, hq⟩ := v1; exact ⟨-q, by grind⟩)
        have ff : ∀ T : Int, 0 ≤ T → T < P → fit P ((1 * T + w) * T + -v) := by
          intro T t0 t1
          rcases w2 with w2 | w2
          · exact Or.inl w2
          · rcases v2 with v2 | v2
            · exact Or.inl v2
            · right
              subst w2 v2
              have b1 : -2100000000 ≤ w ∧ w ≤ 2100000000 := by
                rw [hα] at f3
                rcases (show w < 0 ∨ 0 ≤ w by omega) with h | h
                · have := Int.mul_le_mul_of_nonneg_right (show 1 ≤ (P : Int) by omega) (show 0 ≤ -w by omega)
                  have e : (P : Int) * -w = -(P * w) := by grind
                  omega
                · have := Int.mul_le_mul_of_nonneg_right (show 1 ≤ (P : Int) by omega) h
                  omega
              have b2 : -1200000000000000000 ≤ v ∧ v ≤ 1200000000000000000 := by
                rw [hδ] at f6
                have hP2 : 1 ≤ (P : Int) ^ 2 := Int.pow_pos (by omega)
                rcases (show v < 0 ∨ 0 ≤ v by omega) with h | h
                · have := Int.mul_le_mul_of_nonneg_right hP2 (show 0 ≤ -v by omega)
                  have e : (P : Int) ^ 2 * -v = -((P : Int) ^ 2 * v) := by grind
                  omega
                · have := Int.mul_le_mul_of_nonneg_right hP2 h
                  omega
              have m := mb (X := 2100100000) (Y := 27064) (x := 1 * T + w) (y := T) (by omega) (by omega)
              exact ⟨by omega, by omega⟩
        rcases k_root (ev := ev) hP (by omega) (by omega) ff with ⟨n1, n2⟩ | ⟨n1, R, n2, n3, n4⟩
        · rw [n2, ob_e, if_pos rfl] at ho
          unfold q_X1_tellEarlyKind_112 at ho
          rw [if_pos rfl, hN, c_tell, ob_e] at ho
          refine ⟨4, 1, _, by omega, Or.inr (Or.inr (Or.inl ⟨⟨δ, hδ⟩, h8, hb, rfl, rfl, α, δ, hα, hδ, Or.inr ⟨fun h => n1 (hq.mpr h), rfl⟩⟩)), ho.symm, ?_⟩
          exact ansC0 (FrC.rf ev th z) C (by omega) rfl rfl rfl rfl
        · have hR1 : ¬ nI R = (-1 : Int32) := by
            intro h
            have h1 := nI_toInt (n := R) (by omega)
            rw [h] at h1
            have : ((-1 : Int32)).toInt = -1 := by decide
            omega
          rw [n4, ob_e, if_neg hR1] at ho
          unfold q_X1_tellEarlyKind_112 at ho
          rw [if_neg (by decide), hN, c_tell, ob_e] at ho
          refine ⟨4, 3, _, by omega, Or.inr (Or.inr (Or.inl ⟨⟨δ, hδ⟩, h8, hb, rfl, rfl, α, δ, hα, hδ, Or.inl ⟨hq.mp n1, rfl⟩⟩)), ho.symm, ?_⟩
          exact ansC0 (FrC.rf ev th z) C (by omega) rfl rfl rfl rfl
    · left
      rw [if_neg h8, if_pos rfl, c_tell, ob_e] at ho
      refine ⟨3, 2, _, by omega, Or.inr (Or.inl ⟨h6, h8, rfl, rfl, rfl⟩), ho.symm, ?_⟩
      exact ansC0 (FrC.rf ev th z) C (by omega) rfl rfl rfl rfl
  · left
    rw [if_neg h6, if_pos rfl, c_tell, ob_e] at ho
    refine ⟨2, 1, _, by omega, Or.inl ⟨h6, rfl, rfl, rfl⟩, ho.symm, ?_⟩
    refine ansC0 (FrC.rf ev th z) C (by omega) rfl ?_ rfl rfl
    show nI N = nI N - nI 0
    rw [show nI 0 = (0 : Int32) from rfl]; grind
