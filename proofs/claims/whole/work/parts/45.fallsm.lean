/-! the model's falls at 2 and 3 -/
def FaR (ev : EV) (m : Nat) (z : PS) (p : Int) (E : Cv) (o : Option (Int32 × PS)) : Prop :=
  (¬ p ∣ dd E ∧ o = some (1, sI z (rf ev 127 m) 0 0 0 1 1 0)) ∨
  (p ∣ dd E ∧ ∃ N k i c sp, p ^ N ∣ dd E ∧ ¬ p ^ (N + 1) ∣ dd E ∧ Out p E k i c sp ∧
    ((k ≠ 10 ∧ ∃ z', o = some (1, z') ∧ AnsM ev m z z' N k i c sp) ∨
     (k = 10 ∧ ∃ r s t z' F, (0 ≤ r ∧ r ≤ 16) ∧ (0 ≤ s ∧ s ≤ 2) ∧ (0 ≤ t ∧ t ≤ 102) ∧ o = some (0, z') ∧ Fs ev m z z' ∧ AM ev m z' (sc F p) ∧ sc F p = sh E r s t)))
theorem ans_node {ev : EV} {m : Nat} {z z1 : PS} {N sp : Nat} (F : Fs ev m z z1) {c : Int32} (hc : c = nI (if sp = 1 then N else if N % 2 = 0 then 2 else 1)) : AnsM ev m z (wI (sI z1 (rf ev 127 m) 1 (nI N) 1 (nI N) c (nI N)) (rf ev 127 m) 6 (nI sp)) N 1 0 0 sp := by
  refine ⟨F.1.tr ⟨rfl, fun _ _ _ => rfl, fun b j h => by simp [sI, wI, h], fun _ _ _ _ => rfl⟩, ?_, ?_⟩
  · intro j hj
    unfold ansv
    rw [if_pos rfl, ← hc]
    rcases (show j = 0 ∨ j = 1 ∨ j = 2 ∨ j = 3 ∨ j = 4 ∨ j = 5 ∨ j = 6 by omega) with rfl | rfl | rfl | rfl | rfl | rfl | rfl <;> simp [sI, wI, rI] <;> rfl
  · have := F.2
    simp only [rI, sI, wI]
    simp [this]
theorem fit2 {p a : Int} (hp : p = 2 ∨ p = 3) {n : Nat} (hn : pok p n) (f : fit p a) : jr64 (ph a) (ph (p ^ n)) = 0 ↔ p ^ n ∣ a := by
  obtain ⟨h1, h2⟩ := pow_ok hn
  refine jr_0 ?_ h1 h2
  rcases f with rfl | f
  · right
    rcases hn with ⟨-, hn⟩ | ⟨h, -⟩
    · have := (pow2_all ⟨n, by omega⟩).2.2; exact ⟨_, this.symm⟩
    · omega
  · exact Or.inl f
theorem n_splits {ev : EV} {m : Nat} {z : PS} {E : Cv} (A : AM ev m z E) {p : Int} (hp : p = 2 ∨ p = 3) (f : ∀ k, fit p (co E k)) (f2 : fit p (-a2 E)) :
    ∃ z' sp, ((qr p 1 (a1 E) (-a2 E) ∧ sp = 1) ∨ (¬ qr p 1 (a1 E) (-a2 E) ∧ sp = 0)) ∧ Fs ev m z z' ∧ g_X8_splits ev z m (ph p) = some (nI sp, z') := by
  have hp0 := p_rng hp
  have g : ∀ a, fit p a → g_X8_modulo (ph a) (ph p) = some (ph (a % p)) := fun a h => m_mod hp0.1 hp0.2 (by
    rcases h with rfl | h
    · right; decide
    · exact Or.inl h)
  obtain ⟨kk, z1, r1, r2, r3⟩ := m_roots ev m z hp (em_rng hp (x := 1)) (em_rng hp (x := a1 E)) (em_rng hp (x := -a2 E))
  obtain ⟨i1, i2, i3⟩ := q_mod (p := p) (x := 1) (y := a1 E) (z := -a2 E)
  have o1 : (1 : Int64) = ph (1 % p) := by rcases hp with rfl | rfl <;> rfl
  have v0 : rJ z (rf ev 123 m) 0 = ph (a1 E) := A 0 (by omega)
  have hkn : (nI kk ≤ (0 : Int32)) ↔ kk = 0 := by
    rw [show (0 : Int32) = nI 0 from rfl, i_le (by omega) (by omega)]; omega
  unfold g_X8_splits
  rw [v0, A.v1, ph_neg, g (a1 E) (f 0), ob_e, g _ f2, ob_e, o1, r1, ob_e, bd_e, bd_e]
  rcases r3 with ⟨h1, h2, h3⟩ | ⟨h1, h2, R, -, -, -, h3⟩
  · refine ⟨z1, 0, Or.inr ⟨fun h => h3 (i2.mpr h), rfl⟩, by rw [h1]; exact Fs.rf ev m z, ?_⟩
    rw [if_pos (hkn.mpr h2)]; rfl
  · refine ⟨z1, 1, Or.inl ⟨i2.mp h2, rfl⟩, by rw [h3]; exact Fs_root ev m z _, ?_⟩
    rw [if_neg (fun h => by have := hkn.mp h; omega)]; rfl
theorem n_falls {ev : EV} {m : Nat} {z : PS} {E : Cv} (hd : rf ev 123 m ≠ rf ev 129 m) (A : AM ev m z E) {p : Int} (hp : p = 2 ∨ p = 3) (hB : BndU E) (hB3 : p = 2 ∨ BndB E) (hD0 : dd E ≠ 0) (hDb : -9000000000000000000 ≤ dd E ∧ dd E ≤ 9000000000000000000) (hN3 : p = 3 → ¬ (3 : Int) ^ 3 ∣ c4 E → ¬ (3 : Int) ^ 27 ∣ dd E) :
    FaR ev m z p E (g_X8_falls ev z m (ph p)) := by
  have hp0 := p_rng hp
  obtain ⟨N, n1, n2, n3, n4⟩ := n_times (p := p) (by omega) hp0.2 hD0 hDb
  generalize ho : g_X8_falls ev z m (ph p) = o
  unfold g_X8_falls at ho
  rw [n_dd A, ob_e, n4, ob_e] at ho
  by_cases hN : N = 0
  · subst hN
    rw [show nI 0 = (0 : Int32) from rfl, if_pos rfl, m_is, ob_e] at ho
    rw [Nat.zero_add, Int.pow_one] at n3
    exact Or.inl ⟨n3, ho.symm⟩
  have hNz : ¬ nI N = 0 := by
    intro h
    have := (i_le (a := N) (b := 0) (by omega) (by omega)).mp (by rw [h]; decide)
    omega
  rw [if_neg hNz] at ho
  have hpD : p ∣ dd E := by have := dv_pow (m := 1) n2 (by omega); rwa [Int.pow_one] at this
  right
  refine ⟨hpD, N, ?_⟩
  have hF : Fit p E := by
    right; have := bndU_b hB (r := 0) (t := 0) (by omega) (by omega); rwa [sh_0] at this
  obtain ⟨R, T, R0, R1, T0, T1, hN1, e1⟩ := n_midst A hp hF hpD
  have A1 := AM_sA ev m z (sh E R 0 T)
  have F1 := Fs_sA ev m z (sh E R 0 T)
  rw [e1, ob_e] at ho
  generalize hz1 : sA z (rf ev 123 m) (sh E R 0 T) = z1 at ho A1 F1
  have hE1 : Eqv E (sh E R 0 T) := Eqv.sh E R 0 T
  have hF1 : Fit p (sh E R 0 T) := Or.inr (bndU_b hB (by omega) (by omega))
  have f1 : ∀ k, fit p (co (sh E R 0 T) k) := fun k => by
    have := hF1.co (r := 0) (s := 0) (t := 0) (by omega) (by omega) (by omega) k
    rwa [sh_0] at this
  have fb : fit p (b2 (sh E R 0 T)) ∧ fit p (b6 (sh E R 0 T)) ∧ fit p (b8 (sh E R 0 T)) := by
    rcases hB3 with h | h
    · exact ⟨Or.inl h, Or.inl h, Or.inl h⟩
    · obtain ⟨x1, -, x2, x3⟩ := bndB_sh h (r := R) (s := 0) (t := T) (by omega)
      exact ⟨Or.inr ⟨by omega, by omega⟩, Or.inr ⟨by omega, by omega⟩, Or.inr ⟨by omega, by omega⟩⟩
  have f2 : fit p (-a2 (sh E R 0 T)) := by
    rcases hF1 with h | h
    · exact Or.inl h
    · right; obtain ⟨-, h, -⟩ := h; exact ⟨by omega, by omega⟩
  have q0 : ¬ ph p = 0 := by rw [ph_pow1]; exact pw_n0 (pok1 hp (by omega))
  have j2 := fit2 hp (pok1 hp (show 1 ≤ 39 by omega)) fb.1
  rw [Int.pow_one] at j2
  have p3 : g_X8_power (ph p) (3 : Int32) = some (ph (p ^ 3)) := g_power8 p (e := 3) (by omega)
  have hDE : dd (sh E R 0 T) = dd E := dd_sh E R 0 T
  rw [n_b2 A1, ob_e, ck_e q0] at ho
  by_cases hb2 : p ∣ b2 (sh E R 0 T)
  · rw [if_pos (j2.mpr hb2)] at ho
    have w4 : g_X8_goesIn ev z1 m (ph p) (4 : Int32) (2 : Int32) = some (if p ^ 2 ∣ a6 (sh E R 0 T) then 1 else 0) := n_in A1 (k := 4) (n := 2) (by omega) (pok1 hp (by omega)) (f1 4)
    rw [w4, ob_e] at ho
    by_cases h6 : p ^ 2 ∣ a6 (sh E R 0 T)
    · rw [if_pos h6, if_neg (by decide), n_b8 A1, ob_e, p3, ob_e, ck_e (pw_n0 (pok1 hp (by omega)))] at ho
      have j8 := fit2 hp (pok1 hp (show 3 ≤ 39 by omega)) fb.2.2
      by_cases h8 : p ^ 3 ∣ b8 (sh E R 0 T)
      · rw [if_pos (j8.mpr h8), n_b6 A1, ob_e, ob_e, ck_e (pw_n0 (pok1 hp (by omega)))] at ho
        have j6 := fit2 hp (pok1 hp (show 3 ≤ 39 by omega)) fb.2.1
        by_cases h3 : p ^ 3 ∣ b6 (sh E R 0 T)
        · rw [if_pos (j6.mpr h3)] at ho
          have hN2 : (p = 2 ∧ N ≤ 62) ∨ (p = 3 ∧ (¬ (3 : Int) ^ 3 ∣ c4 (sh E R 0 T) → N ≤ 26)) := by
            rcases hp with h | h
            · exact Or.inl ⟨h, by omega⟩
            · refine Or.inr ⟨h, fun hc => ?_⟩
              rw [c4_sh] at hc
              rcases Nat.lt_or_ge 26 N with h' | h'
              · exact absurd (dv_pow (by rw [← h]; exact n2) (by omega)) (hN3 h hc)
              · exact h'
          obtain ⟨E2, k, i, c, g1, g2, g3, g4⟩ := n_fallsOn hd A1 hp hF1 hN1 hb2 h6 h8 h3 (N := N) (by rw [hDE]; exact n3) hN2
          refine ⟨k, i, c, 0, n2, n3, ⟨_, hE1, hN1, Or.inr ⟨hb2, rfl, Or.inr (Or.inr (Or.inr ⟨h6, h8, h3, E2, g1, g2, g3⟩))⟩⟩, ?_⟩
          rcases g4 with ⟨k1, k2, z', e, a1, a2, a3⟩ | ⟨k1, r, s, t, z', F, b1, b2, b3, e, a1, a2, a3⟩
          · rw [e] at ho
            refine Or.inl ⟨k1, z', ho.symm, F1.1.tr a1, a2, ?_⟩
            rw [a3]; simp only [rI]; rw [F1.2]
          · rw [e] at ho
            refine Or.inr ⟨k1, R + r, s, T + t, z', F, by omega, by omega, by omega, ho.symm, F1.tr a1, a2, ?_⟩
            rw [a3, sh_sh]; congr 1 <;> omega
        · rw [if_neg (fun h => h3 (j6.mp h)), ck_e q0] at ho
          obtain ⟨α, hα⟩ := hN1.1
          obtain ⟨δ, hδ⟩ := h6
          have hY : g_X8_modulo (ph (a3 (sh E R 0 T)) / ph p) (ph p) = some (ph (α % p)) := by
            have := qm (a := α) (j := 1) hp (pok1 hp (by omega)) (by rw [Int.pow_one, ← hα]; exact f1 2)
            rwa [Int.pow_one, ← hα] at this
          have hZ : g_X8_modulo (-(ph (a6 (sh E R 0 T)) / ph (p ^ 2))) (ph p) = some (ph (-δ % p)) := by
            rw [hδ]; exact qm_neg (a := δ) (j := 1) hp (pok1 hp (by omega)) (by show fit p (p ^ 2 * δ); rw [← hδ]; exact f1 4)
          have o1 : (1 : Int64) = ph (1 % p) := by rcases hp with rfl | rfl <;> rfl
          obtain ⟨kk, z2, r1, r2, r3⟩ := m_roots ev m z1 hp (em_rng hp (x := 1)) (em_rng hp (x := α)) (em_rng hp (x := -δ))
          obtain ⟨i1, i2, i3⟩ := q_mod (p := p) (x := 1) (y := α) (z := -δ)
          have hkn : (nI kk ≤ (0 : Int32)) ↔ kk = 0 := by
            rw [show (0 : Int32) = nI 0 from rfl, i_le (by omega) (by omega)]; omega
          rw [A1.v2, A1.v4, hY, ob_e, ph_pow2, ck_e (pw_n0 (pok1 hp (by omega))), hZ, ob_e, o1, r1, ob_e, bd_e, bd_e] at ho
          rcases r3 with ⟨x1, x2, x3⟩ | ⟨x1, x2, Q, -, -, -, x3⟩
          · rw [if_pos (hkn.mpr x2), m_is, ob_e] at ho
            refine ⟨4, 0, 1, 0, n2, n3, ⟨_, hE1, hN1, Or.inr ⟨hb2, rfl, Or.inr (Or.inr (Or.inl ⟨⟨δ, hδ⟩, h8, h3, rfl, rfl, α, δ, hα, hδ, Or.inr ⟨fun h => x3 (i2.mpr h), rfl⟩⟩))⟩⟩, Or.inl ⟨by omega, _, ho.symm, ?_⟩⟩
            rw [x1]
            exact ans_of F1 (by omega) rfl rfl rfl rfl rfl rfl
          · rw [if_neg (fun h => by have := hkn.mp h; omega), m_is, ob_e] at ho
            refine ⟨4, 0, 3, 0, n2, n3, ⟨_, hE1, hN1, Or.inr ⟨hb2, rfl, Or.inr (Or.inr (Or.inl ⟨⟨δ, hδ⟩, h8, h3, rfl, rfl, α, δ, hα, hδ, Or.inl ⟨i2.mp x2, rfl⟩⟩))⟩⟩, Or.inl ⟨by omega, _, ho.symm, ?_⟩⟩
            rw [x3]
            exact ans_of (F1.tr (Fs_root ev m z1 _)) (by omega) rfl rfl rfl rfl rfl rfl
      · rw [if_neg (fun h => h8 (j8.mp h)), m_is, ob_e] at ho
        refine ⟨3, 0, 2, 0, n2, n3, ⟨_, hE1, hN1, Or.inr ⟨hb2, rfl, Or.inr (Or.inl ⟨h6, h8, rfl, rfl, rfl⟩)⟩⟩, Or.inl ⟨by omega, _, ho.symm, ?_⟩⟩
        exact ans_of F1 (by omega) rfl rfl rfl rfl rfl rfl
    · rw [if_neg h6, if_pos rfl, m_is, ob_e] at ho
      refine ⟨2, 0, 1, 0, n2, n3, ⟨_, hE1, hN1, Or.inr ⟨hb2, rfl, Or.inl ⟨h6, rfl, rfl, rfl⟩⟩⟩, Or.inl ⟨by omega, _, ho.symm, ?_⟩⟩
      refine ans_of F1 (by omega) rfl rfl ?_ rfl rfl rfl
      show nI N = nI N - nI 0
      rw [show nI 0 = (0 : Int32) from rfl]; grind
  · rw [if_neg (fun h => hb2 (j2.mp h))] at ho
    obtain ⟨z2, sp, g1, g2, g3⟩ := n_splits A1 hp f1 f2
    rw [g3, ob_e, bd_e, bd_e, jr2 (by omega)] at ho
    refine ⟨1, 0, 0, sp, n2, n3, ⟨_, hE1, hN1, Or.inl ⟨hb2, rfl, rfl, rfl, g1⟩⟩, Or.inl ⟨by omega, ?_⟩⟩
    have FF := F1.tr g2
    dsimp only at ho
    rcases g1 with ⟨-, rfl⟩ | ⟨-, rfl⟩
    · rw [if_neg (by decide), m_is, ob_e, if_neg (by decide), bd_e] at ho
      exact ⟨_, ho.symm, ans_node (sp := 1) FF rfl⟩
    · rw [show nI 0 = (0 : Int32) from rfl, if_pos rfl] at ho
      by_cases he : N % 2 = 0
      · rw [he, show nI 0 = (0 : Int32) from rfl, if_pos rfl, m_is, ob_e, if_pos rfl, bd_e] at ho
        exact ⟨_, ho.symm, ans_node (sp := 0) FF (by rw [if_neg (by decide), if_pos he]; rfl)⟩
      · rw [show N % 2 = 1 by omega, if_neg (by decide), m_is, ob_e, if_pos rfl, bd_e] at ho
        exact ⟨_, ho.symm, ans_node (sp := 0) FF (by rw [if_neg (by decide), if_neg he]; rfl)⟩
