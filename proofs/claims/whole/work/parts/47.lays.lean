/-! the model's laysAt at 2 and 3 -/
theorem sc_sc (G : Cv) (u v : Int) : sc (sc G u) v = sc G (u * v) := by
  unfold sc; simp only [a1, a2, a3, a4, a6]
  refine Prod.ext ?_ (Prod.ext ?_ (Prod.ext ?_ (Prod.ext ?_ ?_))) <;> dsimp only <;> grind
theorem sc_1 (G : Cv) : sc G 1 = G := by
  unfold sc; simp only [a1, a2, a3, a4, a6]
  refine Prod.ext ?_ (Prod.ext ?_ (Prod.ext ?_ (Prod.ext ?_ ?_))) <;> dsimp only <;> grind
def H3 (p : Int) (E : Cv) : Prop := p = 3 → ∀ F n, Eqv E (sc F ((3 : Int) ^ (n : Nat))) → ¬ (3 : Int) ^ 3 ∣ c4 F → ¬ (3 : Int) ^ 27 ∣ dd F
theorem H3.dn {p : Int} {E F : Cv} (h : H3 p E) (hE : Eqv E (sc F p)) : H3 p F := by
  intro hp G n hG
  have := hG.sc p
  rw [sc_sc] at this
  refine h hp G (n + 1) ?_
  rw [Int.pow_succ]
  rw [← hp]
  rw [← hp] at this
  exact hE.tr this
theorem Fr_at (ev : EV) (m : Nat) (z : PS) (j : Nat) (v : Int32) : Fr ev m z (wI z (rf ev 127 m) j v) := ⟨rfl, fun _ _ _ => rfl, fun b j h => by simp [wI, h], fun _ _ _ _ => rfl⟩
def ans0 (j : Nat) : Int32 := if j = 3 ∨ j = 4 then 1 else 0
/-- what the prime comes to at F -/
def Ends (p : Int) (F : Cv) (v : Nat → Int32) : Prop := (¬ p ∣ dd F ∧ ∀ j, j < 7 → v j = ans0 j) ∨ (p ∣ dd F ∧ ∃ N k i c sp, p ^ N ∣ dd F ∧ ¬ p ^ (N + 1) ∣ dd F ∧ Out p F k i c sp ∧ k ≠ 10 ∧ ∀ j, j < 7 → v j = ansv N k i c sp j)
theorem la_loop {ev : EV} {m : Nat} (hd : rf ev 123 m ≠ rf ev 129 m) {p : Int} (hp : p = 2 ∨ p = 3) : ∀ (d n j : Nat) (E : Cv) (z : PS), AM ev m z E → BndU E → (p = 2 ∨ BndB E) → dd E ≠ 0 → (-9000000000000000000 ≤ dd E ∧ dd E ≤ 9000000000000000000) → (dd E).natAbs < 4096 ^ d → H3 p E → rI z (rf ev 127 m) 7 = nI j →
    ∃ z' F nn, q_X8_laysAt_22 ev m (n + d + 1) (ph p) z = some z' ∧ nn ≤ d ∧ Eqv E (sc F (p ^ nn)) ∧ Fr ev m z z' ∧ rI z' (rf ev 127 m) 7 = nI (j + nn) ∧ Ends p F (fun j => rI z' (rf ev 127 m) j) := by
  intro d
  induction d with
  | zero => intro n j E z _ _ _ h0 _ h; rw [Nat.pow_zero] at h; omega
  | succ d ih =>
    intro n j E z A hU hB h0 hb hlt h3 h7
    have fa := n_falls hd A hp hU hB h0 hb (fun hp3 => h3 hp3 E 0 (by rw [Int.pow_zero, sc_1]; exact Eqv.rf E))
    rw [show n + (d + 1) + 1 = (n + d + 1) + 1 by omega, q_X8_laysAt_22]
    generalize g_X8_falls ev z m (ph p) = o at fa
    rcases fa with ⟨f1, f2⟩ | ⟨f1, N, k, i, c, sp, f2, f3, f4, ⟨f5, z1, f6, f7⟩ | ⟨f5, r, s, t, z1, F, hr, hs, ht, f6, f7, f8, f9⟩⟩
    · subst f2
      refine ⟨_, E, 0, rfl, by omega, by rw [Int.pow_zero, sc_1]; exact Eqv.rf E, sI_fr ev m z _ _ _ _ _ _, ?_, Or.inl ⟨f1, ?_⟩⟩
      · rw [Nat.add_zero, ← h7]; simp [sI, wI, rI]
      · intro j hj
        rcases (show j = 0 ∨ j = 1 ∨ j = 2 ∨ j = 3 ∨ j = 4 ∨ j = 5 ∨ j = 6 by omega) with rfl | rfl | rfl | rfl | rfl | rfl | rfl <;> simp [sI, wI, rI, ans0]
    · subst f6
      refine ⟨z1, E, 0, rfl, by omega, by rw [Int.pow_zero, sc_1]; exact Eqv.rf E, f7.1, ?_, Or.inr ⟨f1, N, k, i, c, sp, f2, f3, f4, f5, f7.2.1⟩⟩
      rw [f7.2.2, h7]; rfl
    · subst f6
      obtain ⟨hU', hRk⟩ := bndU_shr hU hp hr hs ht f9
      have hdd : dd E = p ^ 12 * dd F := by rw [← dd_sc, f9, dd_sh]
      have hEF : Eqv E (sc F p) := by rw [f9]; exact Eqv.sh E r s t
      have hsk := (n_shr f8 (u := p) (by omega) hRk).1 (sc_dv F p) F rfl
      have hF0 : dd F ≠ 0 := by intro h; rw [h, Int.mul_zero] at hdd; exact h0 hdd
      have hFb : (-9000000000000000000 ≤ dd F ∧ dd F ≤ 9000000000000000000) ∧ (dd F).natAbs < 4096 ^ d := by
        rw [Nat.pow_succ] at hlt
        rcases hp with rfl | rfl
        · rw [show (2 : Int) ^ 12 = 4096 by decide] at hdd; omega
        · rw [show (3 : Int) ^ 12 = 531441 by decide] at hdd; omega
      have hB' : p = 2 ∨ BndB F := by
        rcases hp with h | rfl
        · exact Or.inl h
        · rcases hB with h | h
          · omega
          · exact Or.inr (bndB_shr h hr f9)
      have A2 : AM ev m (wI (sA z1 (rf ev 123 m) F) (rf ev 127 m) 7 (nI (j + 1))) F := AM_sA ev m z1 F
      obtain ⟨z', G, nn, g1, g2, g3, g4, g5, g6⟩ := ih n (j + 1) F _ A2 hU' hB' hF0 hFb.1 hFb.2 (h3.dn hEF) (by simp [rI, wI])
      refine ⟨z', G, nn + 1, ?_, by omega, ?_, ?_, by rw [g5]; congr 1; omega, g6⟩
      · rw [ob_e, bd_e, bd_e, if_pos rfl, hsk, ob_e, bd_e, bd_e, bd_e, bd_e]
        have : rI (sA z1 (rf ev 123 m) F) (rf ev 127 m) 7 = nI j := by
          rw [← h7]; show z1.2.2.1 _ _ = z.2.2.1 _ _; rw [f7.2]
        dsimp only
        rw [this, nI_s]
        exact g1
      · have := g3.sc p
        rw [sc_sc] at this
        rw [Int.pow_succ]
        exact hEF.tr this
      · refine (f7.1.tr (Fs_sA ev m z1 F).1).tr ((Fr_at ev m _ 7 _).tr g4)
theorem n_lays {ev : EV} {m : Nat} {z : PS} {E : Cv} (hd : rf ev 123 m ≠ rf ev 129 m) {p : Int} (hp : p = 2 ∨ p = 3) (A : AM ev m z E) (hU : BndU E) (hB : p = 2 ∨ BndB E) (h0 : dd E ≠ 0) (hb : -9000000000000000000 ≤ dd E ∧ dd E ≤ 9000000000000000000) (h3 : H3 p E) :
    ∃ z' F nn, g_X8_laysAt ev z m (ph p) = some z' ∧ nn ≤ 6 ∧ Eqv E (sc F (p ^ nn)) ∧ Fr ev m z z' ∧ rI z' (rf ev 127 m) 7 = nI nn ∧ Ends p F (fun j => rI z' (rf ev 127 m) j) := by
  obtain ⟨n, hn⟩ := FU_ge (d := 6) (by omega)
  obtain ⟨z', F, nn, g1, g2, g3, g4, g5, g6⟩ := la_loop hd hp 6 n 0 E (wI z (rf ev 127 m) 7 0) A hU hB h0 hb (by omega) h3 (by simp [rI, wI]; rfl)
  refine ⟨z', F, nn, ?_, g2, g3, ?_, by rw [g5, Nat.zero_add], g6⟩
  · unfold g_X8_laysAt
    rw [bd_e, if_pos (by rw [show (3 : Int64) = ph 3 from rfl, ph_le ⟨by omega, by omega⟩ ⟨by omega, by omega⟩]; omega), hn]
    exact g1
  · exact (Fr_at ev m z 7 0).tr g4
