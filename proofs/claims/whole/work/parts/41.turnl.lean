theorem pok_dn {p : Int} {n j : Nat} (h : pok p n) (hj : j ≤ n) : pok p j := by
  rcases h with ⟨h1, h2⟩ | ⟨h1, h2⟩
  · exact Or.inl ⟨h1, by omega⟩
  · exact Or.inr ⟨h1, by omega⟩
theorem one_mod {p : Int} (hp : p = 2 ∨ p = 3) : g_X8_modulo (1 : Int64) (ph p) = some (ph (1 % p)) := by
  rw [l1]; exact m_mod (p_rng hp).1 (p_rng hp).2 (Or.inl ⟨by omega, by omega⟩)
/-- one turn -/
theorem tu6 {ev : EV} {m : Nat} {z : PS} {E : Cv} (A : AM ev m z E) {p : Int} (hp : p = 2 ∨ p = 3) {k N : Nat} (hk1 : 1 ≤ k) (hk : k < 1000) (hpk : pok p (k + 5)) (f : ∀ j, fit p (co E j)) (h : NK p k E) {x y w : Int} (q : QK p k E x y w) (n : Nat) :
    (¬ p ∣ y * y - 4 * x * w → ∃ c z', ((qr p x y w ∧ c = 4) ∨ (¬ qr p x y w ∧ c = 2)) ∧ Fs ev m z z' ∧ q_X8_turns_6 ev m (n + 1) (ph p) (nI N) (nI k) 0 z = q_X8_turns_6 ev m n (ph p) (nI N) (nI k) 1 (sI z' (rf ev 127 m) 6 (nI k) ((nI N - 4) - nI k) (5 + nI k) (nI c) (nI N))) ∧
    (p ∣ y * y - 4 * x * w → ∃ R z', 0 ≤ R ∧ R < p ∧ p ∣ x * R * R + y * R + w ∧ Fs ev m z z' ∧ AM ev m z' (sh E (mvR p k R) 0 (mvT p k R)) ∧ q_X8_turns_6 ev m (n + 1) (ph p) (nI N) (nI k) 0 z = q_X8_turns_6 ev m n (ph p) (nI N) (nI (k + 1)) 0 z') := by
  have h2 := h.2
  have h0 := h.1
  unfold QK at q
  by_cases ho : k % 2 = 1
  · rw [if_pos ho] at q h2
    obtain ⟨rfl, q3, q6⟩ := q
    have he : pok p ((k + 3) / 2) := pok_dn hpk (by omega)
    have hx : ¬ p ∣ (1 : Int) := by rcases hp with rfl | rfl <;> omega
    have hY : g_X8_modulo (ph (a3 E) / ph (p ^ ((k + 3) / 2))) (ph p) = some (ph (y % p)) := by
      rw [q3]; exact qm hp (pok_dn hpk (by omega)) (by rw [← q3]; exact f 2)
    have hZ : g_X8_modulo (-(ph (a6 E) / ph (p ^ (2 * ((k + 3) / 2))))) (ph p) = some (ph (w % p)) := by
      obtain ⟨j, hj⟩ : ∃ j, 2 * ((k + 3) / 2) = j + 1 := ⟨2 * ((k + 3) / 2) - 1, by omega⟩
      rw [q6, hj]
      have := qm_neg (a := -w) (j := j) hp (pok_dn hpk (by omega)) (by rw [← hj, ← q6]; exact f 4)
      rw [Int.neg_neg] at this
      exact this
    have T := t144 A hp (q_X8_turns_6 ev m n) (N := N) hk he (by omega) (Or.inl ⟨ho, rfl⟩) hx (one_mod hp) hY hZ
    have step : q_X8_turns_6 ev m (n + 1) (ph p) (nI N) (nI k) 0 z = q_X8_turns_144 ev m (q_X8_turns_6 ev m n) (ph p) (nI N) (nI k) (nI (k % 2)) (nI ((k + 3) / 2)) 1 (ph (a3 E) / ph (p ^ ((k + 3) / 2))) (-(ph (a6 E) / ph (p ^ (2 * ((k + 3) / 2))))) z := by
      rw [q_X8_turns_6, if_pos rfl, jr2 hk, ho, if_pos (show nI 1 = (1 : Int32) from rfl)]
      unfold q_X8_turns_24
      rw [if_neg (by decide), half3 hk]
      unfold q_X8_turns_46
      rw [if_neg (by decide)]
      unfold q_X8_turns_65
      rw [if_neg (by decide), g_power8 p (by omega), ob_e, ck_e (pw_n0 he), A.v2]
      unfold q_X8_turns_101
      rw [if_neg (by decide), show (2 : Int32) * nI ((k + 3) / 2) = nI (2 * ((k + 3) / 2)) from by rw [show (2 : Int32) = nI 2 from rfl, pk_mul], g_power8 p (by omega), ob_e, ck_e (pw_n0 (pok_dn hpk (by omega))), A.v4]
      rfl
    rw [step]; exact T
  · rw [if_neg ho] at q h2
    obtain ⟨q2, q4, q6⟩ := q
    have h00 : k % 2 = 0 := by omega
    have he : pok p ((k + 4) / 2) := pok_dn hpk (by omega)
    have hx : ¬ p ∣ x := fun ⟨u, hu⟩ => h0 ⟨u, by rw [q2, hu]; grind⟩
    have hX : g_X8_modulo (ph (a2 E) / ph p) (ph p) = some (ph (x % p)) := by
      have := qm (a := x) (j := 1) hp (pok_dn hpk (by omega)) (by rw [Int.pow_one, ← q2]; exact f 1)
      rw [Int.pow_one, ← q2] at this
      exact this
    have hY : g_X8_modulo (ph (a4 E) / ph (p ^ ((k + 4) / 2))) (ph p) = some (ph (y % p)) := by
      rw [q4]; exact qm hp (pok_dn hpk (by omega)) (by rw [← q4]; exact f 3)
    have hZ : g_X8_modulo (ph (a6 E) / ph (p ^ (2 * ((k + 4) / 2) - 1))) (ph p) = some (ph (w % p)) := by
      rw [q6]; exact qm hp (pok_dn hpk (by omega)) (by rw [← q6]; exact f 4)
    have T := t144 A hp (q_X8_turns_6 ev m n) (N := N) hk he (by omega) (Or.inr ⟨ho, rfl⟩) hx hX hY hZ
    have q0 : ¬ ph p = 0 := by rw [ph_pow1]; exact pw_n0 (pok1 hp (by omega))
    have hm1 : (2 : Int32) * nI ((k + 4) / 2) - (1 : Int32) = nI (2 * ((k + 4) / 2) - 1) := by
      rw [show (2 : Int32) = nI 2 from rfl, pk_mul]
      obtain ⟨j, hj⟩ : ∃ j, 2 * ((k + 4) / 2) = j + 1 := ⟨2 * ((k + 4) / 2) - 1, by omega⟩
      rw [hj]; exact nI_pred j
    have step : q_X8_turns_6 ev m (n + 1) (ph p) (nI N) (nI k) 0 z = q_X8_turns_144 ev m (q_X8_turns_6 ev m n) (ph p) (nI N) (nI k) (nI (k % 2)) (nI ((k + 4) / 2)) (ph (a2 E) / ph p) (ph (a4 E) / ph (p ^ ((k + 4) / 2))) (ph (a6 E) / ph (p ^ (2 * ((k + 4) / 2) - 1))) z := by
      rw [q_X8_turns_6, if_pos rfl, jr2 hk, h00, if_neg (by decide)]
      unfold q_X8_turns_24
      rw [if_pos rfl, half4 hk]
      unfold q_X8_turns_46
      rw [if_pos rfl, ck_e q0, A.v1]
      unfold q_X8_turns_65
      rw [if_pos rfl, g_power8 p (by omega), ob_e, ck_e (pw_n0 he), A.v3]
      unfold q_X8_turns_101
      rw [if_pos rfl, hm1, g_power8 p (by omega), ob_e, ck_e (pw_n0 (pok_dn hpk (by omega))), A.v4]
      rfl
    rw [step]; exact T
/-- bounds that the turns at 3 keep -/
def TB (p : Int) (E0 : Cv) (k : Nat) (r s t : Int) : Prop := p = 2 ∨ (Bnd E0 ∧ (0 ≤ s ∧ s ≤ 2) ∧ (0 ≤ r ∧ r ≤ 100 + 3 ^ ((k + 3) / 2)) ∧ (0 ≤ t ∧ t ≤ 1000 + (if k % 2 = 1 then 4 else 2) * 3 ^ ((k + 4) / 2)))
theorem pow3_le : ∀ n : Fin 13, (3 : Int) ^ n.val ≤ 531441 ∧ 1 ≤ (3 : Int) ^ n.val := by decide +kernel
theorem TB.fit {p : Int} {E0 : Cv} {k : Nat} {r s t : Int} (h : TB p E0 k r s t) (hk : p = 2 ∨ k ≤ 20) : ∀ j, fit p (co (sh E0 r s t) j) := by
  rcases h with h | ⟨hB, hs, hr, ht⟩
  · exact fun j => Or.inl h
  · rcases hk with h | hk
    · exact fun j => Or.inl h
    · intro j
      have b1 := (pow3_le ⟨(k + 3) / 2, by omega⟩).1
      have b2 := (pow3_le ⟨(k + 4) / 2, by omega⟩).1
      dsimp only at b1 b2
      refine Or.inr (bnd_in hB (by omega) (by omega) ?_)
      split at ht <;> omega
theorem TB.next {p : Int} (hp : p = 2 ∨ p = 3) {E0 : Cv} {k : Nat} {r s t R : Int} (h : TB p E0 k r s t) (hR : 0 ≤ R ∧ R < p) : ∃ r' t', sh (sh E0 r s t) (mvR p k R) 0 (mvT p k R) = sh E0 r' s t' ∧ TB p E0 (k + 1) r' s t' := by
  refine ⟨r + mvR p k R, t + mvT p k R + s * mvR p k R, by rw [sh_sh, Int.add_zero], ?_⟩
  rcases h with h | ⟨hB, hs, hr, ht⟩
  · exact Or.inl h
  · rcases hp with rfl | rfl
    · exact Or.inl rfl
    refine Or.inr ⟨hB, hs, ?_⟩
    unfold mvR mvT
    by_cases ho : k % 2 = 1
    · rw [if_pos ho] at ht
      rw [if_pos ho, if_pos ho, if_neg (show ¬ (k + 1) % 2 = 1 by omega)]
      have e1 : (k + 1 + 3) / 2 = (k + 3) / 2 := by omega
      have e2 : (k + 1 + 4) / 2 = (k + 3) / 2 + 1 := by omega
      have e3 : (k + 4) / 2 = (k + 3) / 2 := by omega
      rw [e3] at ht
      rw [e1, e2, Int.pow_succ]
      have hpos : 0 < (3 : Int) ^ ((k + 3) / 2) := Int.pow_pos (by omega)
      generalize (3 : Int) ^ ((k + 3) / 2) = P at *
      have m1 : 0 ≤ R * P ∧ R * P ≤ 2 * P := by
        rcases (show R = 0 ∨ R = 1 ∨ R = 2 by omega) with rfl | rfl | rfl <;> omega
      rw [Int.mul_zero]
      omega
    · rw [if_neg ho] at ht
      rw [if_neg ho, if_neg ho, if_pos (show (k + 1) % 2 = 1 by omega)]
      have e1 : (k + 1 + 3) / 2 = (k + 4) / 2 := by omega
      have e2 : (k + 1 + 4) / 2 = (k + 4) / 2 := by omega
      have e3 : (k + 3) / 2 = (k + 4) / 2 - 1 := by omega
      rw [e3] at hr
      rw [e1, e2]
      obtain ⟨j, hj⟩ : ∃ j, (k + 4) / 2 = j + 1 := ⟨(k + 4) / 2 - 1, by omega⟩
      rw [hj, Nat.add_sub_cancel] at hr
      rw [hj, Int.pow_succ] at ht
      rw [hj, Nat.add_sub_cancel, Int.pow_succ]
      have hpos : 0 < (3 : Int) ^ j := Int.pow_pos (by omega)
      generalize (3 : Int) ^ j = P at *
      have m1 : 0 ≤ R * P ∧ R * P ≤ 2 * P := by
        rcases (show R = 0 ∨ R = 1 ∨ R = 2 by omega) with rfl | rfl | rfl <;> omega
      have m2 : 0 ≤ s * (R * P) ∧ s * (R * P) ≤ 2 * (R * P) := by
        rcases (show s = 0 ∨ s = 1 ∨ s = 2 by omega) with rfl | rfl | rfl <;> omega
      omega
/-- all turns -/
theorem t_loop {ev : EV} {m : Nat} {E0 : Cv} {p : Int} (hp : p = 2 ∨ p = 3) {N : Nat} (hN : ¬ p ^ (N + 1) ∣ dd E0) (hN2 : (p = 2 ∧ N ≤ 62) ∨ (p = 3 ∧ N ≤ 26)) :
    ∀ (d k n : Nat) (r s t : Int) (z : PS), k + 6 + d = N + 1 → 1 ≤ k → AM ev m z (sh E0 r s t) → TB p E0 k r s t → NK p k (sh E0 r s t) →
    ∃ j c z', TO p j k (sh E0 r s t) c ∧ (c = 2 ∨ c = 4) ∧ k + j + 6 ≤ N ∧ Fs ev m z z' ∧ q_X8_turns_6 ev m (n + d + 2) (ph p) (nI N) (nI k) 0 z = some (sI z' (rf ev 127 m) 6 (nI (k + j)) ((nI N - 4) - nI (k + j)) (5 + nI (k + j)) (nI c) (nI N)) := by
  intro d
  induction d with
  | zero =>
    intro k n r s t z hk h1 A hB hK
    have := NK_D h1 hK
    rw [dd_sh] at this
    exact absurd (by rw [show N + 1 = k + 6 by omega]; exact this) hN
  | succ d ih =>
    intro k n r s t z hk h1 A hB hK
    obtain ⟨x, y, w, q⟩ := hK.qk
    have hk9 : k < 1000 := by omega
    have f := hB.fit (by omega)
    have hpk : pok p (k + 5) := by
      rcases hN2 with ⟨e, _⟩ | ⟨e, _⟩
      · exact Or.inl ⟨e, by omega⟩
      · exact Or.inr ⟨e, by omega⟩
    have T := tu6 (N := N) A hp h1 hk9 hpk f hK q (n + (d + 1) + 1)
    by_cases hd : p ∣ y * y - 4 * x * w
    · obtain ⟨R, z1, g1, g2, g3, g4, g5, g6⟩ := T.2 hd
      have nK := tn_move hp h1 hK q hd g3
      obtain ⟨r', t', e, hB'⟩ := hB.next hp ⟨g1, g2⟩
      rw [e] at g5 nK
      obtain ⟨j, c, z', o1, o2, o3, o4, o5⟩ := ih (k + 1) n r' s t' z1 (by omega) (by omega) g5 hB' nK
      refine ⟨j + 1, c, z', ⟨⟨x, y, w, q, hd⟩, sh E0 r' s t', ⟨_, _, _, e.symm⟩, nK, o1⟩, o2, by omega, g4.tr o4, ?_⟩
      rw [show n + (d + 1) + 2 = n + (d + 1) + 1 + 1 by omega, g6, show n + (d + 1) + 1 = n + d + 2 by omega, o5]
      rw [show k + 1 + j = k + (j + 1) by omega]
    · obtain ⟨c, z1, g1, g2, g3⟩ := T.1 hd
      have := NK_D h1 hK
      rw [dd_sh] at this
      have hkN : k + 6 ≤ N := by
        rcases Nat.lt_or_ge N (k + 6) with h | h
        · exact absurd (dv_pow this (by omega)) hN
        · exact h
      refine ⟨0, c, z1, ⟨x, y, w, q, hd, g1⟩, by rcases g1 with ⟨_, g⟩ | ⟨_, g⟩ <;> omega, by omega, g2, ?_⟩
      rw [show n + (d + 1) + 2 = n + (d + 1) + 1 + 1 by omega, g3, q_X8_turns_6, if_neg (by decide)]
      rfl
