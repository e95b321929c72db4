/-! the class's Primes.find -/
def CP (ev : EV) (th : Nat) (z : PS) (k : Nat) (f : Nat → Nat) : Prop := r32 z 61 th = nI k ∧ ∀ i, i < k → rI z (rf ev 60 th) i = nI (f i)
def FrP (ev : EV) (th : Nat) (z z' : PS) : Prop := z'.2.1 = z.2.1 ∧ z'.2.2.2 = z.2.2.2 ∧ (∀ i x, ¬ (i = 61 ∧ x = th) → z'.1 i x = z.1 i x) ∧ (∀ b j, b ≠ rf ev 60 th → z'.2.2.1 b j = z.2.2.1 b j)
theorem FrP.rf (ev : EV) (th : Nat) (z : PS) : FrP ev th z z := ⟨rfl, rfl, fun _ _ _ => rfl, fun _ _ _ => rfl⟩
theorem FrP.tr {ev : EV} {th : Nat} {x y z : PS} (h : FrP ev th x y) (h' : FrP ev th y z) : FrP ev th x z :=
  ⟨h'.1.trans h.1, h'.2.1.trans h.2.1, fun i w hw => (h'.2.2.1 i w hw).trans (h.2.2.1 i w hw), fun b j hb => (h'.2.2.2 b j hb).trans (h.2.2.2 b j hb)⟩
theorem ph_i32 {n : Nat} (h : n < 2147483648) : (ph n).toInt32 = nI n := by
  apply Int32.toInt_inj.mp
  rw [Int64.toInt_toInt32, ph_int ⟨by omega, by omega⟩, nI_toInt (by omega)]
  exact Int.bmod_eq_of_le (by omega) (by omega)
theorem c_add {ev : EV} {th : Nat} {z : PS} {k q : Nat} {f : Nat → Nat} (C : CP ev th z k f) (hk : k < 16) (hq : q < 2147483648) : ∃ z', g_X5_add ev z th (ph q) = some z' ∧ CP ev th z' (k + 1) (ud f k q) ∧ FrP ev th z z' := by
  obtain ⟨h1, h2⟩ := C
  unfold g_X5_add
  rw [h1, if_neg (by rw [show (16 : Int32) = nI 16 from rfl, i_le (by omega) (by omega)]; omega), bd_e, ck_e (inB_n hk (by omega)), ph_i32 hq, nI_clamp (by omega), bd_e, bd_e, bd_e]
  refine ⟨_, rfl, ⟨?_, fun i hi => ?_⟩, rfl, rfl, fun i x h => ?_, fun b j h => ?_⟩
  · show (if _ then _ else _) = _
    rw [if_pos ⟨rfl, rfl⟩]
    show r32 z 61 th + 1 = _
    rw [h1, nI_s]
  · show (if _ then _ else _) = _
    rcases (show i = k ∨ i < k by omega) with h | h
    · subst h; rw [if_pos ⟨rfl, rfl⟩, ud_k]
    · rw [if_neg (by omega), ud_lt f h]; exact h2 i h
  · show (if _ then _ else _) = _
    rw [if_neg h]; rfl
  · show (if _ then _ else _) = _
    rw [if_neg (fun hh => h hh.1)]
theorem dv_mod {a b : Nat} (hb : 0 < b) : ((a : Int) % (b : Int) = 0) ↔ b ∣ a := by
  rw [← nd_int]; exact ⟨Int.dvd_of_emod_eq_zero, Int.emod_eq_zero_of_dvd⟩
/-- without: q is taken out of what is left, if it goes -/
theorem c_without {ev : EV} {th : Nat} {z : PS} {D q left k : Nat} {f : Nat → Nat} (hD : 0 < D) (hb : D ≤ 9000000000000000000) (h2 : 2 ≤ q) (hq : q < 2147483648) (C : CP ev th z k f) (F : PF D q left k f) :
    ∃ z' l' k' f', g_X5_without ev z th (ph left) (nI q) = some (ph (l' : Nat), z') ∧ CP ev th z' k' f' ∧ PF D (q + 1) l' k' f' ∧ FrP ev th z z' ∧ l' ≤ left := by
  have hl0 := F.1
  have hlD : left ≤ D := Nat.le_of_dvd hD (Nat.dvd_trans (Nat.dvd_mul_left _ _) F.2.1)
  have hR : inR (left : Int) := ⟨by omega, by omega⟩
  have k1 := Int.emod_nonneg (left : Int) (show (q : Int) ≠ 0 by omega)
  have k2 := Int.emod_lt_of_pos (left : Int) (show 0 < (q : Int) by omega)
  unfold g_X5_without
  rw [nI_L hq, c_rest (by omega) ⟨by omega, by omega⟩ (Or.inl hR), ob_e]
  by_cases hd : q ∣ left
  · have hz : ph ((left : Int) % q) = 0 := by rw [(dv_mod (by omega)).mpr hd]; rfl
    rw [if_pos hz]
    obtain ⟨v, v1, v2, v3, v4⟩ := c_times (p := q) (x := left) (by omega) (by omega) (by omega) hR
    have hv1 : 1 ≤ v := (v_le v2 v3 1).mpr (by rw [Int.pow_one]; exact nd_int.mpr hd)
    have e0 : ((q ^ v : Nat) : Int) = (q : Int) ^ v := by push_cast; rfl
    obtain ⟨l', hl'⟩ : q ^ v ∣ left := by rw [← nd_int, e0]; exact v2
    have hnd : ¬ q ∣ l' := by
      intro ⟨w, hw⟩
      apply v3
      refine ⟨w, ?_⟩
      rw [Int.pow_succ, ← e0]
      rw [hl', hw]
      push_cast
      rw [Int.mul_assoc]
    have F' := F.take h2 hl' hv1 hnd
    have hk16 := F'.k16 hD hb
    obtain ⟨z1, a1, a2, a3⟩ := c_add C (by omega) hq
    have hpos : 0 < q ^ v := Nat.pow_pos (by omega)
    have hple : q ^ v ≤ left := Nat.le_of_dvd hl0 ⟨l', hl'⟩
    have hl'0 : 0 < l' := F'.1
    have hle : l' ≤ left := Nat.le_of_dvd hl0 ⟨q ^ v, by rw [hl', Nat.mul_comm]⟩
    refine ⟨z1, l', k + 1, ud f k q, ?_, a2, F', a3, hle⟩
    have e1 : (left : Int) = ((q ^ v : Nat) : Int) * (l' : Int) := by rw [hl']; push_cast; rfl
    rw [a1, ob_e, v4, ob_e, c_power _ (by omega), ob_e, ← e0, e1, c_quot_ex (by omega) ⟨by omega, by omega⟩ (by rw [← e1]; exact hR), ob_e]
  · have hz : ¬ ph ((left : Int) % q) = 0 := by
      rw [l0, ph_eq ⟨by omega, by omega⟩ z_R]
      exact fun h => hd ((dv_mod (by omega)).mp h)
    rw [if_neg hz]
    exact ⟨z, left, k, f, rfl, C, F.no hd, FrP.rf ev th z, Nat.le_refl _⟩
theorem npr_2 {n : Nat} (h : n % 2 = 0) (h2 : 2 < n) : ¬ Pr n := by
  intro hp
  rcases pr_div hp (show 2 ∣ n from ⟨n / 2, by omega⟩) with h | h <;> omega
theorem npr_3 {n : Nat} (h : n % 3 = 0) (h2 : 3 < n) : ¬ Pr n := by
  intro hp
  rcases pr_div hp (show 3 ∣ n from ⟨n / 3, by omega⟩) with h | h <;> omega
theorem PF.six {D q left k : Nat} {f : Nat → Nat} (h : PF D (q + 3) left k f) (hq : q % 6 = 5) : PF D (q + 6) left k f :=
  ((h.comp (by omega) (npr_2 (by omega) (by omega))).comp (by omega) (npr_3 (by omega) (by omega))).comp (by omega) (npr_2 (by omega) (by omega))
theorem PF.one' {D q left k : Nat} {f : Nat → Nat} (h : PF D (q + 1) left k f) (hq : q % 6 = 5) : PF D (q + 2) left k f := h.comp (by omega) (npr_2 (by omega) (by omega))
theorem fi_end {ev : EV} {th : Nat} {z : PS} {D q left k : Nat} {f : Nat → Nat} (hD : 0 < D) (hb : D ≤ 9000000000000000000) (hQ : QB (D : Int)) (h2 : 11 ≤ q ∨ left < q * q) (h5 : 5 ≤ q) (C : CP ev th z k f) (F : PF D q left k f) (h11 : left < q * q ∨ 31623 < q) :
    ∃ z' k' f', (if (ph left) ≤ (1 : Int64) then (some z) else (ob (g_X5_add ev z th (ph left)) (fun z8 => some z8))) = some z' ∧ CP ev th z' k' f' ∧ PL D k' f' ∧ FrP ev th z z' := by
  have hl0 := F.1
  have hlD : left ≤ D := Nat.le_of_dvd hD (Nat.dvd_trans (Nat.dvd_mul_left _ _) F.2.1)
  by_cases h1 : left ≤ 1
  · rw [if_pos (by rw [l1, ph_le ⟨by omega, by omega⟩ ⟨by omega, by omega⟩]; omega)]
    exact ⟨z, k, f, rfl, C, F.fin hD hb hQ (by omega), FrP.rf ev th z⟩
  · rw [if_neg (by rw [l1, ph_le ⟨by omega, by omega⟩ ⟨by omega, by omega⟩]; omega)]
    have hp := F.end hQ h11 (by omega)
    have F' := F.last (by omega) hp
    have P' := F'.fin hD hb hQ rfl
    have hlt : left < 1000000000 := by
      have := P'.2.2.2.2 k (by omega)
      rwa [ud_k] at this
    obtain ⟨z1, a1, a2, a3⟩ := c_add (q := left) C (by have := P'.2.2.2.1; omega) (by omega)
    exact ⟨z1, k + 1, ud f k left, by rw [a1, ob_e], a2, P', a3⟩
theorem fi_loop {ev : EV} {th D : Nat} (hD : 0 < D) (hb : D ≤ 9000000000000000000) (hQ : QB (D : Int)) : ∀ (d n q left k : Nat) (f : Nat → Nat) (z : PS), q % 6 = 5 → 1000006 ≤ q + 6 * d → q < 1000006 → CP ev th z k f → PF D q left k f →
    ∃ z' k' f', q_X5_find_23 ev th (n + d + 1) (ph left) (nI q) z = some z' ∧ CP ev th z' k' f' ∧ PL D k' f' ∧ FrP ev th z z' := by
  intro d
  induction d with
  | zero => intro n q left k f z _ h1 h2; omega
  | succ d ih =>
    intro n q left k f z h6 hd hlt C F
    have hl0 := F.1
    have hlD : left ≤ D := Nat.le_of_dvd hD (Nat.dvd_trans (Nat.dvd_mul_left _ _) F.2.1)
    have hR : inR (left : Int) := ⟨by omega, by omega⟩
    rw [q_X5_find_23]
    by_cases hm : 1000000 ≤ q
    · rw [if_pos (by rw [show (1000000 : Int32) = nI 1000000 from rfl, i_le (by omega) (by omega)]; exact hm)]
      exact fi_end hD hb hQ (Or.inl (by omega)) (by omega) C F (Or.inr (by omega))
    · rw [if_neg (by rw [show (1000000 : Int32) = nI 1000000 from rfl, i_le (by omega) (by omega)]; exact hm), nI_L (by omega), ph_mul]
      have hqq : q * q ≤ 1000000 * 1000000 := Nat.mul_le_mul (by omega) (by omega)
      have eqq : ((q : Int) * (q : Int)) = ((q * q : Nat) : Int) := by push_cast; rfl
      by_cases hs : left < q * q
      · rw [if_pos (by rw [eqq, ph_lt hR ⟨by omega, by omega⟩]; omega)]
        exact fi_end hD hb hQ (Or.inr hs) (by omega) C F (Or.inl hs)
      · rw [if_neg (by rw [eqq, ph_lt hR ⟨by omega, by omega⟩]; omega)]
        have n0 : ∀ w : Nat, 2 ≤ w → w < 2147483648 → ¬ ph (w : Int) = 0 := fun w h1 h2 => by rw [l0, ph_eq ⟨by omega, by omega⟩ z_R]; omega
        have jd : ∀ w : Nat, 2 ≤ w → w < 2147483648 → (jr64 (ph left) (ph w) = (0 : Int64) ↔ w ∣ left) := fun w h1 h2 => by rw [jr_0 (Or.inl hR) ⟨by omega, by omega⟩ (by omega), nd_int]
        rw [ck_e (n0 q (by omega) (by omega)), show nI q + (2 : Int32) = nI (q + 2) from i_add q 2, show nI q + (6 : Int32) = nI (q + 6) from i_add q 6, nI_L (show q + 2 < 2147483648 by omega)]
        have two : ∃ z' k' f', (ob (g_X5_without ev z th (ph left) (nI q)) (fun qv15 => bd qv15.1 (fun v15 => bd qv15.2 (fun z14 => ob (g_X5_without ev z14 th v15 (nI (q + 2))) (fun qv17 => bd qv17.1 (fun v17 => bd qv17.2 (fun z16 => bd (nI (q + 6)) (fun v18 => q_X5_find_23 ev th (n + (d + 1)) v17 v18 z16)))))))) = some z' ∧ CP ev th z' k' f' ∧ PL D k' f' ∧ FrP ev th z z' := by
          obtain ⟨z1, m1, k1, f1, a1, a2, a3, a4, a5⟩ := c_without hD hb (by omega) (by omega) C F
          obtain ⟨z2, m2, k2, f2, b1, b2, b3, b4, b5⟩ := c_without hD hb (show 2 ≤ q + 2 by omega) (by omega) a2 (a3.one' h6)
          obtain ⟨z3, k3, f3, d1, d2, d3, d4⟩ := ih n (q + 6) m2 k2 f2 z2 (by omega) (by omega) (by omega) b2 (b3.six h6)
          refine ⟨z3, k3, f3, ?_, d2, d3, (a4.tr b4).tr d4⟩
          rw [a1, ob_e, bd_e, bd_e, b1, ob_e, bd_e, bd_e, bd_e]
          exact d1
        by_cases c1 : q ∣ left
        · rw [if_pos ((jd q (by omega) (by omega)).mpr c1)]
          exact two
        · rw [if_neg (fun h => c1 ((jd q (by omega) (by omega)).mp h)), ck_e (n0 (q + 2) (by omega) (by omega))]
          by_cases c2 : (q + 2) ∣ left
          · rw [if_pos ((jd (q + 2) (by omega) (by omega)).mpr c2)]
            exact two
          · rw [if_neg (fun h => c2 ((jd (q + 2) (by omega) (by omega)).mp h)), bd_e]
            exact ih n (q + 6) left k f z (by omega) (by omega) (by omega) C (((F.no c1).one' h6).no c2 |>.six h6)
theorem c_find {ev : EV} {th : Nat} {z : PS} {D : Int} (h0 : D ≠ 0) (hb : b9 D) (hQ : QB D) : ∃ z' k f, g_X5_find ev z th (ph D) = some z' ∧ CP ev th z' k f ∧ PL D.natAbs k f ∧ FrP ev th z z' := by
  have hb1 := hb.1
  have hb2 := hb.2
  have eN : (if 0 < ph D then ph D else -ph D) = ph (D.natAbs : Int) := by
    rw [l0, ph_neg]
    by_cases h : 0 < D
    · rw [if_pos (by rw [ph_lt z_R ⟨by omega, by omega⟩]; exact h)]; congr 1; omega
    · rw [if_neg (by rw [ph_lt z_R ⟨by omega, by omega⟩]; exact h)]; congr 1; omega
  have hQ' : QB (D.natAbs : Int) := hQ.dv (Int.natAbs_dvd.mpr (Int.dvd_refl D))
  generalize hN : D.natAbs = N at *
  have hN0 : 0 < N := by omega
  have hN9 : N ≤ 9000000000000000000 := by omega
  unfold g_X5_find
  rw [bd_e, eN]
  have F0 : FrP ev th z (w32 z 61 th (0 : Int32)) := ⟨rfl, rfl, fun i x h => by show (if _ then _ else _) = _; rw [if_neg h], fun _ _ _ => rfl⟩
  have C0 : CP ev th (w32 z 61 th (0 : Int32)) 0 (fun _ => 0) := ⟨by show (if _ then _ else _) = _; rw [if_pos ⟨rfl, rfl⟩]; rfl, fun i h => by omega⟩
  obtain ⟨z1, m1, k1, f1, a1, a2, a3, a4, -⟩ := c_without (q := 2) hN0 hN9 (by omega) (by omega) C0 (PF.start hN0 _)
  obtain ⟨z2, m2, k2, f2, b1, b2, b3, b4, -⟩ := c_without (q := 3) hN0 hN9 (by omega) (by omega) a2 a3
  have b3' : PF N 5 m2 k2 f2 := b3.comp (by omega) (npr_2 (by omega) (by omega))
  obtain ⟨n, hn⟩ := FU_ge (d := 200000) (by omega)
  obtain ⟨z3, k3, f3, d1, d2, d3, d4⟩ := fi_loop hN0 hN9 hQ' 200000 n 5 m2 k2 f2 z2 (by omega) (by omega) (by omega) b2 b3'
  refine ⟨z3, k3, f3, ?_, d2, d3, ((F0.tr a4).tr b4).tr d4⟩
  rw [show (2 : Int32) = nI 2 from rfl, a1, ob_e, bd_e, bd_e, show (3 : Int32) = nI 3 from rfl, b1, ob_e, bd_e, bd_e, hn]
  exact d1
