/-! the model's primes -/
def MP (ev : EV) (m : Nat) (z : PS) (k : Nat) (f : Nat → Nat) : Prop := r32 z 126 m = nI k ∧ ∀ i, i < k → rJ z (rf ev 125 m) i = ph (f i)
def FrQ (ev : EV) (m : Nat) (z z' : PS) : Prop := z'.2.1 = z.2.1 ∧ z'.2.2.1 = z.2.2.1 ∧ (∀ i x, ¬ (i = 126 ∧ x = m) → z'.1 i x = z.1 i x) ∧ (∀ b j, b ≠ rf ev 125 m → z'.2.2.2 b j = z.2.2.2 b j)
theorem FrQ.rf (ev : EV) (m : Nat) (z : PS) : FrQ ev m z z := ⟨rfl, rfl, fun _ _ _ => rfl, fun _ _ _ => rfl⟩
theorem FrQ.tr {ev : EV} {m : Nat} {x y z : PS} (h : FrQ ev m x y) (h' : FrQ ev m y z) : FrQ ev m x z :=
  ⟨h'.1.trans h.1, h'.2.1.trans h.2.1, fun i w hw => (h'.2.2.1 i w hw).trans (h.2.2.1 i w hw), fun b j hb => (h'.2.2.2 b j hb).trans (h.2.2.2 b j hb)⟩
theorem FrQ.fm {ev : EV} {m : Nat} {z z' : PS} (h : FrQ ev m z z') : FM ev m z z' :=
  ⟨fun i x hx => h.2.2.1 i x (fun hh => hx ⟨Or.inr (Or.inl hh.1), hh.2⟩), fun i x _ => by rw [h.1], fun b j _ => by rw [h.2.1], fun b j hb => h.2.2.2 b j hb.2.2.1⟩
theorem FrQ.ah {ev : EV} {m : Nat} {z z' : PS} {a : Nat} {E : Cv} (h : FrQ ev m z z') (hn : ev.2.2.2.1 a m ≠ ev.2.2.2.1 125 m) (A : AH ev m z a E) : AH ev m z' a E := fun k hk => (h.2.2.2 _ k hn).trans (A k hk)
theorem m_addp {ev : EV} {m : Nat} {z : PS} {k : Nat} {f : Nat → Nat} (C : MP ev m z k f) (q : Nat) : MP ev m (w32 (wJ z (rf ev 125 m) k (ph q)) 126 m (nI (k + 1))) (k + 1) (ud f k q) ∧ FrQ ev m z (w32 (wJ z (rf ev 125 m) k (ph q)) 126 m (nI (k + 1))) := by
  refine ⟨⟨?_, fun i hi => ?_⟩, rfl, rfl, fun i x h => ?_, fun b j h => ?_⟩
  · show (if _ then _ else _) = _
    rw [if_pos ⟨rfl, rfl⟩]
  · show (if _ then _ else _) = _
    rcases (show i = k ∨ i < k by omega) with h | h
    · subst h; rw [if_pos ⟨rfl, rfl⟩, ud_k]
    · rw [if_neg (by omega), ud_lt f h]; exact C.2 i h
  · show (if _ then _ else _) = _
    rw [if_neg h]; rfl
  · show (if _ then _ else _) = _
    rw [if_neg (fun hh => h hh.1)]
theorem lp60 {ev : EV} {m : Nat} (k15 : Int64 → Int64 → PS → Option PS) {q : Nat} (h2 : 2 ≤ q) (hq : q < 2147483648) (z : PS) : ∀ (d n left : Nat), 0 < left → left < 2 ^ d → left ≤ 9000000000000000000 → ∃ v l', left = q ^ v * l' ∧ ¬ q ∣ l' ∧ (q ∣ left → 1 ≤ v) ∧ q_X8_laysPrimes_60 ev m k15 (n + d + 1) (ph left) (ph q) z = k15 (ph (l' : Nat)) (ph ((q + 1 : Nat) : Int)) z := by
  intro d
  induction d with
  | zero => intro n left h0 h; omega
  | succ d ih =>
    intro n left h0 h h9
    have hR : inR (left : Int) := ⟨by omega, by omega⟩
    have n0 : ¬ ph (q : Int) = 0 := by rw [l0, ph_eq ⟨by omega, by omega⟩ z_R]; omega
    have jd : jr64 (ph left) (ph q) = (0 : Int64) ↔ q ∣ left := by rw [jr_0 (Or.inl hR) ⟨by omega, by omega⟩ (by omega), nd_int]
    rw [q_X8_laysPrimes_60, ck_e n0]
    by_cases hd : q ∣ left
    · rw [if_pos (jd.mpr hd), ck_e n0, bd_e]
      obtain ⟨w, hw⟩ := hd
      have hw0 : 0 < w := by rcases Nat.eq_zero_or_pos w with h1 | h1
                             · subst h1; omega
                             · exact h1
      have hle : 2 * w ≤ q * w := Nat.mul_le_mul_right w h2
      have e : ph (left : Int) / ph (q : Int) = ph (w : Int) := by
        have e1 : (left : Int) = (q : Int) * (w : Int) := by rw [hw]; push_cast; rfl
        rw [e1, ph_div (by rw [← e1]; exact hR) ⟨by omega, by omega⟩ (by omega), td_ex (by omega)]
      rw [Nat.pow_succ] at h
      obtain ⟨v, l', g1, g2, g3, g4⟩ := ih n w hw0 (by omega) (by omega)
      refine ⟨v + 1, l', by rw [hw, g1, Nat.pow_succ]; generalize q ^ v = A; grind, g2, fun _ => by omega, ?_⟩
      rw [e]; exact g4
    · rw [if_neg (fun h => hd (jd.mp h)), bd_e]
      refine ⟨0, left, by rw [Nat.pow_zero, Nat.one_mul], hd, fun h => absurd h hd, ?_⟩
      rw [l1, ph_add]; rfl
theorem lp86 {ev : EV} {m : Nat} {z : PS} {D q left k : Nat} {f : Nat → Nat} (hD : 0 < D) (hb : D ≤ 9000000000000000000) (hQ : QB (D : Int)) (h2 : 2 ≤ q) (C : MP ev m z k f) (F : PF D q left k f) (h11 : left ≤ 1 ∨ 31623 < q) :
    ∃ z' k' f', q_X8_laysPrimes_86 ev m (ph left) z = some z' ∧ MP ev m z' k' f' ∧ PL D k' f' ∧ FrQ ev m z z' := by
  have hl0 := F.1
  have hlD : left ≤ D := Nat.le_of_dvd hD (Nat.dvd_trans (Nat.dvd_mul_left _ _) F.2.1)
  unfold q_X8_laysPrimes_86
  by_cases h1 : left ≤ 1
  · rw [if_pos (by rw [l1, ph_le ⟨by omega, by omega⟩ ⟨by omega, by omega⟩]; omega)]
    exact ⟨z, k, f, rfl, C, F.fin hD hb hQ (by omega), FrQ.rf ev m z⟩
  · rw [if_neg (by rw [l1, ph_le ⟨by omega, by omega⟩ ⟨by omega, by omega⟩]; omega)]
    have hp := F.end hQ (Or.inr (h11.resolve_left h1)) (by omega)
    have P' := (F.last h2 hp).fin hD hb hQ rfl
    have hk : k < 20 := by have := P'.2.2.2.1; omega
    obtain ⟨a1, a2⟩ := m_addp C left
    rw [C.1, ck_e (inB_n hk (by omega)), nI_clamp (by omega), bd_e, bd_e, bd_e]
    refine ⟨_, k + 1, ud f k left, rfl, ?_, P', ?_⟩
    · rw [show r32 (wJ z (rf ev 125 m) k (ph left)) 126 m = nI k from C.1, nI_s]; exact a1
    · rw [show r32 (wJ z (rf ev 125 m) k (ph left)) 126 m = nI k from C.1, nI_s]; exact a2
theorem lp_loop {ev : EV} {m D : Nat} (hD : 0 < D) (hb : D ≤ 9000000000000000000) (hQ : QB (D : Int)) : ∀ (d n q left k : Nat) (f : Nat → Nat) (z : PS), 2 ≤ q → 31624 = q + d → MP ev m z k f → PF D q left k f →
    ∃ z' k' f', q_X8_laysPrimes_15 ev m (n + d + 1) (ph left) (ph q) z = some z' ∧ MP ev m z' k' f' ∧ PL D k' f' ∧ FrQ ev m z z' := by
  intro d
  induction d with
  | zero =>
    intro n q left k f z h2 h C F
    rw [q_X8_laysPrimes_15, if_pos (by rw [show (31623 : Int64) = ph 31623 from rfl, ph_lt ⟨by omega, by omega⟩ ⟨by omega, by omega⟩]; omega)]
    exact lp86 hD hb hQ h2 C F (Or.inr (by omega))
  | succ d ih =>
    intro n q left k f z h2 h C F
    have hl0 := F.1
    have hlD : left ≤ D := Nat.le_of_dvd hD (Nat.dvd_trans (Nat.dvd_mul_left _ _) F.2.1)
    have hR : inR (left : Int) := ⟨by omega, by omega⟩
    rw [q_X8_laysPrimes_15, if_neg (by rw [show (31623 : Int64) = ph 31623 from rfl, ph_lt ⟨by omega, by omega⟩ ⟨by omega, by omega⟩]; omega)]
    by_cases h1 : left ≤ 1
    · rw [if_pos (by rw [l1, ph_le ⟨by omega, by omega⟩ ⟨by omega, by omega⟩]; omega)]
      exact lp86 hD hb hQ h2 C F (Or.inl h1)
    · have n0 : ¬ ph (q : Int) = 0 := by rw [l0, ph_eq ⟨by omega, by omega⟩ z_R]; omega
      have jd : jr64 (ph left) (ph q) = (0 : Int64) ↔ q ∣ left := by rw [jr_0 (Or.inl hR) ⟨by omega, by omega⟩ (by omega), nd_int]
      rw [if_neg (by rw [l1, ph_le ⟨by omega, by omega⟩ ⟨by omega, by omega⟩]; omega), ck_e n0]
      by_cases hd : q ∣ left
      · rw [if_pos (jd.mpr hd)]
        obtain ⟨fn, hfn⟩ := FU_ge (d := 64) (by omega)
        obtain ⟨a1, a2⟩ := m_addp C q
        obtain ⟨v, l', g1, g2, g3, g4⟩ := lp60 (ev := ev) (m := m) (q_X8_laysPrimes_15 ev m (n + (d + 1))) h2 (show q < 2147483648 by omega) (w32 (wJ z (rf ev 125 m) k (ph q)) 126 m (nI (k + 1))) 64 fn left hl0 (by omega) (by omega)
        have F' := F.take h2 g1 (g3 hd) g2
        have hk : k < 20 := by have := F'.k16 hD hb; omega
        obtain ⟨z', k', f', b1, b2, b3, b4⟩ := ih n (q + 1) l' (k + 1) (ud f k q) _ (by omega) (by omega) a1 F'
        refine ⟨z', k', f', ?_, b2, b3, a2.tr b4⟩
        rw [C.1, ck_e (inB_n hk (by omega)), nI_clamp (by omega), bd_e, bd_e, bd_e, show r32 (wJ z (rf ev 125 m) k (ph q)) 126 m = nI k from C.1, nI_s, hfn, g4]
        exact b1
      · rw [if_neg (fun h => hd (jd.mp h)), bd_e, l1, ph_add]
        exact ih n (q + 1) left k f z (by omega) (by omega) C (F.no hd)
theorem m_size {D : Int} (hb : b9 D) : g_X8_size (ph D) = some (ph (D.natAbs : Int)) := by
  have hb1 := hb.1
  have hb2 := hb.2
  unfold g_X8_size
  rw [l0]
  by_cases h : 0 ≤ D
  · rw [if_pos (by rw [ph_le z_R ⟨by omega, by omega⟩]; exact h)]; congr 2; omega
  · rw [if_neg (by rw [ph_le z_R ⟨by omega, by omega⟩]; exact h), ph_neg]; congr 2; omega
theorem n_laysP {ev : EV} {m : Nat} {z : PS} {D : Int} (h0 : D ≠ 0) (hb : b9 D) (hQ : QB D) : ∃ z' k f, g_X8_laysPrimes ev z m (ph D) = some z' ∧ MP ev m z' k f ∧ PL D.natAbs k f ∧ FrQ ev m z z' := by
  have hb1 := hb.1
  have hb2 := hb.2
  have hQ' : QB (D.natAbs : Int) := hQ.dv (Int.natAbs_dvd.mpr (Int.dvd_refl D))
  unfold g_X8_laysPrimes
  rw [m_size hb, ob_e, bd_e]
  generalize hN : D.natAbs = N at *
  have hN0 : 0 < N := by omega
  have hN9 : N ≤ 9000000000000000000 := by omega
  have F0 : FrQ ev m z (w32 z 126 m (0 : Int32)) := ⟨rfl, rfl, fun i x h => by show (if _ then _ else _) = _; rw [if_neg h], fun _ _ _ => rfl⟩
  have C0 : MP ev m (w32 z 126 m (0 : Int32)) 0 (fun _ => 0) := ⟨by show (if _ then _ else _) = _; rw [if_pos ⟨rfl, rfl⟩]; rfl, fun i h => by omega⟩
  obtain ⟨n, hn⟩ := FU_ge (d := 31622) (by omega)
  obtain ⟨z', k', f', b1, b2, b3, b4⟩ := lp_loop hN0 hN9 hQ' 31622 n 2 N 0 (fun _ => 0) _ (by omega) (by omega) C0 (PF.start hN0 _)
  refine ⟨z', k', f', ?_, b2, b3, F0.tr b4⟩
  rw [hn, show (2 : Int64) = ph ((2 : Nat) : Int) from rfl]
  exact b1
