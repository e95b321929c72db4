/-! the same for every prime -/
theorem Pr.ne {p : Int} (h : Pr p) : p ≠ 0 := by have := h.1; omega
theorem Pr.n3 {p : Int} (h : Pr p) (h5 : 5 ≤ p) : ¬ p ∣ 3 := fun hd => by have := Int.le_of_dvd (by omega) hd; omega
theorem Pr.c3 {p x : Int} (h : Pr p) (h5 : 5 ≤ p) (hx : p ∣ 3 * x) : p ∣ x := (h.2 _ _ hx).resolve_left (h.n3 h5)
theorem Pr.c2 {p x : Int} (h : Pr p) (h5 : 3 ≤ p) (hx : p ∣ 2 * x) : p ∣ x := (h.2 _ _ hx).resolve_left (h.n2 h5)
theorem pr_cases {P : Nat} (h : Pr P) : P = 2 ∨ P = 3 ∨ 5 ≤ P := by
  have := h.1
  by_cases h2 : P = 2
  · exact Or.inl h2
  · have := h.odd (by omega); omega
theorem mv_nkG {p : Int} (hp : Pr p) {E : Cv} {b c d t : Int} (f : FL p E) (hc : CB p E b c d) (h1 : ¬ p ∣ b * b - 3 * c) (h2 : p ∣ cub b c d t) (h3 : p ∣ 3 * t * t + 2 * b * t + c) : NK p 1 (sh E (p * t) 0 0) := by
  obtain ⟨⟨k2, k4, k6⟩, k1, k3⟩ := mv_cb hc t
  obtain ⟨f1, -, f3, -, -⟩ := f
  have hb : ¬ p ∣ b + 3 * t := by
    intro ⟨u, hu⟩
    obtain ⟨v, hv⟩ := h3
    apply h1
    exact ⟨u * b - 3 * t * u + 6 * t * u - 3 * v + (0 : Int), by
      have eb : b = p * u - 3 * t := by omega
      have ec : c = p * v - 3 * t * t - 2 * b * t := by omega
      rw [ec, eb]; grind⟩
  refine ⟨?_, ?_⟩
  · rintro ⟨w, hw⟩
    apply hb
    exact ⟨w, by apply Int.eq_of_mul_eq_mul_left (hp.ne); rw [← k2, hw]; grind⟩
  · rw [if_pos rfl]
    refine ⟨by rw [k1]; exact f1, ⟨_, k2⟩, ?_, ?_, ?_⟩
    · rw [k3]
      obtain ⟨x, hx⟩ := f1
      obtain ⟨y, hy⟩ := f3
      rw [hx, hy]
      exact ⟨y + t * x, by grind⟩
    · obtain ⟨v, hv⟩ := h3
      rw [k4, hv]
      exact ⟨v, by grind⟩
    · obtain ⟨v, hv⟩ := h2
      rw [k6, hv]
      exact ⟨v, by grind⟩
theorem tn_moveG {p : Int} (hp : Pr p) {k : Nat} (hk : 1 ≤ k) {E : Cv} {x y z R : Int} (h : NK p k E) (q : QK p k E x y z) (hD : p ∣ y * y - 4 * x * z) (hR : p ∣ x * R * R + y * R + z) : NK p (k + 1) (sh E (mvR p k R) 0 (mvT p k R)) := by
  have h2 := h.2
  have h0 := h.1
  unfold QK at q
  unfold NK mvR mvT
  have hl : p ∣ y + 2 * x * R := by
    apply hp.sq
    obtain ⟨u, hu⟩ := hD
    obtain ⟨v, hv⟩ := hR
    exact ⟨u + 4 * x * v, by grind⟩
  by_cases ho : k % 2 = 1
  · rw [if_pos ho] at q h2
    rw [if_pos ho, if_pos ho, if_neg (show ¬ (k + 1) % 2 = 1 by omega)]
    obtain ⟨rfl, q3, q6⟩ := q
    obtain ⟨⟨u1, h1⟩, h2, h3, ⟨u4, h4⟩, h6⟩ := h2
    obtain ⟨u, hu⟩ := hl
    obtain ⟨v, hv⟩ := hR
    have ee : (k + 1 + 4) / 2 = (k + 3) / 2 + 1 := by omega
    rw [ee]
    unfold NE
    have e9 : 2 * ((k + 3) / 2 + 1) - 1 = 2 * ((k + 3) / 2) + 1 := by omega
    rw [e9]
    generalize (k + 3) / 2 = e at *
    have e2 : p ^ (2 * e) = p ^ e * p ^ e := by rw [← Int.pow_add]; congr 1; omega
    have e3 : p ^ (2 * e + 1) = p ^ e * p ^ e * p := by rw [Int.pow_succ, e2]
    have e4 : p ^ (e + 1) = p ^ e * p := Int.pow_succ p e
    simp only [NE, sh, a1, a2, a3, a4, a6] at *
    rw [e2] at q6
    rw [e4] at h4
    rw [e3, e4]
    generalize p ^ e = P at *
    refine ⟨?_, ?_, ?_, ?_, ?_, ?_⟩
    · rw [show E.2.1 - 0 * E.1 + 3 * 0 - 0 * 0 = E.2.1 by grind]; exact h0
    · rw [h1]; exact ⟨u1, by grind⟩
    · rw [show E.2.1 - 0 * E.1 + 3 * 0 - 0 * 0 = E.2.1 by grind]; exact h2
    · rw [q3]; exact ⟨u, by grind⟩
    · rw [h1, h4]; exact ⟨u4 - R * u1, by grind⟩
    · rw [q3, q6]; exact ⟨-v, by grind⟩
  · rw [if_neg ho] at q h2
    rw [if_neg ho, if_neg ho, if_pos (show (k + 1) % 2 = 1 by omega)]
    obtain ⟨q2, q4, q6⟩ := q
    obtain ⟨⟨u1, h1⟩, h2, ⟨u3, h3⟩, h4, h6⟩ := h2
    obtain ⟨u, hu⟩ := hl
    obtain ⟨v, hv⟩ := hR
    have ee : (k + 1 + 3) / 2 = (k + 4) / 2 := by omega
    rw [ee]
    obtain ⟨e, he⟩ : ∃ e, (k + 4) / 2 = e + 3 := ⟨(k + 4) / 2 - 3, by omega⟩
    rw [he] at q4 q6 h3 h4 h6 ⊢
    have w1 : p ^ (e + 3) = p * p * p * p ^ e := by rw [Int.pow_succ, Int.pow_succ, Int.pow_succ]; grind
    have w2 : p ^ (e + 3 - 1) = p * p * p ^ e := by rw [show e + 3 - 1 = e + 1 + 1 by omega, Int.pow_succ, Int.pow_succ]; grind
    have w3 : p ^ (2 * (e + 3) - 1) = p * p * p * p * p * (p ^ e * p ^ e) := by rw [show 2 * (e + 3) - 1 = (e + e) + 1 + 1 + 1 + 1 + 1 by omega, Int.pow_succ, Int.pow_succ, Int.pow_succ, Int.pow_succ, Int.pow_succ, Int.pow_add]; grind
    have w4 : p ^ (e + 3 + 1) = p * p * p * p * p ^ e := by rw [Int.pow_succ, w1]; grind
    have w5 : p ^ (2 * (e + 3)) = p * p * p * p * p * p * (p ^ e * p ^ e) := by rw [show 2 * (e + 3) = 2 * (e + 3) - 1 + 1 by omega, Int.pow_succ, w3]; grind
    simp only [NO, sh, a1, a2, a3, a4, a6] at *
    rw [w1] at q4 h3
    rw [w3] at q6
    rw [w1, w2, w4, w5]
    clear w1 w2 w3 w4 w5 h4 h6 h he ee ho hD
    generalize p ^ e = K at *
    refine ⟨?_, ?_, ?_, ?_, ?_, ?_⟩
    · intro ⟨n, hn⟩
      apply h0
      exact ⟨n - 3 * R * K, by clear h0 q2 q4 q6 h1 h2 h3 hu hv hp; grind⟩
    · rw [h1]; exact ⟨u1, by grind⟩
    · rw [q2]; exact ⟨x + 3 * R * p * K, by grind⟩
    · rw [h1, h3]; exact ⟨u3 + R * u1, by grind⟩
    · rw [q2, q4, h1]; exact ⟨u + 3 * K * R * R, by grind⟩
    · rw [q2, q4, q6]; exact ⟨v + K * R * R * R, by grind⟩
theorem nt_moveG {p : Int} (hp : Pr p) {E : Cv} {y w R : Int} (h : NT p E) (q3 : a3 E = p ^ 2 * y) (q6 : a6 E = p ^ 4 * (-w)) (hD : p ∣ y * y - 4 * 1 * w) (hR : p ∣ 1 * R * R + y * R + w) : NT2 p (sh E 0 0 (R * p * p)) := by
  have hl : p ∣ y + 2 * R := by
    apply hp.sq
    obtain ⟨u, hu⟩ := hD
    obtain ⟨v, hv⟩ := hR
    exact ⟨u + 4 * v, by grind⟩
  obtain ⟨u, hu⟩ := hl
  obtain ⟨v, hv⟩ := hR
  obtain ⟨⟨x1, h1⟩, ⟨x2, h2⟩, -, ⟨x4, h4⟩, -⟩ := h
  clear hD
  simp only [NT2, sh, a1, a2, a3, a4, a6] at *
  rw [h1, h2, h4, q3, q6]
  clear h1 h2 h4 q3 q6
  refine ⟨⟨x1, by grind⟩, ⟨x2, by grind⟩, ⟨u, by grind⟩, ⟨x4 - R * x1, by grind⟩, ⟨-v, by grind⟩⟩
theorem tri_far {p : Int} (hp : Pr p) (h5 : 5 ≤ p) {b c d t : Int} (h : p ∣ cubD b c d) (h2 : p ∣ b * b - 3 * c) (h3 : p ∣ cub b c d t) : p ∣ b + 3 * t ∧ p ∣ 3 * t * t + 2 * b * t + c := by
  have hW : p ∣ 2 * b * b * b - 9 * b * c + 27 * d := by
    apply hp.sq
    obtain ⟨x, hx⟩ := h; obtain ⟨y, hy⟩ := h2
    unfold cubD at hx
    exact ⟨4 * (b * b - 3 * c) * (b * b - 3 * c) * y - 27 * x, by grind⟩
  have hu : p ∣ b + 3 * t := by
    apply hp.pow 3
    obtain ⟨x, hx⟩ := h3; obtain ⟨y, hy⟩ := h2; obtain ⟨w, hw⟩ := hW
    unfold cub at hx
    exact ⟨27 * x + 3 * y * (b + 3 * t) - w, by grind⟩
  refine ⟨hu, ?_⟩
  apply hp.c3 h5
  obtain ⟨x, hx⟩ := hu; obtain ⟨y, hy⟩ := h2
  exact ⟨(b + 3 * t) * x - y, by grind⟩
theorem tri_G {P : Nat} (hp : Pr P) {b c d t : Int} (h : (P : Int) ∣ cubD b c d) (h2 : (P : Int) ∣ b * b - 3 * c) (h3 : (P : Int) ∣ cub b c d t) : (P : Int) ∣ b + 3 * t ∧ (P : Int) ∣ 3 * t * t + 2 * b * t + c := by
  rcases pr_cases hp with rfl | rfl | h5
  · exact tri_all (Or.inl rfl) h h2 h3
  · exact tri_all (Or.inr rfl) h h2 h3
  · exact tri_far hp (by omega) h h2 h3
theorem mv_ntG {P : Nat} (hp : Pr P) {E : Cv} {b c d t : Int} (f : FL P E) (hc : CB P E b c d) (h0 : (P : Int) ∣ cubD b c d) (h1 : (P : Int) ∣ b * b - 3 * c) (h2 : (P : Int) ∣ cub b c d t) : NT P (sh E (P * t) 0 0) := by
  obtain ⟨⟨k2, k4, k6⟩, k1, k3⟩ := mv_cb hc t
  obtain ⟨⟨u, hu⟩, ⟨v, hv⟩⟩ := tri_G hp h0 h1 h2
  obtain ⟨w, hw⟩ := h2
  obtain ⟨⟨x, hx⟩, -, ⟨y, hy⟩, -, -⟩ := f
  refine ⟨by rw [k1]; exact ⟨x, hx⟩, ⟨u, by rw [k2, hu]; grind⟩, ⟨y + t * x, by rw [k3, hx, hy]; grind⟩, ⟨v, by rw [k4, hv]; grind⟩, ⟨w, by rw [k6, hw]; grind⟩⟩
theorem cub_pG {p b c d T : Int} : (p ∣ cub b c d (T % p) ↔ p ∣ cub b c d T) ∧ (p ∣ 3 * (T % p) * (T % p) + 2 * b * (T % p) + c ↔ p ∣ 3 * T * T + 2 * b * T + c) := by
  obtain ⟨q, hq⟩ := em_dv p T
  have e : T % p = T + p * q := by omega
  rw [e]
  refine ⟨cub_per, ?_⟩
  apply Iff.symm
  apply dv_iff
  exact ⟨6 * T * q + 3 * p * q * q + 2 * b * q, by grind⟩
theorem dbl_far {P : Nat} (hp : Pr P) (h5 : 5 ≤ P) {b c d : Int} (h : (P : Int) ∣ cubD b c d) : ∃ T : Int, (P : Int) ∣ cub b c d T ∧ (P : Int) ∣ 3 * T * T + 2 * b * T + c := by
  have hp5 : 5 ≤ (P : Int) := by omega
  have n3 := hp.n3 hp5
  obtain ⟨i3, hi3⟩ := inv_ex hp n3
  have hW : (P : Int) ∣ (2 * b * b * b - 9 * b * c + 27 * d) * (2 * b * b * b - 9 * b * c + 27 * d) - 4 * (b * b - 3 * c) * (b * b - 3 * c) * (b * b - 3 * c) := by
    obtain ⟨x, hx⟩ := h
    unfold cubD at hx
    exact ⟨-27 * x, by grind⟩
  have key : ∀ u : Int, (P : Int) ∣ u * u - (b * b - 3 * c) → (P : Int) ∣ 2 * (b * b - 3 * c) * u - (2 * b * b * b - 9 * b * c + 27 * d) → ∃ T : Int, (P : Int) ∣ cub b c d T ∧ (P : Int) ∣ 3 * T * T + 2 * b * T + c := by
    intro u h1 h2
    refine ⟨(u - b) * i3, ?_, ?_⟩
    · apply hp.c3 hp5; apply hp.c3 hp5; apply hp.c3 hp5
      obtain ⟨x, hx⟩ := h1; obtain ⟨y, hy⟩ := h2; obtain ⟨v, hv⟩ := hi3
      generalize hT : (u - b) * i3 = T
      have e : 3 * T = u - b + P * (v * (u - b)) := by rw [← hT]; grind
      generalize v * (u - b) = w at e
      unfold cub
      have e27 : 3 * (3 * (3 * (T * T * T + b * T * T + c * T + d))) = (3 * T + b) * (3 * T + b) * (3 * T + b) - 3 * (b * b - 3 * c) * (3 * T + b) + (2 * b * b * b - 9 * b * c + 27 * d) := by grind
      rw [e27, e]
      refine ⟨w * (3 * u * u + 3 * u * (P * w) + (P * w) * (P * w)) - 3 * (b * b - 3 * c) * w + u * x - y, ?_⟩
      have e1 : u * u = P * x + (b * b - 3 * c) := by omega
      have e2 : 2 * b * b * b - 9 * b * c + 27 * d = 2 * (b * b - 3 * c) * u - P * y := by omega
      rw [e2]
      generalize b * b - 3 * c = A at *
      have : u * u * u = (P * x + A) * u := by rw [e1]
      grind
    · apply hp.c3 hp5
      obtain ⟨x, hx⟩ := h1; obtain ⟨v, hv⟩ := hi3
      generalize hT : (u - b) * i3 = T
      have e : 3 * T = u - b + P * (v * (u - b)) := by rw [← hT]; grind
      generalize v * (u - b) = w at e
      have e9 : 3 * (3 * T * T + 2 * b * T + c) = (3 * T + b) * (3 * T + b) - (b * b - 3 * c) := by grind
      rw [e9, e]
      exact ⟨2 * u * w + P * w * w + x, by grind⟩
  by_cases hA : (P : Int) ∣ b * b - 3 * c
  · refine key 0 ?_ ?_
    · obtain ⟨x, hx⟩ := hA; exact ⟨-x, by grind⟩
    · have : (P : Int) ∣ 2 * b * b * b - 9 * b * c + 27 * d := by
        apply hp.sq
        obtain ⟨x, hx⟩ := hW; obtain ⟨y, hy⟩ := hA
        exact ⟨x + 4 * (b * b - 3 * c) * (b * b - 3 * c) * y, by grind⟩
      obtain ⟨x, hx⟩ := this; exact ⟨-x, by grind⟩
  · have n2A : ¬ (P : Int) ∣ 2 * (b * b - 3 * c) := fun h => hA (hp.c2 (by omega) h)
    obtain ⟨i, hi⟩ := inv_ex hp n2A
    generalize hAe : b * b - 3 * c = A at *
    generalize hWe : 2 * b * b * b - 9 * b * c + 27 * d = W at *
    refine key (W * i) ?_ ?_
    · have : (P : Int) ∣ (2 * A) * ((2 * A) * (W * i * (W * i) - A)) := by
        obtain ⟨x, hx⟩ := hi; obtain ⟨y, hy⟩ := hW
        refine ⟨W * W * (2 * x + P * x * x) + y, ?_⟩
        have e1 : 2 * A * i = P * x + 1 := by omega
        have e2 : W * W = P * y + 4 * A * A * A := by omega
        have e3 : 2 * A * (2 * A * (W * i * (W * i) - A)) = W * W * ((2 * A * i) * (2 * A * i)) - 4 * A * A * A := by grind
        rw [e3, e1]
        grind
      exact (hp.2 _ _ ((hp.2 _ _ this).resolve_left n2A)).resolve_left n2A
    · obtain ⟨x, hx⟩ := hi
      exact ⟨W * x, by grind⟩
theorem dbl_G {P : Nat} (hp : Pr P) {b c d : Int} (h : (P : Int) ∣ cubD b c d) : ∃ T : Nat, T < P ∧ (P : Int) ∣ cub b c d T ∧ (P : Int) ∣ 3 * T * T + 2 * b * T + c := by
  have hp1 := hp.1
  have fin : ∀ T : Int, (P : Int) ∣ cub b c d T → (P : Int) ∣ 3 * T * T + 2 * b * T + c → ∃ T : Nat, T < P ∧ (P : Int) ∣ cub b c d T ∧ (P : Int) ∣ 3 * T * T + 2 * b * T + c := by
    intro T h1 h2
    have k1 := Int.emod_nonneg T (show (P : Int) ≠ 0 by omega)
    have k2 := Int.emod_lt_of_pos T (show 0 < (P : Int) by omega)
    refine ⟨(T % P).toNat, by omega, ?_⟩
    rw [show (((T % P).toNat : Nat) : Int) = T % P by omega]
    exact ⟨cub_pG.1.mpr h1, (cub_pG (d := d)).2.mpr h2⟩
  rcases pr_cases hp with rfl | rfl | h5
  · obtain ⟨t, _, _, h3, h4⟩ := dbl_ex (p := 2) (Or.inl rfl) h; exact fin t h3 h4
  · obtain ⟨t, _, _, h3, h4⟩ := dbl_ex (p := 3) (Or.inr rfl) h; exact fin t h3 h4
  · obtain ⟨T, h3, h4⟩ := dbl_far hp h5 h; exact fin T h3 h4
theorem dsc_G {P : Nat} (hp : Pr P) {x y w : Int} (hx : ¬ (P : Int) ∣ x) (h : (P : Int) ∣ y * y - 4 * x * w) : qr P x y w := by
  rcases pr_cases hp with rfl | rfl | h5
  · exact dsc_root (Or.inl rfl) hx h
  · exact dsc_root (Or.inr rfl) hx h
  · have n2x : ¬ (P : Int) ∣ 2 * x := fun h => hx (hp.c2 (by omega) h)
    obtain ⟨i, hi⟩ := inv_ex hp n2x
    refine ⟨-y * i, ?_⟩
    have : (P : Int) ∣ 2 * (2 * x * (x * (-y * i) * (-y * i) + y * (-y * i) + w)) := by
      obtain ⟨a, ha⟩ := hi; obtain ⟨b, hb⟩ := h
      refine ⟨y * y * (P * a * a) - b, ?_⟩
      have e1 : 2 * x * i = P * a + 1 := by omega
      have e3 : 2 * (2 * x * (x * (-y * i) * (-y * i) + y * (-y * i) + w)) = y * y * ((2 * x * i) * (2 * x * i) - 2 * (2 * x * i)) + 4 * x * w := by grind
      rw [e3, e1]
      grind
    exact (hp.2 _ _ (hp.c2 (by omega) this)).resolve_left n2x
