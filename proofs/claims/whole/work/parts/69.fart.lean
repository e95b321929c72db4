theorem TO_end {p : Int} : ∀ (j k : Nat) (E : Cv) (c : Nat), NK p k E → TO p j k E c → ∃ E', Eqv E E' ∧ NK p (k + j) E' ∧ ∃ x y z : Int, QK p (k + j) E' x y z ∧ ¬ p ∣ y * y - 4 * x * z ∧ ((qr p x y z ∧ c = 4) ∨ (¬ qr p x y z ∧ c = 2)) := by
  intro j
  induction j with
  | zero =>
    intro k E c n h
    obtain ⟨x, y, z, q, nd, o⟩ := h
    exact ⟨E, Eqv.rf E, n, x, y, z, q, nd, o⟩
  | succ j ih =>
    intro k E c n h
    obtain ⟨-, F, hF, nF, tF⟩ := h
    obtain ⟨E', h1, h2, h3⟩ := ih (k + 1) F c nF tF
    refine ⟨E', hF.tr h1, ?_, ?_⟩
    · rw [show k + (j + 1) = k + 1 + j by omega]; exact h2
    · rw [show k + (j + 1) = k + 1 + j by omega]; exact h3
/-- the table for p above 3 -/
def FarT (P : Nat) (L : Cv) (N k i c : Nat) : Prop :=
  (k = 2 ∧ i = 0 ∧ c = 1 ∧ N = 2) ∨ (k = 3 ∧ i = 0 ∧ c = 2 ∧ N = 3) ∨
  (k = 4 ∧ i = 0 ∧ N = 4 ∧ ∃ s X : Int, ¬ (P : Int) ∣ s ∧ c6 L = (P : Int) ^ 2 * (-216 * s + P * X) ∧ ((sqr P s ∧ c = 3) ∨ (¬ sqr P s ∧ c = 1))) ∨
  (k = 5 ∧ i = 0 ∧ N = 6 ∧ ∃ b cc d X Y : Int, c4 L = (P : Int) ^ 2 * (16 * (b * b - 3 * cc) + P * X) ∧ c6 L = (P : Int) ^ 3 * (-32 * (2 * b * b * b - 9 * b * cc + 27 * d) + P * Y) ∧ c = 1 + cnt P b cc d P) ∨
  (k = 6 ∧ N = i + 6 ∧ 1 ≤ i ∧ ∃ g s X Y Z : Int, ¬ (P : Int) ∣ g ∧ ¬ (P : Int) ∣ s ∧ c4 L = (P : Int) ^ 2 * (16 * g * g + P * X) ∧ c6 L = (P : Int) ^ 3 * (-64 * g * g * g + P * Y) ∧ 4 * dd L = (P : Int) ^ N * ((if N % 2 = 1 then -64 * g * g * g else 64 * g * g) * s + P * Z) ∧ ((sqr P s ∧ c = 4) ∨ (¬ sqr P s ∧ c = 2))) ∨
  (k = 7 ∧ i = 0 ∧ N = 8 ∧ (P : Int) ^ 3 ∣ c4 L ∧ ∃ s X : Int, ¬ (P : Int) ∣ s ∧ c6 L = (P : Int) ^ 4 * (-216 * s + P * X) ∧ ((sqr P s ∧ c = 3) ∨ (¬ sqr P s ∧ c = 1))) ∨
  (k = 8 ∧ i = 0 ∧ c = 2 ∧ N = 9 ∧ (P : Int) ^ 3 ∣ c4 L) ∨ (k = 9 ∧ i = 0 ∧ c = 1 ∧ N = 10 ∧ (P : Int) ^ 3 ∣ c4 L)
theorem qr_or {P : Nat} (hp : Pr P) (h3 : 3 ≤ P) {x y w S : Int} (hx : ¬ (P : Int) ∣ x) (hS : y * y - 4 * x * w = S) {c a b : Nat} (h : (qr P x y w ∧ c = a) ∨ (¬ qr P x y w ∧ c = b)) : (sqr P S ∧ c = a) ∨ (¬ sqr P S ∧ c = b) := by
  rw [qr_sqr hp h3 hx, hS] at h
  exact h
theorem far_all {P : Nat} (hp : Pr P) (h5 : 5 ≤ P) {L E1 : Cv} {N k i c : Nat} (hE : Eqv L E1) (n : N1 P E1) (h2 : (P : Int) ∣ b2 E1) (h : OutG P E1 k i c) (hN : (P : Int) ^ N ∣ dd L) (hN1 : ¬ (P : Int) ^ (N + 1) ∣ dd L) : FarT P L N k i c := by
  have h5' : 5 ≤ (P : Int) := by omega
  have n1 : ¬ (P : Int) ∣ 1 := fun hd => by have := Int.le_of_dvd (by omega) hd; omega
  rcases h with ⟨o1, o2, o3, o4⟩ | ⟨o1, o2, o3, o4, o5⟩ | ⟨o1, o2, o3, o4, o5, α, δ, o6, o7, o8⟩ | ⟨o1, o2, o3, E2, o4, o5, o6⟩
  · have f := far2 hp h5' n h2 o1
    rw [hE.dd] at f
    exact Or.inl ⟨o2, o3, o4, v_one hN hN1 f.1 f.2⟩
  · have f := far3 hp h5' n h2 o1 o2
    rw [hE.dd] at f
    exact Or.inr (Or.inl ⟨o3, o4, o5, v_one hN hN1 f.1 f.2⟩)
  · obtain ⟨f, g, X, hX⟩ := far4 hp h5' h2 o6 o7 o2 o3
    rw [hE.dd] at f
    rw [hE.c6] at hX
    exact Or.inr (Or.inr (Or.inl ⟨o4, o5, v_one hN hN1 f.1 f.2, _, X, g, hX, qr_or hp (by omega) n1 (by grind) o8⟩))
  · have hE2 := hE.tr o4
    obtain ⟨b, cc, d, e2, e4, e6, o⟩ := o6
    rcases o with ⟨q1, q2, q3, q4⟩ | ⟨q1, q2, q3, E3, q4, q5, j, q6, q7⟩ | ⟨q1, q2, q3, E3, q4, q5, y, w, q6, q7, q8⟩
    · obtain ⟨f, X, Y, hX, hY⟩ := far5 hp h5' o5 ⟨e2, e4, e6⟩ q1
      rw [hE2.dd] at f
      rw [hE2.c4] at hX
      rw [hE2.c6] at hY
      exact Or.inr (Or.inr (Or.inr (Or.inl ⟨q2, q3, v_one hN hN1 f.1 f.2, b, cc, d, X, Y, hX, hY, q4⟩)))
    · obtain ⟨F, hF, nF, x, y, w, q, nd, oo⟩ := TO_end j 1 E3 c q5 q7
      have hEF := hE2.tr (q4.tr hF)
      obtain ⟨f, g, X, Y, Z, g1, g2, g3, g4⟩ := far6 hp h5' (by omega) nF q nd
      rw [hEF.dd] at f g4
      rw [hEF.c4] at g2
      rw [hEF.c6] at g3
      have hNk := v_one hN hN1 f.1 f.2
      have hx : ¬ (P : Int) ∣ x := by
        by_cases ho : (1 + j) % 2 = 1
        · unfold QK at q; rw [if_pos ho] at q; rw [q.1]; exact n1
        · intro ⟨v, hv⟩
          have q := q
          unfold QK at q
          rw [if_neg ho] at q
          exact nF.1 ⟨v, by rw [q.1, hv]; grind⟩
      refine Or.inr (Or.inr (Or.inr (Or.inr (Or.inl ⟨q3, by omega, by omega, g, _, X, Y, Z, g1, nd, g2, g3, ?_, qr_or hp (by omega) hx rfl oo⟩))))
      rw [hNk]
      rw [g4]
      have : ((1 + j) % 2 = 1) = ((1 + j + 6) % 2 = 1) := by apply propext; omega
      simp only [this]
    · have hE3 := hE2.tr q4
      rcases q8 with ⟨r1, r2, r3⟩ | ⟨r1, E4, r2, r3, r4⟩
      · obtain ⟨f, f4, X, hX⟩ := far7 hp h5' q5 q6 q7 r1
        rw [hE3.dd] at f
        rw [hE3.c4] at f4
        rw [hE3.c6] at hX
        exact Or.inr (Or.inr (Or.inr (Or.inr (Or.inr (Or.inl ⟨r2, q3, v_one hN hN1 f.1 f.2, f4, _, X, r1, hX, qr_or hp (by omega) n1 rfl r3⟩)))))
      · have hE4 := hE3.tr r2
        rcases r4 with ⟨s1, s2, s3⟩ | ⟨s1, s2, s3, s4⟩
        · obtain ⟨f, f4⟩ := far8 hp h5' r3 s1
          rw [hE4.dd] at f
          rw [hE4.c4] at f4
          exact Or.inr (Or.inr (Or.inr (Or.inr (Or.inr (Or.inr (Or.inl ⟨s2, q3, s3, v_one hN hN1 f.1 f.2, f4⟩))))))
        · obtain ⟨f, f4⟩ := far9 hp h5' r3 s1 s2
          rw [hE4.dd] at f
          rw [hE4.c4] at f4
          exact Or.inr (Or.inr (Or.inr (Or.inr (Or.inr (Or.inr (Or.inr ⟨s3, q3, s4, v_one hN hN1 f.1 f.2, f4⟩))))))
