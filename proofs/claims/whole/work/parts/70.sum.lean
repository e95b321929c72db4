/-! sums, and counting along a bijection -/
def cs (f : Nat → Nat) : Nat → Nat
  | 0 => 0
  | n + 1 => cs f n + f n
theorem cs_s (f : Nat → Nat) (n : Nat) : cs f (n + 1) = cs f n + f n := rfl
theorem cs_cg {f g : Nat → Nat} : ∀ n, (∀ i, i < n → f i = g i) → cs f n = cs g n := by
  intro n
  induction n with
  | zero => intro _; rfl
  | succ n ih => intro h; rw [cs_s, cs_s, ih (fun i hi => h i (by omega)), h n (by omega)]
theorem cs_0 : ∀ n, cs (fun _ => 0) n = 0 := by
  intro n
  induction n with
  | zero => rfl
  | succ n ih => rw [cs_s, ih]
theorem cs_add (f g : Nat → Nat) : ∀ n, cs (fun i => f i + g i) n = cs f n + cs g n := by
  intro n
  induction n with
  | zero => rfl
  | succ n ih => rw [cs_s, cs_s, cs_s, ih]; omega
theorem cs_swap (g : Nat → Nat → Nat) (m : Nat) : ∀ n, cs (fun i => cs (fun j => g i j) m) n = cs (fun j => cs (fun i => g i j) n) m := by
  intro n
  induction n with
  | zero => exact (cs_0 m).symm
  | succ n ih => rw [cs_s, ih, ← cs_add]; exact cs_cg m (fun i _ => rfl)
theorem cs_sing {f : Nat → Nat} {t : Nat} : ∀ n, t < n → (∀ i, i < n → i ≠ t → f i = 0) → cs f n = f t := by
  intro n
  induction n with
  | zero => intro h; omega
  | succ n ih =>
    intro ht h
    rw [cs_s]
    by_cases hn : t = n
    · subst hn
      rw [show cs f t = cs (fun _ => 0) t from cs_cg t (fun i hi => h i (by omega) (by omega)), cs_0]; omega
    · rw [ih (by omega) (fun i hi hne => h i (by omega) hne), h n (by omega) (fun e => hn e.symm)]; rfl
theorem cs_bij {P : Nat} {f : Nat → Nat} (hf : ∀ T, T < P → f T < P) (g : Nat → Nat) (hg : ∀ s, s < P → g s < P ∧ f (g s) = s ∧ ∀ T, T < P → f T = s → T = g s) (w : Nat → Nat) : cs (fun T => w (f T)) P = cs w P := by
  have e1 : cs (fun T => w (f T)) P = cs (fun T => cs (fun s => if s = f T then w s else 0) P) P := by
    apply cs_cg
    intro T hT
    rw [cs_sing (t := f T) P (hf T hT) (fun i _ hne => if_neg hne), if_pos rfl]
  rw [e1, cs_swap]
  apply cs_cg
  intro s hs
  obtain ⟨h1, h2, h3⟩ := hg s hs
  rw [cs_sing (f := fun T => if s = f T then w s else 0) (t := g s) P h1 (fun i hi hne => if_neg (fun e => hne (h3 i hi e.symm))), if_pos h2.symm]
/-- counting a condition that goes by the rest alone, along a T + b -/
theorem cs_aff {P : Nat} (hp : Pr P) {α β : Int} (hα : ¬ (P : Int) ∣ α) {Q : Int → Prop} [DecidablePred Q] (hQ : ∀ x y : Int, (P : Int) ∣ x - y → (Q x ↔ Q y)) : cs (fun T => if Q (α * T + β) then 1 else 0) P = cs (fun T => if Q T then 1 else 0) P := by
  have hp1 := hp.1
  obtain ⟨i, hi⟩ := inv_ex hp hα
  have nn : ∀ x : Int, (((x % P).toNat : Nat) : Int) = x % P := fun x => by have := Int.emod_nonneg x (show (P : Int) ≠ 0 by omega); omega
  have lt : ∀ x : Int, (x % P).toNat < P := fun x => by have := Int.emod_lt_of_pos x (show 0 < (P : Int) by omega); have := Int.emod_nonneg x (show (P : Int) ≠ 0 by omega); omega
  have md : ∀ x : Int, (P : Int) ∣ x - x % P := fun x => by obtain ⟨q, hq⟩ := em_dv (P : Int) x; exact ⟨-q, by grind⟩
  have e : cs (fun T => if Q (α * T + β) then 1 else 0) P = cs (fun T => (fun s : Nat => if Q s then 1 else 0) (((α * (T : Int) + β) % P).toNat)) P := by
    apply cs_cg
    intro T hT
    have := hQ (α * T + β) ((((α * (T : Int) + β) % P).toNat : Nat) : Int) (by rw [nn]; exact md _)
    dsimp only
    by_cases h : Q (α * T + β)
    · rw [if_pos h, if_pos (this.mp h)]
    · rw [if_neg h, if_neg (fun h' => h (this.mpr h'))]
  rw [e]
  have uniq : ∀ a b : Nat, a < P → b < P → (P : Int) ∣ (a : Int) - b → a = b := by
    intro a b ha hb ⟨q, hq⟩
    rcases (show q < 0 ∨ q = 0 ∨ 0 < q by omega) with h | h | h
    · have := Int.mul_le_mul_of_nonneg_left (show q ≤ -1 by omega) (show 0 ≤ (P : Int) by omega); omega
    · subst h; omega
    · have := Int.mul_le_mul_of_nonneg_left (show 1 ≤ q by omega) (show 0 ≤ (P : Int) by omega); omega
  refine cs_bij (f := fun T => ((α * (T : Int) + β) % P).toNat) (fun T _ => lt _) (fun s => ((((s : Int) - β) * i) % P).toNat) ?_ (fun s : Nat => if Q s then 1 else 0)
  intro s hs
  have key : ∀ T : Nat, T < P → (((α * (T : Int) + β) % P).toNat = s ↔ T = ((((s : Int) - β) * i) % P).toNat) := by
    intro T hT
    obtain ⟨a, ha⟩ := hi
    constructor
    · intro h
      apply uniq T _ hT (lt _)
      rw [nn]
      obtain ⟨q1, h1⟩ := md (((s : Int) - β) * i)
      obtain ⟨q2, h2⟩ := md (α * (T : Int) + β)
      have h3 := nn (α * (T : Int) + β)
      rw [h] at h3
      rw [← h3] at h2
      refine ⟨q1 + i * q2 - T * a, ?_⟩
      have e1 : α * i = P * a + 1 := by omega
      have e2 : (s : Int) - β = α * T - P * q2 := by omega
      have e3 : ((s : Int) - β) * i % P = (s - β) * i - P * q1 := by omega
      rw [e3, e2]
      have : α * (T : Int) * i = T * (P * a + 1) := by rw [← e1]; grind
      grind
    · intro h
      apply uniq _ s (lt _) hs
      rw [nn]
      obtain ⟨q1, h1⟩ := md (((s : Int) - β) * i)
      obtain ⟨q2, h2⟩ := md (α * (T : Int) + β)
      have h3 := nn (((s : Int) - β) * i)
      rw [← h] at h3
      rw [← h3] at h1
      refine ⟨(s - β) * a - α * q1 - q2, ?_⟩
      have e1 : α * i = P * a + 1 := by omega
      have e2 : (T : Int) = (s - β) * i - P * q1 := by omega
      have e3 : (α * (T : Int) + β) % P = α * T + β - P * q2 := by omega
      rw [e3, e2]
      have : α * ((s - β) * i) = (s - β) * (P * a + 1) := by rw [← e1]; grind
      grind
  exact ⟨lt _, (key _ (lt _)).mpr rfl, fun T hT h => (key T hT).mp h⟩
