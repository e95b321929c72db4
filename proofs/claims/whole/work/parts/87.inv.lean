/-! what the class holds, what the reference holds -/
abbrev Ho (ev : EV) (th i : Nat) : Nat := rh ev (rf ev 100 th) i
def eqa (ev : EV) (th k : Nat) : Nat := if k < 16 then rf ev 40 (Ho ev th k) else if k < 32 then rf ev 41 (Ho ev th (k - 16)) else if k = 32 then rf ev 102 th else rf ev 27 (rf ev 103 th)
def iaa (ev : EV) (th m k : Nat) : Nat := if k < 16 then rf ev 60 (rf ev 43 (Ho ev th k)) else if k = 16 then rf ev 80 (rf ev 104 th) else if k = 17 then rf ev 81 (rf ev 104 th) else if k = 18 then rf ev 106 th else if k = 19 then rf ev 127 m else rf ev 133 m
/-- all apart -/
def Sep (ev : EV) (th m : Nat) : Prop := (∀ i j, i < 34 → j < 34 → i ≠ j → eqa ev th i ≠ eqa ev th j) ∧ (∀ i j, i < 21 → j < 21 → i ≠ j → iaa ev th m i ≠ iaa ev th m j) ∧ (∀ i j, i < 16 → j < 16 → i ≠ j → Ho ev th i ≠ Ho ev th j ∧ rf ev 43 (Ho ev th i) ≠ rf ev 43 (Ho ev th j)) ∧ DM ev m
theorem eqa_0 (ev : EV) (th : Nat) {i : Nat} (hi : i < 16) : eqa ev th i = rf ev 40 (Ho ev th i) := by unfold eqa; rw [if_pos hi]
theorem eqa_1 (ev : EV) (th : Nat) {i : Nat} (hi : i < 16) : eqa ev th (i + 16) = rf ev 41 (Ho ev th i) := by unfold eqa; rw [if_neg (by omega), if_pos (by omega), Nat.add_sub_cancel]
theorem eqa_2 (ev : EV) (th : Nat) : eqa ev th 32 = rf ev 102 th := by unfold eqa; rw [if_neg (by omega), if_neg (by omega), if_pos rfl]
theorem eqa_3 (ev : EV) (th : Nat) : eqa ev th 33 = rf ev 27 (rf ev 103 th) := by unfold eqa; rw [if_neg (by omega), if_neg (by omega), if_neg (by omega)]
theorem iaa_0 (ev : EV) (th m : Nat) {i : Nat} (hi : i < 16) : iaa ev th m i = rf ev 60 (rf ev 43 (Ho ev th i)) := by unfold iaa; rw [if_pos hi]
section SEP
variable {ev : EV} {th m : Nat}
theorem Sep.o2 (S : Sep ev th m) {i : Nat} (hi : i < 16) : rf ev 40 (Ho ev th i) ≠ rf ev 102 th := by have := S.1 i 32 (by omega) (by omega) (by omega); rwa [eqa_0 ev th hi, eqa_2] at this
theorem Sep.o3 (S : Sep ev th m) {i : Nat} (hi : i < 16) : rf ev 40 (Ho ev th i) ≠ rf ev 27 (rf ev 103 th) := by have := S.1 i 33 (by omega) (by omega) (by omega); rwa [eqa_0 ev th hi, eqa_3] at this
theorem Sep.l2 (S : Sep ev th m) {i : Nat} (hi : i < 16) : rf ev 41 (Ho ev th i) ≠ rf ev 102 th := by have := S.1 (i + 16) 32 (by omega) (by omega) (by omega); rwa [eqa_1 ev th hi, eqa_2] at this
theorem Sep.l3 (S : Sep ev th m) {i : Nat} (hi : i < 16) : rf ev 41 (Ho ev th i) ≠ rf ev 27 (rf ev 103 th) := by have := S.1 (i + 16) 33 (by omega) (by omega) (by omega); rwa [eqa_1 ev th hi, eqa_3] at this
theorem Sep.d3 (S : Sep ev th m) : rf ev 102 th ≠ rf ev 27 (rf ev 103 th) := by have := S.1 32 33 (by omega) (by omega) (by omega); rwa [eqa_2, eqa_3] at this
theorem Sep.oo (S : Sep ev th m) {i j : Nat} (hi : i < 16) (hj : j < 16) (hn : i ≠ j) : rf ev 40 (Ho ev th i) ≠ rf ev 40 (Ho ev th j) := by have := S.1 i j (by omega) (by omega) hn; rwa [eqa_0 ev th hi, eqa_0 ev th hj] at this
theorem Sep.ll (S : Sep ev th m) {i j : Nat} (hi : i < 16) (hj : j < 16) (hn : i ≠ j) : rf ev 41 (Ho ev th i) ≠ rf ev 41 (Ho ev th j) := by have := S.1 (i + 16) (j + 16) (by omega) (by omega) (by omega); rwa [eqa_1 ev th hi, eqa_1 ev th hj] at this
theorem Sep.ol (S : Sep ev th m) {i j : Nat} (hi : i < 16) (hj : j < 16) : rf ev 40 (Ho ev th i) ≠ rf ev 41 (Ho ev th j) := by have := S.1 i (j + 16) (by omega) (by omega) (by omega); rwa [eqa_0 ev th hi, eqa_1 ev th hj] at this
theorem Sep.pp (S : Sep ev th m) {i j : Nat} (hi : i < 16) (hj : j < 16) (hn : i ≠ j) : rf ev 60 (rf ev 43 (Ho ev th i)) ≠ rf ev 60 (rf ev 43 (Ho ev th j)) := by have := S.2.1 i j (by omega) (by omega) hn; rwa [iaa_0 ev th m hi, iaa_0 ev th m hj] at this
theorem Sep.pa (S : Sep ev th m) {i : Nat} (hi : i < 16) : rf ev 60 (rf ev 43 (Ho ev th i)) ≠ rf ev 80 (rf ev 104 th) ∧ rf ev 60 (rf ev 43 (Ho ev th i)) ≠ rf ev 81 (rf ev 104 th) ∧ rf ev 60 (rf ev 43 (Ho ev th i)) ≠ rf ev 106 th ∧ rf ev 60 (rf ev 43 (Ho ev th i)) ≠ rf ev 127 m ∧ rf ev 60 (rf ev 43 (Ho ev th i)) ≠ rf ev 133 m := by
  have h := fun j hj hn => S.2.1 i j (by omega) hj hn
  rw [iaa_0 ev th m hi] at h
  exact ⟨h 16 (by omega) (by omega), h 17 (by omega) (by omega), h 18 (by omega) (by omega), h 19 (by omega) (by omega), h 20 (by omega) (by omega)⟩
theorem Sep.aa (S : Sep ev th m) : rf ev 80 (rf ev 104 th) ≠ rf ev 81 (rf ev 104 th) ∧ (rf ev 80 (rf ev 104 th) ≠ rf ev 106 th ∧ rf ev 80 (rf ev 104 th) ≠ rf ev 127 m ∧ rf ev 80 (rf ev 104 th) ≠ rf ev 133 m) ∧ (rf ev 81 (rf ev 104 th) ≠ rf ev 106 th ∧ rf ev 81 (rf ev 104 th) ≠ rf ev 127 m ∧ rf ev 81 (rf ev 104 th) ≠ rf ev 133 m) ∧ rf ev 106 th ≠ rf ev 133 m :=
  ⟨S.2.1 16 17 (by omega) (by omega) (by omega), ⟨S.2.1 16 18 (by omega) (by omega) (by omega), S.2.1 16 19 (by omega) (by omega) (by omega), S.2.1 16 20 (by omega) (by omega) (by omega)⟩, ⟨S.2.1 17 18 (by omega) (by omega) (by omega), S.2.1 17 19 (by omega) (by omega) (by omega), S.2.1 17 20 (by omega) (by omega) (by omega)⟩, S.2.1 18 20 (by omega) (by omega) (by omega)⟩
end SEP
/-! small points, as a list -/
def spD (E : Cv) (x : Int) : Int := (a1 E * x + a3 E) * (a1 E * x + a3 E) + 4 * (((x + a2 E) * x + a4 E) * x + a6 E)
noncomputable def spW (d : Int) : Int := Classical.epsilon (fun w : Int => 0 ≤ w ∧ w * w = d)
noncomputable def spAt (E : Cv) (x : Int) : List (Int × Int) := @ite _ (∃ w : Int, 0 ≤ w ∧ w * w = spD E x) (Classical.propDecidable _) (if spW (spD E x) = 0 then [(x, (-(a1 E * x + a3 E) - spW (spD E x)) / 2)] else [(x, (-(a1 E * x + a3 E) - spW (spD E x)) / 2), (x, (-(a1 E * x + a3 E) + spW (spD E x)) / 2)]) []
noncomputable def spL (E : Cv) : Nat → List (Int × Int)
  | 0 => []
  | k + 1 => spL E k ++ spAt E ((k : Int) - 60)
def hI (n : Int) : Int32 := Int32.ofInt n
def SPt (ev : EV) (sp : Nat) (z : PS) (l : List (Int × Int)) : Prop := r32 z 82 sp = nI l.length ∧ ∀ (i : Nat) (x y : Int), l[i]? = some (x, y) → rI z (rf ev 80 sp) i = hI x ∧ rI z (rf ev 81 sp) i = hI y
/-! the class's state -/
def HE (ev : EV) (h : Nat) (z : PS) (E L : Cv) (u : Int) : Prop := EQ z (rf ev 40 h) E ∧ EQ z (rf ev 41 h) L ∧ r64 z 42 h = ph u ∧ HG E L u ∧ (r32 z 44 h = 0 ∨ (¬ r32 z 44 h = 0 ∧ ∃ k f, CP ev (rf ev 43 h) z k f ∧ PL (dd E).natAbs k f))
def CI (ev : EV) (th : Nat) (z : PS) (n : Nat) (C L : Nat → Cv) (U : Nat → Int) : Prop := r32 z 101 th = nI n ∧ n ≤ 16 ∧ (∀ i, i < n → HE ev (Ho ev th i) z (C i) (L i) (U i)) ∧ (r32 z 105 th = -1 ∨ ∃ c, c < n ∧ r32 z 105 th = nI c ∧ SPt ev (rf ev 104 th) z (spL (C c) 121))
/-- what leaves the class's state alone -/
def NEU (ev : EV) (th m : Nat) (z z' : PS) : Prop := (∀ i x, i < 120 → ¬ (20 ≤ i ∧ i < 29) → z'.1 i x = z.1 i x) ∧ (∀ i x, i < 120 → ¬ (i < 12 ∧ (x = rf ev 102 th ∨ x = rf ev 27 (rf ev 103 th))) → z'.2.1 i x = z.2.1 i x) ∧ (∀ b j, b ≠ rf ev 106 th → b ≠ rf ev 127 m → z'.2.2.1 b j = z.2.2.1 b j)
theorem NEU.rf (ev : EV) (th m : Nat) (z : PS) : NEU ev th m z z := ⟨fun _ _ _ _ => rfl, fun _ _ _ _ => rfl, fun _ _ _ _ => rfl⟩
theorem NEU.tr {ev : EV} {th m : Nat} {x y z : PS} (h : NEU ev th m x y) (h' : NEU ev th m y z) : NEU ev th m x z :=
  ⟨fun i w a b => (h'.1 i w a b).trans (h.1 i w a b), fun i w a b => (h'.2.1 i w a b).trans (h.2.1 i w a b), fun b j c d => (h'.2.2 b j c d).trans (h.2.2 b j c d)⟩
theorem FM.neu {ev : EV} {th m : Nat} {z z' : PS} (h : FM ev m z z') : NEU ev th m z z' :=
  ⟨fun i x a _ => h.1 i x (fun hh => by omega), fun i x a _ => h.2.1 i x (fun hh => by omega), fun b j _ d => h.2.2.1 b j d⟩
theorem FrC.neu {ev : EV} {th m : Nat} {z z' : PS} (h : FrC ev (ev.2.2.2.1 103 th) z z') : NEU ev th m z z' :=
  ⟨fun i x _ b => h.2.1 i x (fun hh => b ⟨hh.1, hh.2.1⟩), fun i x _ b => h.2.2 i x (fun hh => b ⟨hh.1, Or.inr hh.2⟩), fun b j _ _ => by rw [h.1]⟩
theorem sE_neu (ev : EV) (th m : Nat) (z : PS) (E : Cv) : NEU ev th m z (sE z (rf ev 102 th) E) :=
  ⟨fun _ _ _ _ => rfl, fun i x _ b => by show (if _ then _ else _) = _; rw [if_neg (fun hh => b ⟨hh.2, Or.inl hh.1⟩)], fun _ _ _ _ => rfl⟩
theorem EQ.cg {z z' : PS} {x : Nat} {E : Cv} (h : EQ z x E) (e : ∀ k, k < 12 → z'.2.1 k x = z.2.1 k x) : EQ z' x E := fun k hk => (e k hk).trans (h k hk)
theorem SPt.neu {ev : EV} {th m : Nat} {z z' : PS} (S : Sep ev th m) (N : NEU ev th m z z') {l : List (Int × Int)} (h : SPt ev (rf ev 104 th) z l) : SPt ev (rf ev 104 th) z' l := by
  obtain ⟨-, ⟨a1, a2, -⟩, ⟨b1, b2, -⟩, -⟩ := S.aa
  exact ⟨(N.1 82 _ (by omega) (by omega)).trans h.1, fun i x y hi => ⟨(N.2.2 _ i a1 a2).trans (h.2 i x y hi).1, (N.2.2 _ i b1 b2).trans (h.2 i x y hi).2⟩⟩
theorem HE.neu {ev : EV} {th m : Nat} {z z' : PS} (S : Sep ev th m) (N : NEU ev th m z z') {i : Nat} (hi : i < 16) {E L : Cv} {u : Int} (h : HE ev (Ho ev th i) z E L u) : HE ev (Ho ev th i) z' E L u := by
  obtain ⟨h1, h2, h3, h4, h5⟩ := h
  obtain ⟨-, -, p1, p2, -⟩ := S.pa hi
  have e44 := N.1 44 (Ho ev th i) (by omega) (by omega)
  refine ⟨h1.cg (fun k hk => N.2.1 k _ (by omega) (fun hh => hh.2.elim (S.o2 hi) (S.o3 hi))), h2.cg (fun k hk => N.2.1 k _ (by omega) (fun hh => hh.2.elim (S.l2 hi) (S.l3 hi))), (N.2.1 42 _ (by omega) (by omega)).trans h3, h4, ?_⟩
  rcases h5 with h5 | ⟨h5, k, f, c, p⟩
  · exact Or.inl (e44.trans h5)
  · exact Or.inr ⟨by show ¬ z'.1 44 _ = 0; rw [e44]; exact h5, k, f, ⟨(N.1 61 _ (by omega) (by omega)).trans c.1, fun j hj => (N.2.2 _ j p1 p2).trans (c.2 j hj)⟩, p⟩
theorem CI.neu {ev : EV} {th m : Nat} {z z' : PS} (S : Sep ev th m) (N : NEU ev th m z z') {n : Nat} {C L : Nat → Cv} {U : Nat → Int} (h : CI ev th z n C L U) : CI ev th z' n C L U := by
  obtain ⟨h1, h2, h3, h4⟩ := h
  refine ⟨(N.1 101 _ (by omega) (by omega)).trans h1, h2, fun i hi => (h3 i hi).neu S N (by omega), ?_⟩
  have e := N.1 105 th (by omega) (by omega)
  rcases h4 with h4 | ⟨c, c1, c2, c3⟩
  · exact Or.inl (e.trans h4)
  · exact Or.inr ⟨c, c1, e.trans c2, c3.neu S N⟩
/-! the reference's state -/
def MI (ev : EV) (m : Nat) (z : PS) (n : Nat) (C : Nat → Cv) : Prop := TD ev m z n C ∧ ∀ j, j < 14 → rI z (rf ev 133 m) j = tw1 j
def MU (ev : EV) (m : Nat) (z z' : PS) : Prop := (∀ i x, 120 ≤ i → z'.1 i x = z.1 i x) ∧ (∀ j, z'.2.2.1 (rf ev 133 m) j = z.2.2.1 (rf ev 133 m) j) ∧ z'.2.2.2 = z.2.2.2
theorem MU.rf (ev : EV) (m : Nat) (z : PS) : MU ev m z z := ⟨fun _ _ _ => rfl, fun _ => rfl, rfl⟩
theorem MU.tr {ev : EV} {m : Nat} {x y z : PS} (h : MU ev m x y) (h' : MU ev m y z) : MU ev m x z :=
  ⟨fun i w a => (h'.1 i w a).trans (h.1 i w a), fun j => (h'.2.1 j).trans (h.2.1 j), h'.2.2.trans h.2.2⟩
theorem MI.mu {ev : EV} {m : Nat} {z z' : PS} {n : Nat} {C : Nat → Cv} (h : MI ev m z n C) (u : MU ev m z z') : MI ev m z' n C := by
  obtain ⟨⟨h1, h2, h3⟩, h4⟩ := h
  refine ⟨⟨h1, (u.1 121 m (by omega)).trans h2, fun i hi k hk => ?_⟩, fun j hj => (u.2.1 j).trans (h4 j hj)⟩
  show z'.2.2.2 _ _ = _
  rw [u.2.2]; exact h3 i hi k hk
theorem MI.fm {ev : EV} {m : Nat} {z z' : PS} {n : Nat} {C : Nat → Cv} (hD : DM ev m) (h : MI ev m z n C) (f : FM ev m z z') : MI ev m z' n C :=
  ⟨h.1.fm hD f, fun j hj => (f.2.2.1 _ j (fun e => hD.2 e.symm)).trans (h.2 j hj)⟩
theorem FrC.mu {ev : EV} {m fl : Nat} {z z' : PS} (h : FrC ev fl z z') : MU ev m z z' :=
  ⟨fun i x a => h.2.1 i x (fun hh => by omega), fun j => by rw [h.1], by rw [h.1]⟩
theorem sE_mu (ev : EV) (m : Nat) (z : PS) (x : Nat) (E : Cv) : MU ev m z (sE z x E) := ⟨fun _ _ _ => rfl, fun _ => rfl, rfl⟩
def upF {α : Type} (f : Nat → α) (n : Nat) (v : α) : Nat → α := fun i => if i = n then v else f i
theorem upF_n {α : Type} (f : Nat → α) (n : Nat) (v : α) : upF f n v n = v := by unfold upF; rw [if_pos rfl]
theorem upF_lt {α : Type} (f : Nat → α) {n i : Nat} (v : α) (h : i < n) : upF f n v i = f i := by unfold upF; rw [if_neg (by omega)]
def INV (ev : EV) (th m : Nat) (z : PS) (n : Nat) (C L : Nat → Cv) (U : Nat → Int) : Prop := CI ev th z n C L U ∧ MI ev m z n C
def IV (ev : EV) (th m : Nat) (z : PS) : Prop := ∃ n C L U, INV ev th m z n C L U
theorem INV.fm {ev : EV} {th m : Nat} {z z1 z2 : PS} (S : Sep ev th m) {n : Nat} {C L : Nat → Cv} {U : Nat → Int} (c : CI ev th z1 n C L U) (M : MI ev m z n C) (u : MU ev m z z1) (f : FM ev m z1 z2) : INV ev th m z2 n C L U :=
  ⟨c.neu S (f.neu (th := th)), (M.mu u).fm S.2.2.2 f⟩
theorem w120 (ev : EV) (m : Nat) (z : PS) (v : Int32) : FM ev m z (w32 z 120 m v) := ⟨fun i x h => by show (if _ then _ else _) = _; rw [if_neg (fun hh => h ⟨Or.inl hh.1, hh.2⟩)], fun _ _ _ => rfl, fun _ _ _ => rfl, fun _ _ _ => rfl⟩
