/-! the state of all objects: int fields, long fields (field's number 20 * kind + place, address), rows of ints, rows of longs (address, place); what never changes: addresses, kinds, lengths, references -/
abbrev PS : Type := (Nat → Nat → Int32) × (Nat → Nat → Int64) × (Nat → Nat → Int32) × (Nat → Nat → Int64)
abbrev EV : Type := List Nat × (Nat → Nat) × (Nat → Nat) × (Nat → Nat → Nat) × (Nat → Nat → Nat) × ClassId × ClassId × ClassId × va_G
abbrev eL (ev : EV) : List Nat := ev.1
abbrev eK (ev : EV) : Nat → Nat := ev.2.1
abbrev eN (ev : EV) : Nat → Nat := ev.2.2.1
abbrev rf (ev : EV) : Nat → Nat → Nat := ev.2.2.2.1
abbrev rh (ev : EV) : Nat → Nat → Nat := ev.2.2.2.2.1
abbrev eI (ev : EV) : ClassId := ev.2.2.2.2.2.1
abbrev eJ (ev : EV) : ClassId := ev.2.2.2.2.2.2.1
abbrev eH (ev : EV) : ClassId := ev.2.2.2.2.2.2.2.1
abbrev eD (ev : EV) : va_G := ev.2.2.2.2.2.2.2.2
abbrev eT (ev : EV) : List (ClassId × FieldType) := [(eI ev, .int), (eJ ev, .long), (eH ev, .object "CurveFalls$Held")]
def w32 (z : PS) (i x : Nat) (v : Int32) : PS := (fun j y => if j = i ∧ y = x then v else z.1 j y, z.2)
def w64 (z : PS) (i x : Nat) (v : Int64) : PS := (z.1, fun j y => if j = i ∧ y = x then v else z.2.1 j y, z.2.2)
def wI (z : PS) (a i : Nat) (v : Int32) : PS := (z.1, z.2.1, fun b j => if b = a ∧ j = i then v else z.2.2.1 b j, z.2.2.2)
def wJ (z : PS) (a i : Nat) (v : Int64) : PS := (z.1, z.2.1, z.2.2.1, fun b j => if b = a ∧ j = i then v else z.2.2.2 b j)
abbrev r32 (z : PS) (i x : Nat) : Int32 := z.1 i x
abbrev r64 (z : PS) (i x : Nat) : Int64 := z.2.1 i x
abbrev rI (z : PS) (a i : Nat) : Int32 := z.2.2.1 a i
abbrev rJ (z : PS) (a i : Nat) : Int64 := z.2.2.2 a i
/-- x is an object of the kind k -/
def isK (ev : EV) (k x : Nat) : Prop := x ∈ eL ev ∧ eK ev x = k
def bd {α β : Type} (a : α) (k : α → Option β) : Option β := k a
theorem bd_s {α β : Type} {a : α} {k : α → Option β} {r : β} (h : bd a k = some r) : ∃ v, v = a ∧ k v = some r := ⟨a, rfl, h⟩
def ck {β : Type} (c : Prop) [Decidable c] (x : Option β) : Option β := if c then x else none
theorem ck_s {β : Type} {c : Prop} [Decidable c] {x : Option β} {r : β} (h : ck c x = some r) : c ∧ x = some r := by
  unfold ck at h
  by_cases hc : c
  · rw [if_pos hc] at h; exact ⟨hc, h⟩
  · rw [if_neg hc] at h; cases h
def ob {α β : Type} (x : Option α) (k : α → Option β) : Option β := x.bind k
theorem ob_s {α β : Type} {x : Option α} {k : α → Option β} {r : β} (h : ob x k = some r) : ∃ v, x = some v ∧ k v = some r := Option.bind_eq_some_iff.mp h
theorem ob_p {α γ β : Type} {x : Option (α × γ)} {k : α × γ → Option β} {r : β} (h : ob x k = some r) : ∃ (v : α) (w : γ), x = some (v, w) ∧ k (v, w) = some r := by
  obtain ⟨⟨v, w⟩, h1, h2⟩ := ob_s h
  exact ⟨v, w, h1, h2⟩
def jr32 (x y : Int32) : Int32 := x - x / y * y
def jr64 (x y : Int64) : Int64 := x - x / y * y
/-- how often a loop may turn -/
def FU : Nat := 1000000000000
abbrev inB (i : Int32) (n : Nat) : Prop := ¬ (i < 0 ∨ n ≤ i.toNatClampNeg)
/-- what lies at an address -/
def cel (ev : EV) (z : PS) (a : Nat) : va_E :=
  if eK ev a = 0 then .inr (0, [.long (r64 z 0 a), .long (r64 z 1 a), .long (r64 z 2 a), .long (r64 z 3 a), .long (r64 z 4 a), .long (r64 z 5 a), .long (r64 z 6 a), .long (r64 z 7 a), .long (r64 z 8 a), .long (r64 z 9 a), .long (r64 z 10 a), .long (r64 z 11 a)]) else
  if eK ev a = 1 then .inr (1, [.int (r32 z 20 a), .int (r32 z 21 a), .int (r32 z 22 a), .int (r32 z 23 a), .int (r32 z 24 a), .int (r32 z 25 a), .int (r32 z 26 a), .ref (rf ev 27 a), .int (r32 z 28 a)]) else
  if eK ev a = 2 then .inr (2, [.ref (rf ev 40 a), .ref (rf ev 41 a), .long (r64 z 42 a), .ref (rf ev 43 a), .int (r32 z 44 a)]) else
  if eK ev a = 3 then .inr (3, [.ref (rf ev 60 a), .int (r32 z 61 a)]) else
  if eK ev a = 4 then .inr (4, [.ref (rf ev 80 a), .ref (rf ev 81 a), .int (r32 z 82 a)]) else
  if eK ev a = 5 then .inr (5, [.ref (rf ev 100 a), .int (r32 z 101 a), .ref (rf ev 102 a), .ref (rf ev 103 a), .ref (rf ev 104 a), .int (r32 z 105 a), .ref (rf ev 106 a)]) else
  if eK ev a = 6 then .inr (6, [.int (r32 z 120 a), .int (r32 z 121 a), .ref (rf ev 122 a), .ref (rf ev 123 a), .ref (rf ev 124 a), .ref (rf ev 125 a), .int (r32 z 126 a), .ref (rf ev 127 a), .long (r64 z 128 a), .ref (rf ev 129 a), .long (r64 z 130 a), .ref (rf ev 131 a), .ref (rf ev 132 a), .ref (rf ev 133 a), .ref (rf ev 134 a), .int (r32 z 135 a)]) else
  if eK ev a = 7 then .inl (eI ev, eN ev a, .inl (z.2.2.1 a)) else
  if eK ev a = 8 then .inl (eJ ev, eN ev a, .inr (.inl (z.2.2.2 a))) else
  .inl (eH ev, eN ev a, .inr (.inr (.inr (.inr (fun i => some (rh ev a i))))))
abbrev Wd (ev : EV) (z : PS) (H : Heap) : Prop := va_P (eD ev) vwCl (va_pl (eL ev) (cel ev z)) H
abbrev KK (ev : EV) (s : State) : Prop := va_K (eD ev) vwCl (eT ev) s
abbrev eA (ev : EV) : Nat → Prop := fun q => q ∈ eL ev
abbrev SS (ev : EV) (s : State) (H : Heap) (locs : List Loc) : Prop := va_S (fun q => q ∈ eL ev) s.heap H locs
theorem at_0 {ev : EV} (z : PS) {x : Nat} (h : isK ev 0 x) : pH (eL ev) (cel ev z) x (.inr (0, [.long (r64 z 0 x), .long (r64 z 1 x), .long (r64 z 2 x), .long (r64 z 3 x), .long (r64 z 4 x), .long (r64 z 5 x), .long (r64 z 6 x), .long (r64 z 7 x), .long (r64 z 8 x), .long (r64 z 9 x), .long (r64 z 10 x), .long (r64 z 11 x)])) := ⟨h.1, by unfold cel; rw [if_pos h.2]⟩
theorem at_1 {ev : EV} (z : PS) {x : Nat} (h : isK ev 1 x) : pH (eL ev) (cel ev z) x (.inr (1, [.int (r32 z 20 x), .int (r32 z 21 x), .int (r32 z 22 x), .int (r32 z 23 x), .int (r32 z 24 x), .int (r32 z 25 x), .int (r32 z 26 x), .ref (rf ev 27 x), .int (r32 z 28 x)])) := ⟨h.1, by unfold cel; rw [if_neg (by rw [h.2]; decide), if_pos h.2]⟩
theorem at_2 {ev : EV} (z : PS) {x : Nat} (h : isK ev 2 x) : pH (eL ev) (cel ev z) x (.inr (2, [.ref (rf ev 40 x), .ref (rf ev 41 x), .long (r64 z 42 x), .ref (rf ev 43 x), .int (r32 z 44 x)])) := ⟨h.1, by unfold cel; rw [if_neg (by rw [h.2]; decide), if_neg (by rw [h.2]; decide), if_pos h.2]⟩
theorem at_3 {ev : EV} (z : PS) {x : Nat} (h : isK ev 3 x) : pH (eL ev) (cel ev z) x (.inr (3, [.ref (rf ev 60 x), .int (r32 z 61 x)])) := ⟨h.1, by unfold cel; rw [if_neg (by rw [h.2]; decide), if_neg (by rw [h.2]; decide), if_neg (by rw [h.2]; decide), if_pos h.2]⟩
theorem at_4 {ev : EV} (z : PS) {x : Nat} (h : isK ev 4 x) : pH (eL ev) (cel ev z) x (.inr (4, [.ref (rf ev 80 x), .ref (rf ev 81 x), .int (r32 z 82 x)])) := ⟨h.1, by unfold cel; rw [if_neg (by rw [h.2]; decide), if_neg (by rw [h.2]; decide), if_neg (by rw [h.2]; decide), if_neg (by rw [h.2]; decide), if_pos h.2]⟩
theorem at_5 {ev : EV} (z : PS) {x : Nat} (h : isK ev 5 x) : pH (eL ev) (cel ev z) x (.inr (5, [.ref (rf ev 100 x), .int (r32 z 101 x), .ref (rf ev 102 x), .ref (rf ev 103 x), .ref (rf ev 104 x), .int (r32 z 105 x), .ref (rf ev 106 x)])) := ⟨h.1, by unfold cel; rw [if_neg (by rw [h.2]; decide), if_neg (by rw [h.2]; decide), if_neg (by rw [h.2]; decide), if_neg (by rw [h.2]; decide), if_neg (by rw [h.2]; decide), if_pos h.2]⟩
theorem at_6 {ev : EV} (z : PS) {x : Nat} (h : isK ev 6 x) : pH (eL ev) (cel ev z) x (.inr (6, [.int (r32 z 120 x), .int (r32 z 121 x), .ref (rf ev 122 x), .ref (rf ev 123 x), .ref (rf ev 124 x), .ref (rf ev 125 x), .int (r32 z 126 x), .ref (rf ev 127 x), .long (r64 z 128 x), .ref (rf ev 129 x), .long (r64 z 130 x), .ref (rf ev 131 x), .ref (rf ev 132 x), .ref (rf ev 133 x), .ref (rf ev 134 x), .int (r32 z 135 x)])) := ⟨h.1, by unfold cel; rw [if_neg (by rw [h.2]; decide), if_neg (by rw [h.2]; decide), if_neg (by rw [h.2]; decide), if_neg (by rw [h.2]; decide), if_neg (by rw [h.2]; decide), if_neg (by rw [h.2]; decide), if_pos h.2]⟩
theorem at_7 {ev : EV} (z : PS) {x : Nat} (h : isK ev 7 x) : pH (eL ev) (cel ev z) x (.inl (eI ev, eN ev x, .inl (z.2.2.1 x))) := ⟨h.1, by unfold cel; rw [if_neg (by rw [h.2]; decide), if_neg (by rw [h.2]; decide), if_neg (by rw [h.2]; decide), if_neg (by rw [h.2]; decide), if_neg (by rw [h.2]; decide), if_neg (by rw [h.2]; decide), if_neg (by rw [h.2]; decide), if_pos h.2]⟩
theorem at_8 {ev : EV} (z : PS) {x : Nat} (h : isK ev 8 x) : pH (eL ev) (cel ev z) x (.inl (eJ ev, eN ev x, .inr (.inl (z.2.2.2 x)))) := ⟨h.1, by unfold cel; rw [if_neg (by rw [h.2]; decide), if_neg (by rw [h.2]; decide), if_neg (by rw [h.2]; decide), if_neg (by rw [h.2]; decide), if_neg (by rw [h.2]; decide), if_neg (by rw [h.2]; decide), if_neg (by rw [h.2]; decide), if_neg (by rw [h.2]; decide), if_pos h.2]⟩
theorem at_9 {ev : EV} (z : PS) {x : Nat} (h : isK ev 9 x) : pH (eL ev) (cel ev z) x (.inl (eH ev, eN ev x, .inr (.inr (.inr (.inr (fun i => some (rh ev x i))))))) := ⟨h.1, by unfold cel; rw [if_neg (by rw [h.2]; decide), if_neg (by rw [h.2]; decide), if_neg (by rw [h.2]; decide), if_neg (by rw [h.2]; decide), if_neg (by rw [h.2]; decide), if_neg (by rw [h.2]; decide), if_neg (by rw [h.2]; decide), if_neg (by rw [h.2]; decide), if_neg (by rw [h.2]; decide)]⟩
/-- the references lead where they should -/
def EWF (ev : EV) : Prop := (eL ev).Nodup ∧ (∀ x, isK ev 1 x → isK ev 0 (rf ev 27 x)) ∧ (∀ x, isK ev 2 x → isK ev 0 (rf ev 40 x)) ∧ (∀ x, isK ev 2 x → isK ev 0 (rf ev 41 x)) ∧ (∀ x, isK ev 2 x → isK ev 3 (rf ev 43 x)) ∧ (∀ x, isK ev 3 x → isK ev 7 (rf ev 60 x) ∧ eN ev (rf ev 60 x) = 16) ∧ (∀ x, isK ev 4 x → isK ev 7 (rf ev 80 x) ∧ eN ev (rf ev 80 x) = 242) ∧ (∀ x, isK ev 4 x → isK ev 7 (rf ev 81 x) ∧ eN ev (rf ev 81 x) = 242) ∧ (∀ x, isK ev 5 x → isK ev 9 (rf ev 100 x) ∧ eN ev (rf ev 100 x) = 16) ∧ (∀ x, isK ev 5 x → isK ev 0 (rf ev 102 x)) ∧ (∀ x, isK ev 5 x → isK ev 1 (rf ev 103 x)) ∧ (∀ x, isK ev 5 x → isK ev 4 (rf ev 104 x)) ∧ (∀ x, isK ev 5 x → isK ev 7 (rf ev 106 x) ∧ eN ev (rf ev 106 x) = 199) ∧ (∀ x, isK ev 6 x → isK ev 8 (rf ev 122 x) ∧ eN ev (rf ev 122 x) = 80) ∧ (∀ x, isK ev 6 x → isK ev 8 (rf ev 123 x) ∧ eN ev (rf ev 123 x) = 5) ∧ (∀ x, isK ev 6 x → isK ev 8 (rf ev 124 x) ∧ eN ev (rf ev 124 x) = 5) ∧ (∀ x, isK ev 6 x → isK ev 8 (rf ev 125 x) ∧ eN ev (rf ev 125 x) = 20) ∧ (∀ x, isK ev 6 x → isK ev 7 (rf ev 127 x) ∧ eN ev (rf ev 127 x) = 8) ∧ (∀ x, isK ev 6 x → isK ev 8 (rf ev 129 x) ∧ eN ev (rf ev 129 x) = 5) ∧ (∀ x, isK ev 6 x → isK ev 8 (rf ev 131 x) ∧ eN ev (rf ev 131 x) = 5) ∧ (∀ x, isK ev 6 x → isK ev 8 (rf ev 132 x) ∧ eN ev (rf ev 132 x) = 5) ∧ (∀ x, isK ev 6 x → isK ev 7 (rf ev 133 x) ∧ eN ev (rf ev 133 x) = 14) ∧ (∀ x, isK ev 6 x → isK ev 8 (rf ev 134 x) ∧ eN ev (rf ev 134 x) = 484) ∧ (∀ x i, isK ev 9 x → i < 16 → isK ev 2 (rh ev x i))
theorem E_nd {ev : EV} (E : EWF ev) : (eL ev).Nodup := E.1
theorem E_1_7 {ev : EV} (E : EWF ev) {x : Nat} (h : isK ev 1 x) : isK ev 0 (rf ev 27 x) := E.2.1 x h
theorem E_2_0 {ev : EV} (E : EWF ev) {x : Nat} (h : isK ev 2 x) : isK ev 0 (rf ev 40 x) := E.2.2.1 x h
theorem E_2_1 {ev : EV} (E : EWF ev) {x : Nat} (h : isK ev 2 x) : isK ev 0 (rf ev 41 x) := E.2.2.2.1 x h
theorem E_2_3 {ev : EV} (E : EWF ev) {x : Nat} (h : isK ev 2 x) : isK ev 3 (rf ev 43 x) := E.2.2.2.2.1 x h
theorem E_3_0 {ev : EV} (E : EWF ev) {x : Nat} (h : isK ev 3 x) : isK ev 7 (rf ev 60 x) := (E.2.2.2.2.2.1 x h).1
theorem N_3_0 {ev : EV} (E : EWF ev) {x : Nat} (h : isK ev 3 x) : eN ev (rf ev 60 x) = 16 := (E.2.2.2.2.2.1 x h).2
theorem E_4_0 {ev : EV} (E : EWF ev) {x : Nat} (h : isK ev 4 x) : isK ev 7 (rf ev 80 x) := (E.2.2.2.2.2.2.1 x h).1
theorem N_4_0 {ev : EV} (E : EWF ev) {x : Nat} (h : isK ev 4 x) : eN ev (rf ev 80 x) = 242 := (E.2.2.2.2.2.2.1 x h).2
theorem E_4_1 {ev : EV} (E : EWF ev) {x : Nat} (h : isK ev 4 x) : isK ev 7 (rf ev 81 x) := (E.2.2.2.2.2.2.2.1 x h).1
theorem N_4_1 {ev : EV} (E : EWF ev) {x : Nat} (h : isK ev 4 x) : eN ev (rf ev 81 x) = 242 := (E.2.2.2.2.2.2.2.1 x h).2
theorem E_5_0 {ev : EV} (E : EWF ev) {x : Nat} (h : isK ev 5 x) : isK ev 9 (rf ev 100 x) := (E.2.2.2.2.2.2.2.2.1 x h).1
theorem N_5_0 {ev : EV} (E : EWF ev) {x : Nat} (h : isK ev 5 x) : eN ev (rf ev 100 x) = 16 := (E.2.2.2.2.2.2.2.2.1 x h).2
theorem E_5_2 {ev : EV} (E : EWF ev) {x : Nat} (h : isK ev 5 x) : isK ev 0 (rf ev 102 x) := E.2.2.2.2.2.2.2.2.2.1 x h
theorem E_5_3 {ev : EV} (E : EWF ev) {x : Nat} (h : isK ev 5 x) : isK ev 1 (rf ev 103 x) := E.2.2.2.2.2.2.2.2.2.2.1 x h
theorem E_5_4 {ev : EV} (E : EWF ev) {x : Nat} (h : isK ev 5 x) : isK ev 4 (rf ev 104 x) := E.2.2.2.2.2.2.2.2.2.2.2.1 x h
theorem E_5_6 {ev : EV} (E : EWF ev) {x : Nat} (h : isK ev 5 x) : isK ev 7 (rf ev 106 x) := (E.2.2.2.2.2.2.2.2.2.2.2.2.1 x h).1
theorem N_5_6 {ev : EV} (E : EWF ev) {x : Nat} (h : isK ev 5 x) : eN ev (rf ev 106 x) = 199 := (E.2.2.2.2.2.2.2.2.2.2.2.2.1 x h).2
theorem E_6_2 {ev : EV} (E : EWF ev) {x : Nat} (h : isK ev 6 x) : isK ev 8 (rf ev 122 x) := (E.2.2.2.2.2.2.2.2.2.2.2.2.2.1 x h).1
theorem N_6_2 {ev : EV} (E : EWF ev) {x : Nat} (h : isK ev 6 x) : eN ev (rf ev 122 x) = 80 := (E.2.2.2.2.2.2.2.2.2.2.2.2.2.1 x h).2
theorem E_6_3 {ev : EV} (E : EWF ev) {x : Nat} (h : isK ev 6 x) : isK ev 8 (rf ev 123 x) := (E.2.2.2.2.2.2.2.2.2.2.2.2.2.2.1 x h).1
theorem N_6_3 {ev : EV} (E : EWF ev) {x : Nat} (h : isK ev 6 x) : eN ev (rf ev 123 x) = 5 := (E.2.2.2.2.2.2.2.2.2.2.2.2.2.2.1 x h).2
theorem E_6_4 {ev : EV} (E : EWF ev) {x : Nat} (h : isK ev 6 x) : isK ev 8 (rf ev 124 x) := (E.2.2.2.2.2.2.2.2.2.2.2.2.2.2.2.1 x h).1
theorem N_6_4 {ev : EV} (E : EWF ev) {x : Nat} (h : isK ev 6 x) : eN ev (rf ev 124 x) = 5 := (E.2.2.2.2.2.2.2.2.2.2.2.2.2.2.2.1 x h).2
theorem E_6_5 {ev : EV} (E : EWF ev) {x : Nat} (h : isK ev 6 x) : isK ev 8 (rf ev 125 x) := (E.2.2.2.2.2.2.2.2.2.2.2.2.2.2.2.2.1 x h).1
theorem N_6_5 {ev : EV} (E : EWF ev) {x : Nat} (h : isK ev 6 x) : eN ev (rf ev 125 x) = 20 := (E.2.2.2.2.2.2.2.2.2.2.2.2.2.2.2.2.1 x h).2
theorem E_6_7 {ev : EV} (E : EWF ev) {x : Nat} (h : isK ev 6 x) : isK ev 7 (rf ev 127 x) := (E.2.2.2.2.2.2.2.2.2.2.2.2.2.2.2.2.2.1 x h).1
theorem N_6_7 {ev : EV} (E : EWF ev) {x : Nat} (h : isK ev 6 x) : eN ev (rf ev 127 x) = 8 := (E.2.2.2.2.2.2.2.2.2.2.2.2.2.2.2.2.2.1 x h).2
theorem E_6_9 {ev : EV} (E : EWF ev) {x : Nat} (h : isK ev 6 x) : isK ev 8 (rf ev 129 x) := (E.2.2.2.2.2.2.2.2.2.2.2.2.2.2.2.2.2.2.1 x h).1
theorem N_6_9 {ev : EV} (E : EWF ev) {x : Nat} (h : isK ev 6 x) : eN ev (rf ev 129 x) = 5 := (E.2.2.2.2.2.2.2.2.2.2.2.2.2.2.2.2.2.2.1 x h).2
theorem E_6_11 {ev : EV} (E : EWF ev) {x : Nat} (h : isK ev 6 x) : isK ev 8 (rf ev 131 x) := (E.2.2.2.2.2.2.2.2.2.2.2.2.2.2.2.2.2.2.2.1 x h).1
theorem N_6_11 {ev : EV} (E : EWF ev) {x : Nat} (h : isK ev 6 x) : eN ev (rf ev 131 x) = 5 := (E.2.2.2.2.2.2.2.2.2.2.2.2.2.2.2.2.2.2.2.1 x h).2
theorem E_6_12 {ev : EV} (E : EWF ev) {x : Nat} (h : isK ev 6 x) : isK ev 8 (rf ev 132 x) := (E.2.2.2.2.2.2.2.2.2.2.2.2.2.2.2.2.2.2.2.2.1 x h).1
theorem N_6_12 {ev : EV} (E : EWF ev) {x : Nat} (h : isK ev 6 x) : eN ev (rf ev 132 x) = 5 := (E.2.2.2.2.2.2.2.2.2.2.2.2.2.2.2.2.2.2.2.2.1 x h).2
theorem E_6_13 {ev : EV} (E : EWF ev) {x : Nat} (h : isK ev 6 x) : isK ev 7 (rf ev 133 x) := (E.2.2.2.2.2.2.2.2.2.2.2.2.2.2.2.2.2.2.2.2.2.1 x h).1
theorem N_6_13 {ev : EV} (E : EWF ev) {x : Nat} (h : isK ev 6 x) : eN ev (rf ev 133 x) = 14 := (E.2.2.2.2.2.2.2.2.2.2.2.2.2.2.2.2.2.2.2.2.2.1 x h).2
theorem E_6_14 {ev : EV} (E : EWF ev) {x : Nat} (h : isK ev 6 x) : isK ev 8 (rf ev 134 x) := (E.2.2.2.2.2.2.2.2.2.2.2.2.2.2.2.2.2.2.2.2.2.2.1 x h).1
theorem N_6_14 {ev : EV} (E : EWF ev) {x : Nat} (h : isK ev 6 x) : eN ev (rf ev 134 x) = 484 := (E.2.2.2.2.2.2.2.2.2.2.2.2.2.2.2.2.2.2.2.2.2.2.1 x h).2
theorem E_h {ev : EV} (E : EWF ev) {x i : Nat} (h : isK ev 9 x) (hi : i < 16) : isK ev 2 (rh ev x i) := E.2.2.2.2.2.2.2.2.2.2.2.2.2.2.2.2.2.2.2.2.2.2.2 x i h hi
section FR
variable {p : Program} {l : Launch} {e : Env} {R : Room} {s : State} {m : MethodId} {args : Array Value} {below : List Frame} {meth : Method} {c : Code} {H : Heap} {locs : List Loc} {cells slots : Nat} {Q : State → Prop} {cc : ByteArray} {pc nL : Nat} {ls : Array Slot} {rest : List Value} {own : String} {ev : EV} {z : PS} {x index : Nat}
theorem gf_0_0 (S : CallFix p m c cc nL s args gT own) (hK : KK ev s) (hP : Wd ev z H) (hx : isK ev 0 x) (hlink : Cond.fieldLink own index "CurveFalls$Equation" "a1" "J" ∈ gT) (hdg : decode cc pc = .ok (.getfield index, 3)) (kk : W p l e R s m args below meth c H locs cells slots Q (F0 m (pc + 3) ls (.long (r64 z 0 x) :: rest))) : W p l e R s m args below meth c H locs cells slots Q (F0 m pc ls (.ref x :: rest)) := pm_get S hK hP (at_0 z hx) gX0 (k := 0) rfl (by decide) hlink rfl rfl hdg kk
theorem up_0_0 (hk : eK ev x = 0) (v : Int64) : cel ev (w64 z 0 x v) = va_up (cel ev z) x (.inr (0, [.long v, .long (r64 z 1 x), .long (r64 z 2 x), .long (r64 z 3 x), .long (r64 z 4 x), .long (r64 z 5 x), .long (r64 z 6 x), .long (r64 z 7 x), .long (r64 z 8 x), .long (r64 z 9 x), .long (r64 z 10 x), .long (r64 z 11 x)])) := by
  funext a
  by_cases ha : a = x
  · subst ha; simp [cel, va_up, w64, r32, r64, hk]
  · simp [cel, va_up, w64, r32, r64, ha]
theorem pf_0_0 (S : CallFix p m c cc nL s args gT own) (E : EWF ev) (hK : KK ev s) (hP : Wd ev z H) (hS : SS ev s H locs) (hx : isK ev 0 x) {v : Int64} (hlink : Cond.fieldLink own index "CurveFalls$Equation" "a1" "J" ∈ gT) (hdg : decode cc pc = .ok (.putfield index, 3)) (kk : ∀ (H1 : Heap) (locs1 : List Loc), Wd ev (w64 z 0 x v) H1 → SS ev s H1 locs1 → W p l e R s m args below meth c H1 locs1 cells slots Q (F0 m (pc + 3) ls rest)) : W p l e R s m args below meth c H locs cells slots Q (F0 m pc ls (.long v :: .ref x :: rest)) := by
  refine pm_put S (E_nd E) hK hP hS (at_0 z hx) gX0 tyX0 tyX0_ok nmX0 (k := 0) rfl (by decide) hlink rfl rfl rfl rfl (by show 0 < 12; decide) rfl hdg (fun H1 locs1 h1 h2 => kk H1 locs1 ?_ h2)
  show va_P (eD ev) vwCl (va_pl (eL ev) (cel ev (w64 z 0 x v))) H1
  rw [up_0_0 hx.2]
  exact h1
theorem gf_0_1 (S : CallFix p m c cc nL s args gT own) (hK : KK ev s) (hP : Wd ev z H) (hx : isK ev 0 x) (hlink : Cond.fieldLink own index "CurveFalls$Equation" "a2" "J" ∈ gT) (hdg : decode cc pc = .ok (.getfield index, 3)) (kk : W p l e R s m args below meth c H locs cells slots Q (F0 m (pc + 3) ls (.long (r64 z 1 x) :: rest))) : W p l e R s m args below meth c H locs cells slots Q (F0 m pc ls (.ref x :: rest)) := pm_get S hK hP (at_0 z hx) gX0 (k := 1) rfl (by decide) hlink rfl rfl hdg kk
theorem up_0_1 (hk : eK ev x = 0) (v : Int64) : cel ev (w64 z 1 x v) = va_up (cel ev z) x (.inr (0, [.long (r64 z 0 x), .long v, .long (r64 z 2 x), .long (r64 z 3 x), .long (r64 z 4 x), .long (r64 z 5 x), .long (r64 z 6 x), .long (r64 z 7 x), .long (r64 z 8 x), .long (r64 z 9 x), .long (r64 z 10 x), .long (r64 z 11 x)])) := by
  funext a
  by_cases ha : a = x
  · subst ha; simp [cel, va_up, w64, r32, r64, hk]
  · simp [cel, va_up, w64, r32, r64, ha]
theorem pf_0_1 (S : CallFix p m c cc nL s args gT own) (E : EWF ev) (hK : KK ev s) (hP : Wd ev z H) (hS : SS ev s H locs) (hx : isK ev 0 x) {v : Int64} (hlink : Cond.fieldLink own index "CurveFalls$Equation" "a2" "J" ∈ gT) (hdg : decode cc pc = .ok (.putfield index, 3)) (kk : ∀ (H1 : Heap) (locs1 : List Loc), Wd ev (w64 z 1 x v) H1 → SS ev s H1 locs1 → W p l e R s m args below meth c H1 locs1 cells slots Q (F0 m (pc + 3) ls rest)) : W p l e R s m args below meth c H locs cells slots Q (F0 m pc ls (.long v :: .ref x :: rest)) := by
  refine pm_put S (E_nd E) hK hP hS (at_0 z hx) gX0 tyX0 tyX0_ok nmX0 (k := 1) rfl (by decide) hlink rfl rfl rfl rfl (by show 1 < 12; decide) rfl hdg (fun H1 locs1 h1 h2 => kk H1 locs1 ?_ h2)
  show va_P (eD ev) vwCl (va_pl (eL ev) (cel ev (w64 z 1 x v))) H1
  rw [up_0_1 hx.2]
  exact h1
theorem gf_0_2 (S : CallFix p m c cc nL s args gT own) (hK : KK ev s) (hP : Wd ev z H) (hx : isK ev 0 x) (hlink : Cond.fieldLink own index "CurveFalls$Equation" "a3" "J" ∈ gT) (hdg : decode cc pc = .ok (.getfield index, 3)) (kk : W p l e R s m args below meth c H locs cells slots Q (F0 m (pc + 3) ls (.long (r64 z 2 x) :: rest))) : W p l e R s m args below meth c H locs cells slots Q (F0 m pc ls (.ref x :: rest)) := pm_get S hK hP (at_0 z hx) gX0 (k := 2) rfl (by decide) hlink rfl rfl hdg kk
theorem up_0_2 (hk : eK ev x = 0) (v : Int64) : cel ev (w64 z 2 x v) = va_up (cel ev z) x (.inr (0, [.long (r64 z 0 x), .long (r64 z 1 x), .long v, .long (r64 z 3 x), .long (r64 z 4 x), .long (r64 z 5 x), .long (r64 z 6 x), .long (r64 z 7 x), .long (r64 z 8 x), .long (r64 z 9 x), .long (r64 z 10 x), .long (r64 z 11 x)])) := by
  funext a
  by_cases ha : a = x
  · subst ha; simp [cel, va_up, w64, r32, r64, hk]
  · simp [cel, va_up, w64, r32, r64, ha]
theorem pf_0_2 (S : CallFix p m c cc nL s args gT own) (E : EWF ev) (hK : KK ev s) (hP : Wd ev z H) (hS : SS ev s H locs) (hx : isK ev 0 x) {v : Int64} (hlink : Cond.fieldLink own index "CurveFalls$Equation" "a3" "J" ∈ gT) (hdg : decode cc pc = .ok (.putfield index, 3)) (kk : ∀ (H1 : Heap) (locs1 : List Loc), Wd ev (w64 z 2 x v) H1 → SS ev s H1 locs1 → W p l e R s m args below meth c H1 locs1 cells slots Q (F0 m (pc + 3) ls rest)) : W p l e R s m args below meth c H locs cells slots Q (F0 m pc ls (.long v :: .ref x :: rest)) := by
  refine pm_put S (E_nd E) hK hP hS (at_0 z hx) gX0 tyX0 tyX0_ok nmX0 (k := 2) rfl (by decide) hlink rfl rfl rfl rfl (by show 2 < 12; decide) rfl hdg (fun H1 locs1 h1 h2 => kk H1 locs1 ?_ h2)
  show va_P (eD ev) vwCl (va_pl (eL ev) (cel ev (w64 z 2 x v))) H1
  rw [up_0_2 hx.2]
  exact h1
theorem gf_0_3 (S : CallFix p m c cc nL s args gT own) (hK : KK ev s) (hP : Wd ev z H) (hx : isK ev 0 x) (hlink : Cond.fieldLink own index "CurveFalls$Equation" "a4" "J" ∈ gT) (hdg : decode cc pc = .ok (.getfield index, 3)) (kk : W p l e R s m args below meth c H locs cells slots Q (F0 m (pc + 3) ls (.long (r64 z 3 x) :: rest))) : W p l e R s m args below meth c H locs cells slots Q (F0 m pc ls (.ref x :: rest)) := pm_get S hK hP (at_0 z hx) gX0 (k := 3) rfl (by decide) hlink rfl rfl hdg kk
theorem up_0_3 (hk : eK ev x = 0) (v : Int64) : cel ev (w64 z 3 x v) = va_up (cel ev z) x (.inr (0, [.long (r64 z 0 x), .long (r64 z 1 x), .long (r64 z 2 x), .long v, .long (r64 z 4 x), .long (r64 z 5 x), .long (r64 z 6 x), .long (r64 z 7 x), .long (r64 z 8 x), .long (r64 z 9 x), .long (r64 z 10 x), .long (r64 z 11 x)])) := by
  funext a
  by_cases ha : a = x
  · subst ha; simp [cel, va_up, w64, r32, r64, hk]
  · simp [cel, va_up, w64, r32, r64, ha]
theorem pf_0_3 (S : CallFix p m c cc nL s args gT own) (E : EWF ev) (hK : KK ev s) (hP : Wd ev z H) (hS : SS ev s H locs) (hx : isK ev 0 x) {v : Int64} (hlink : Cond.fieldLink own index "CurveFalls$Equation" "a4" "J" ∈ gT) (hdg : decode cc pc = .ok (.putfield index, 3)) (kk : ∀ (H1 : Heap) (locs1 : List Loc), Wd ev (w64 z 3 x v) H1 → SS ev s H1 locs1 → W p l e R s m args below meth c H1 locs1 cells slots Q (F0 m (pc + 3) ls rest)) : W p l e R s m args below meth c H locs cells slots Q (F0 m pc ls (.long v :: .ref x :: rest)) := by
  refine pm_put S (E_nd E) hK hP hS (at_0 z hx) gX0 tyX0 tyX0_ok nmX0 (k := 3) rfl (by decide) hlink rfl rfl rfl rfl (by show 3 < 12; decide) rfl hdg (fun H1 locs1 h1 h2 => kk H1 locs1 ?_ h2)
  show va_P (eD ev) vwCl (va_pl (eL ev) (cel ev (w64 z 3 x v))) H1
  rw [up_0_3 hx.2]
  exact h1
theorem gf_0_4 (S : CallFix p m c cc nL s args gT own) (hK : KK ev s) (hP : Wd ev z H) (hx : isK ev 0 x) (hlink : Cond.fieldLink own index "CurveFalls$Equation" "a6" "J" ∈ gT) (hdg : decode cc pc = .ok (.getfield index, 3)) (kk : W p l e R s m args below meth c H locs cells slots Q (F0 m (pc + 3) ls (.long (r64 z 4 x) :: rest))) : W p l e R s m args below meth c H locs cells slots Q (F0 m pc ls (.ref x :: rest)) := pm_get S hK hP (at_0 z hx) gX0 (k := 4) rfl (by decide) hlink rfl rfl hdg kk
theorem up_0_4 (hk : eK ev x = 0) (v : Int64) : cel ev (w64 z 4 x v) = va_up (cel ev z) x (.inr (0, [.long (r64 z 0 x), .long (r64 z 1 x), .long (r64 z 2 x), .long (r64 z 3 x), .long v, .long (r64 z 5 x), .long (r64 z 6 x), .long (r64 z 7 x), .long (r64 z 8 x), .long (r64 z 9 x), .long (r64 z 10 x), .long (r64 z 11 x)])) := by
  funext a
  by_cases ha : a = x
  · subst ha; simp [cel, va_up, w64, r32, r64, hk]
  · simp [cel, va_up, w64, r32, r64, ha]
theorem pf_0_4 (S : CallFix p m c cc nL s args gT own) (E : EWF ev) (hK : KK ev s) (hP : Wd ev z H) (hS : SS ev s H locs) (hx : isK ev 0 x) {v : Int64} (hlink : Cond.fieldLink own index "CurveFalls$Equation" "a6" "J" ∈ gT) (hdg : decode cc pc = .ok (.putfield index, 3)) (kk : ∀ (H1 : Heap) (locs1 : List Loc), Wd ev (w64 z 4 x v) H1 → SS ev s H1 locs1 → W p l e R s m args below meth c H1 locs1 cells slots Q (F0 m (pc + 3) ls rest)) : W p l e R s m args below meth c H locs cells slots Q (F0 m pc ls (.long v :: .ref x :: rest)) := by
  refine pm_put S (E_nd E) hK hP hS (at_0 z hx) gX0 tyX0 tyX0_ok nmX0 (k := 4) rfl (by decide) hlink rfl rfl rfl rfl (by show 4 < 12; decide) rfl hdg (fun H1 locs1 h1 h2 => kk H1 locs1 ?_ h2)
  show va_P (eD ev) vwCl (va_pl (eL ev) (cel ev (w64 z 4 x v))) H1
  rw [up_0_4 hx.2]
  exact h1
theorem gf_0_5 (S : CallFix p m c cc nL s args gT own) (hK : KK ev s) (hP : Wd ev z H) (hx : isK ev 0 x) (hlink : Cond.fieldLink own index "CurveFalls$Equation" "b2" "J" ∈ gT) (hdg : decode cc pc = .ok (.getfield index, 3)) (kk : W p l e R s m args below meth c H locs cells slots Q (F0 m (pc + 3) ls (.long (r64 z 5 x) :: rest))) : W p l e R s m args below meth c H locs cells slots Q (F0 m pc ls (.ref x :: rest)) := pm_get S hK hP (at_0 z hx) gX0 (k := 5) rfl (by decide) hlink rfl rfl hdg kk
theorem up_0_5 (hk : eK ev x = 0) (v : Int64) : cel ev (w64 z 5 x v) = va_up (cel ev z) x (.inr (0, [.long (r64 z 0 x), .long (r64 z 1 x), .long (r64 z 2 x), .long (r64 z 3 x), .long (r64 z 4 x), .long v, .long (r64 z 6 x), .long (r64 z 7 x), .long (r64 z 8 x), .long (r64 z 9 x), .long (r64 z 10 x), .long (r64 z 11 x)])) := by
  funext a
  by_cases ha : a = x
  · subst ha; simp [cel, va_up, w64, r32, r64, hk]
  · simp [cel, va_up, w64, r32, r64, ha]
theorem pf_0_5 (S : CallFix p m c cc nL s args gT own) (E : EWF ev) (hK : KK ev s) (hP : Wd ev z H) (hS : SS ev s H locs) (hx : isK ev 0 x) {v : Int64} (hlink : Cond.fieldLink own index "CurveFalls$Equation" "b2" "J" ∈ gT) (hdg : decode cc pc = .ok (.putfield index, 3)) (kk : ∀ (H1 : Heap) (locs1 : List Loc), Wd ev (w64 z 5 x v) H1 → SS ev s H1 locs1 → W p l e R s m args below meth c H1 locs1 cells slots Q (F0 m (pc + 3) ls rest)) : W p l e R s m args below meth c H locs cells slots Q (F0 m pc ls (.long v :: .ref x :: rest)) := by
  refine pm_put S (E_nd E) hK hP hS (at_0 z hx) gX0 tyX0 tyX0_ok nmX0 (k := 5) rfl (by decide) hlink rfl rfl rfl rfl (by show 5 < 12; decide) rfl hdg (fun H1 locs1 h1 h2 => kk H1 locs1 ?_ h2)
  show va_P (eD ev) vwCl (va_pl (eL ev) (cel ev (w64 z 5 x v))) H1
  rw [up_0_5 hx.2]
  exact h1
theorem gf_0_6 (S : CallFix p m c cc nL s args gT own) (hK : KK ev s) (hP : Wd ev z H) (hx : isK ev 0 x) (hlink : Cond.fieldLink own index "CurveFalls$Equation" "b4" "J" ∈ gT) (hdg : decode cc pc = .ok (.getfield index, 3)) (kk : W p l e R s m args below meth c H locs cells slots Q (F0 m (pc + 3) ls (.long (r64 z 6 x) :: rest))) : W p l e R s m args below meth c H locs cells slots Q (F0 m pc ls (.ref x :: rest)) := pm_get S hK hP (at_0 z hx) gX0 (k := 6) rfl (by decide) hlink rfl rfl hdg kk
theorem up_0_6 (hk : eK ev x = 0) (v : Int64) : cel ev (w64 z 6 x v) = va_up (cel ev z) x (.inr (0, [.long (r64 z 0 x), .long (r64 z 1 x), .long (r64 z 2 x), .long (r64 z 3 x), .long (r64 z 4 x), .long (r64 z 5 x), .long v, .long (r64 z 7 x), .long (r64 z 8 x), .long (r64 z 9 x), .long (r64 z 10 x), .long (r64 z 11 x)])) := by
  funext a
  by_cases ha : a = x
  · subst ha; simp [cel, va_up, w64, r32, r64, hk]
  · simp [cel, va_up, w64, r32, r64, ha]
theorem pf_0_6 (S : CallFix p m c cc nL s args gT own) (E : EWF ev) (hK : KK ev s) (hP : Wd ev z H) (hS : SS ev s H locs) (hx : isK ev 0 x) {v : Int64} (hlink : Cond.fieldLink own index "CurveFalls$Equation" "b4" "J" ∈ gT) (hdg : decode cc pc = .ok (.putfield index, 3)) (kk : ∀ (H1 : Heap) (locs1 : List Loc), Wd ev (w64 z 6 x v) H1 → SS ev s H1 locs1 → W p l e R s m args below meth c H1 locs1 cells slots Q (F0 m (pc + 3) ls rest)) : W p l e R s m args below meth c H locs cells slots Q (F0 m pc ls (.long v :: .ref x :: rest)) := by
  refine pm_put S (E_nd E) hK hP hS (at_0 z hx) gX0 tyX0 tyX0_ok nmX0 (k := 6) rfl (by decide) hlink rfl rfl rfl rfl (by show 6 < 12; decide) rfl hdg (fun H1 locs1 h1 h2 => kk H1 locs1 ?_ h2)
  show va_P (eD ev) vwCl (va_pl (eL ev) (cel ev (w64 z 6 x v))) H1
  rw [up_0_6 hx.2]
  exact h1
theorem gf_0_7 (S : CallFix p m c cc nL s args gT own) (hK : KK ev s) (hP : Wd ev z H) (hx : isK ev 0 x) (hlink : Cond.fieldLink own index "CurveFalls$Equation" "b6" "J" ∈ gT) (hdg : decode cc pc = .ok (.getfield index, 3)) (kk : W p l e R s m args below meth c H locs cells slots Q (F0 m (pc + 3) ls (.long (r64 z 7 x) :: rest))) : W p l e R s m args below meth c H locs cells slots Q (F0 m pc ls (.ref x :: rest)) := pm_get S hK hP (at_0 z hx) gX0 (k := 7) rfl (by decide) hlink rfl rfl hdg kk
theorem up_0_7 (hk : eK ev x = 0) (v : Int64) : cel ev (w64 z 7 x v) = va_up (cel ev z) x (.inr (0, [.long (r64 z 0 x), .long (r64 z 1 x), .long (r64 z 2 x), .long (r64 z 3 x), .long (r64 z 4 x), .long (r64 z 5 x), .long (r64 z 6 x), .long v, .long (r64 z 8 x), .long (r64 z 9 x), .long (r64 z 10 x), .long (r64 z 11 x)])) := by
  funext a
  by_cases ha : a = x
  · subst ha; simp [cel, va_up, w64, r32, r64, hk]
  · simp [cel, va_up, w64, r32, r64, ha]
theorem pf_0_7 (S : CallFix p m c cc nL s args gT own) (E : EWF ev) (hK : KK ev s) (hP : Wd ev z H) (hS : SS ev s H locs) (hx : isK ev 0 x) {v : Int64} (hlink : Cond.fieldLink own index "CurveFalls$Equation" "b6" "J" ∈ gT) (hdg : decode cc pc = .ok (.putfield index, 3)) (kk : ∀ (H1 : Heap) (locs1 : List Loc), Wd ev (w64 z 7 x v) H1 → SS ev s H1 locs1 → W p l e R s m args below meth c H1 locs1 cells slots Q (F0 m (pc + 3) ls rest)) : W p l e R s m args below meth c H locs cells slots Q (F0 m pc ls (.long v :: .ref x :: rest)) := by
  refine pm_put S (E_nd E) hK hP hS (at_0 z hx) gX0 tyX0 tyX0_ok nmX0 (k := 7) rfl (by decide) hlink rfl rfl rfl rfl (by show 7 < 12; decide) rfl hdg (fun H1 locs1 h1 h2 => kk H1 locs1 ?_ h2)
  show va_P (eD ev) vwCl (va_pl (eL ev) (cel ev (w64 z 7 x v))) H1
  rw [up_0_7 hx.2]
  exact h1
theorem gf_0_8 (S : CallFix p m c cc nL s args gT own) (hK : KK ev s) (hP : Wd ev z H) (hx : isK ev 0 x) (hlink : Cond.fieldLink own index "CurveFalls$Equation" "b8" "J" ∈ gT) (hdg : decode cc pc = .ok (.getfield index, 3)) (kk : W p l e R s m args below meth c H locs cells slots Q (F0 m (pc + 3) ls (.long (r64 z 8 x) :: rest))) : W p l e R s m args below meth c H locs cells slots Q (F0 m pc ls (.ref x :: rest)) := pm_get S hK hP (at_0 z hx) gX0 (k := 8) rfl (by decide) hlink rfl rfl hdg kk
theorem up_0_8 (hk : eK ev x = 0) (v : Int64) : cel ev (w64 z 8 x v) = va_up (cel ev z) x (.inr (0, [.long (r64 z 0 x), .long (r64 z 1 x), .long (r64 z 2 x), .long (r64 z 3 x), .long (r64 z 4 x), .long (r64 z 5 x), .long (r64 z 6 x), .long (r64 z 7 x), .long v, .long (r64 z 9 x), .long (r64 z 10 x), .long (r64 z 11 x)])) := by
  funext a
  by_cases ha : a = x
  · subst ha; simp [cel, va_up, w64, r32, r64, hk]
  · simp [cel, va_up, w64, r32, r64, ha]
theorem pf_0_8 (S : CallFix p m c cc nL s args gT own) (E : EWF ev) (hK : KK ev s) (hP : Wd ev z H) (hS : SS ev s H locs) (hx : isK ev 0 x) {v : Int64} (hlink : Cond.fieldLink own index "CurveFalls$Equation" "b8" "J" ∈ gT) (hdg : decode cc pc = .ok (.putfield index, 3)) (kk : ∀ (H1 : Heap) (locs1 : List Loc), Wd ev (w64 z 8 x v) H1 → SS ev s H1 locs1 → W p l e R s m args below meth c H1 locs1 cells slots Q (F0 m (pc + 3) ls rest)) : W p l e R s m args below meth c H locs cells slots Q (F0 m pc ls (.long v :: .ref x :: rest)) := by
  refine pm_put S (E_nd E) hK hP hS (at_0 z hx) gX0 tyX0 tyX0_ok nmX0 (k := 8) rfl (by decide) hlink rfl rfl rfl rfl (by show 8 < 12; decide) rfl hdg (fun H1 locs1 h1 h2 => kk H1 locs1 ?_ h2)
  show va_P (eD ev) vwCl (va_pl (eL ev) (cel ev (w64 z 8 x v))) H1
  rw [up_0_8 hx.2]
  exact h1
theorem gf_0_9 (S : CallFix p m c cc nL s args gT own) (hK : KK ev s) (hP : Wd ev z H) (hx : isK ev 0 x) (hlink : Cond.fieldLink own index "CurveFalls$Equation" "c4" "J" ∈ gT) (hdg : decode cc pc = .ok (.getfield index, 3)) (kk : W p l e R s m args below meth c H locs cells slots Q (F0 m (pc + 3) ls (.long (r64 z 9 x) :: rest))) : W p l e R s m args below meth c H locs cells slots Q (F0 m pc ls (.ref x :: rest)) := pm_get S hK hP (at_0 z hx) gX0 (k := 9) rfl (by decide) hlink rfl rfl hdg kk
theorem up_0_9 (hk : eK ev x = 0) (v : Int64) : cel ev (w64 z 9 x v) = va_up (cel ev z) x (.inr (0, [.long (r64 z 0 x), .long (r64 z 1 x), .long (r64 z 2 x), .long (r64 z 3 x), .long (r64 z 4 x), .long (r64 z 5 x), .long (r64 z 6 x), .long (r64 z 7 x), .long (r64 z 8 x), .long v, .long (r64 z 10 x), .long (r64 z 11 x)])) := by
  funext a
  by_cases ha : a = x
  · subst ha; simp [cel, va_up, w64, r32, r64, hk]
  · simp [cel, va_up, w64, r32, r64, ha]
theorem pf_0_9 (S : CallFix p m c cc nL s args gT own) (E : EWF ev) (hK : KK ev s) (hP : Wd ev z H) (hS : SS ev s H locs) (hx : isK ev 0 x) {v : Int64} (hlink : Cond.fieldLink own index "CurveFalls$Equation" "c4" "J" ∈ gT) (hdg : decode cc pc = .ok (.putfield index, 3)) (kk : ∀ (H1 : Heap) (locs1 : List Loc), Wd ev (w64 z 9 x v) H1 → SS ev s H1 locs1 → W p l e R s m args below meth c H1 locs1 cells slots Q (F0 m (pc + 3) ls rest)) : W p l e R s m args below meth c H locs cells slots Q (F0 m pc ls (.long v :: .ref x :: rest)) := by
  refine pm_put S (E_nd E) hK hP hS (at_0 z hx) gX0 tyX0 tyX0_ok nmX0 (k := 9) rfl (by decide) hlink rfl rfl rfl rfl (by show 9 < 12; decide) rfl hdg (fun H1 locs1 h1 h2 => kk H1 locs1 ?_ h2)
  show va_P (eD ev) vwCl (va_pl (eL ev) (cel ev (w64 z 9 x v))) H1
  rw [up_0_9 hx.2]
  exact h1
theorem gf_0_10 (S : CallFix p m c cc nL s args gT own) (hK : KK ev s) (hP : Wd ev z H) (hx : isK ev 0 x) (hlink : Cond.fieldLink own index "CurveFalls$Equation" "c6" "J" ∈ gT) (hdg : decode cc pc = .ok (.getfield index, 3)) (kk : W p l e R s m args below meth c H locs cells slots Q (F0 m (pc + 3) ls (.long (r64 z 10 x) :: rest))) : W p l e R s m args below meth c H locs cells slots Q (F0 m pc ls (.ref x :: rest)) := pm_get S hK hP (at_0 z hx) gX0 (k := 10) rfl (by decide) hlink rfl rfl hdg kk
theorem up_0_10 (hk : eK ev x = 0) (v : Int64) : cel ev (w64 z 10 x v) = va_up (cel ev z) x (.inr (0, [.long (r64 z 0 x), .long (r64 z 1 x), .long (r64 z 2 x), .long (r64 z 3 x), .long (r64 z 4 x), .long (r64 z 5 x), .long (r64 z 6 x), .long (r64 z 7 x), .long (r64 z 8 x), .long (r64 z 9 x), .long v, .long (r64 z 11 x)])) := by
  funext a
  by_cases ha : a = x
  · subst ha; simp [cel, va_up, w64, r32, r64, hk]
  · simp [cel, va_up, w64, r32, r64, ha]
theorem pf_0_10 (S : CallFix p m c cc nL s args gT own) (E : EWF ev) (hK : KK ev s) (hP : Wd ev z H) (hS : SS ev s H locs) (hx : isK ev 0 x) {v : Int64} (hlink : Cond.fieldLink own index "CurveFalls$Equation" "c6" "J" ∈ gT) (hdg : decode cc pc = .ok (.putfield index, 3)) (kk : ∀ (H1 : Heap) (locs1 : List Loc), Wd ev (w64 z 10 x v) H1 → SS ev s H1 locs1 → W p l e R s m args below meth c H1 locs1 cells slots Q (F0 m (pc + 3) ls rest)) : W p l e R s m args below meth c H locs cells slots Q (F0 m pc ls (.long v :: .ref x :: rest)) := by
  refine pm_put S (E_nd E) hK hP hS (at_0 z hx) gX0 tyX0 tyX0_ok nmX0 (k := 10) rfl (by decide) hlink rfl rfl rfl rfl (by show 10 < 12; decide) rfl hdg (fun H1 locs1 h1 h2 => kk H1 locs1 ?_ h2)
  show va_P (eD ev) vwCl (va_pl (eL ev) (cel ev (w64 z 10 x v))) H1
  rw [up_0_10 hx.2]
  exact h1
theorem gf_0_11 (S : CallFix p m c cc nL s args gT own) (hK : KK ev s) (hP : Wd ev z H) (hx : isK ev 0 x) (hlink : Cond.fieldLink own index "CurveFalls$Equation" "disc" "J" ∈ gT) (hdg : decode cc pc = .ok (.getfield index, 3)) (kk : W p l e R s m args below meth c H locs cells slots Q (F0 m (pc + 3) ls (.long (r64 z 11 x) :: rest))) : W p l e R s m args below meth c H locs cells slots Q (F0 m pc ls (.ref x :: rest)) := pm_get S hK hP (at_0 z hx) gX0 (k := 11) rfl (by decide) hlink rfl rfl hdg kk
theorem up_0_11 (hk : eK ev x = 0) (v : Int64) : cel ev (w64 z 11 x v) = va_up (cel ev z) x (.inr (0, [.long (r64 z 0 x), .long (r64 z 1 x), .long (r64 z 2 x), .long (r64 z 3 x), .long (r64 z 4 x), .long (r64 z 5 x), .long (r64 z 6 x), .long (r64 z 7 x), .long (r64 z 8 x), .long (r64 z 9 x), .long (r64 z 10 x), .long v])) := by
  funext a
  by_cases ha : a = x
  · subst ha; simp [cel, va_up, w64, r32, r64, hk]
  · simp [cel, va_up, w64, r32, r64, ha]
theorem pf_0_11 (S : CallFix p m c cc nL s args gT own) (E : EWF ev) (hK : KK ev s) (hP : Wd ev z H) (hS : SS ev s H locs) (hx : isK ev 0 x) {v : Int64} (hlink : Cond.fieldLink own index "CurveFalls$Equation" "disc" "J" ∈ gT) (hdg : decode cc pc = .ok (.putfield index, 3)) (kk : ∀ (H1 : Heap) (locs1 : List Loc), Wd ev (w64 z 11 x v) H1 → SS ev s H1 locs1 → W p l e R s m args below meth c H1 locs1 cells slots Q (F0 m (pc + 3) ls rest)) : W p l e R s m args below meth c H locs cells slots Q (F0 m pc ls (.long v :: .ref x :: rest)) := by
  refine pm_put S (E_nd E) hK hP hS (at_0 z hx) gX0 tyX0 tyX0_ok nmX0 (k := 11) rfl (by decide) hlink rfl rfl rfl rfl (by show 11 < 12; decide) rfl hdg (fun H1 locs1 h1 h2 => kk H1 locs1 ?_ h2)
  show va_P (eD ev) vwCl (va_pl (eL ev) (cel ev (w64 z 11 x v))) H1
  rw [up_0_11 hx.2]
  exact h1
theorem gf_1_0 (S : CallFix p m c cc nL s args gT own) (hK : KK ev s) (hP : Wd ev z H) (hx : isK ev 1 x) (hlink : Cond.fieldLink own index "CurveFalls$Fall" "kind" "I" ∈ gT) (hdg : decode cc pc = .ok (.getfield index, 3)) (kk : W p l e R s m args below meth c H locs cells slots Q (F0 m (pc + 3) ls (.int (r32 z 20 x) :: rest))) : W p l e R s m args below meth c H locs cells slots Q (F0 m pc ls (.ref x :: rest)) := pm_get S hK hP (at_1 z hx) gX1 (k := 0) rfl (by decide) hlink rfl rfl hdg kk
theorem up_1_0 (hk : eK ev x = 1) (v : Int32) : cel ev (w32 z 20 x v) = va_up (cel ev z) x (.inr (1, [.int v, .int (r32 z 21 x), .int (r32 z 22 x), .int (r32 z 23 x), .int (r32 z 24 x), .int (r32 z 25 x), .int (r32 z 26 x), .ref (rf ev 27 x), .int (r32 z 28 x)])) := by
  funext a
  by_cases ha : a = x
  · subst ha; simp [cel, va_up, w32, r32, r64, hk]
  · simp [cel, va_up, w32, r32, r64, ha]
theorem pf_1_0 (S : CallFix p m c cc nL s args gT own) (E : EWF ev) (hK : KK ev s) (hP : Wd ev z H) (hS : SS ev s H locs) (hx : isK ev 1 x) {v : Int32} (hlink : Cond.fieldLink own index "CurveFalls$Fall" "kind" "I" ∈ gT) (hdg : decode cc pc = .ok (.putfield index, 3)) (kk : ∀ (H1 : Heap) (locs1 : List Loc), Wd ev (w32 z 20 x v) H1 → SS ev s H1 locs1 → W p l e R s m args below meth c H1 locs1 cells slots Q (F0 m (pc + 3) ls rest)) : W p l e R s m args below meth c H locs cells slots Q (F0 m pc ls (.int v :: .ref x :: rest)) := by
  refine pm_put S (E_nd E) hK hP hS (at_1 z hx) gX1 tyX1 tyX1_ok nmX1 (k := 0) rfl (by decide) hlink rfl rfl rfl rfl (by show 0 < 9; decide) rfl hdg (fun H1 locs1 h1 h2 => kk H1 locs1 ?_ h2)
  show va_P (eD ev) vwCl (va_pl (eL ev) (cel ev (w32 z 20 x v))) H1
  rw [up_1_0 hx.2]
  exact h1
theorem gf_1_1 (S : CallFix p m c cc nL s args gT own) (hK : KK ev s) (hP : Wd ev z H) (hx : isK ev 1 x) (hlink : Cond.fieldLink own index "CurveFalls$Fall" "index" "I" ∈ gT) (hdg : decode cc pc = .ok (.getfield index, 3)) (kk : W p l e R s m args below meth c H locs cells slots Q (F0 m (pc + 3) ls (.int (r32 z 21 x) :: rest))) : W p l e R s m args below meth c H locs cells slots Q (F0 m pc ls (.ref x :: rest)) := pm_get S hK hP (at_1 z hx) gX1 (k := 1) rfl (by decide) hlink rfl rfl hdg kk
theorem up_1_1 (hk : eK ev x = 1) (v : Int32) : cel ev (w32 z 21 x v) = va_up (cel ev z) x (.inr (1, [.int (r32 z 20 x), .int v, .int (r32 z 22 x), .int (r32 z 23 x), .int (r32 z 24 x), .int (r32 z 25 x), .int (r32 z 26 x), .ref (rf ev 27 x), .int (r32 z 28 x)])) := by
  funext a
  by_cases ha : a = x
  · subst ha; simp [cel, va_up, w32, r32, r64, hk]
  · simp [cel, va_up, w32, r32, r64, ha]
theorem pf_1_1 (S : CallFix p m c cc nL s args gT own) (E : EWF ev) (hK : KK ev s) (hP : Wd ev z H) (hS : SS ev s H locs) (hx : isK ev 1 x) {v : Int32} (hlink : Cond.fieldLink own index "CurveFalls$Fall" "index" "I" ∈ gT) (hdg : decode cc pc = .ok (.putfield index, 3)) (kk : ∀ (H1 : Heap) (locs1 : List Loc), Wd ev (w32 z 21 x v) H1 → SS ev s H1 locs1 → W p l e R s m args below meth c H1 locs1 cells slots Q (F0 m (pc + 3) ls rest)) : W p l e R s m args below meth c H locs cells slots Q (F0 m pc ls (.int v :: .ref x :: rest)) := by
  refine pm_put S (E_nd E) hK hP hS (at_1 z hx) gX1 tyX1 tyX1_ok nmX1 (k := 1) rfl (by decide) hlink rfl rfl rfl rfl (by show 1 < 9; decide) rfl hdg (fun H1 locs1 h1 h2 => kk H1 locs1 ?_ h2)
  show va_P (eD ev) vwCl (va_pl (eL ev) (cel ev (w32 z 21 x v))) H1
  rw [up_1_1 hx.2]
  exact h1
theorem gf_1_2 (S : CallFix p m c cc nL s args gT own) (hK : KK ev s) (hP : Wd ev z H) (hx : isK ev 1 x) (hlink : Cond.fieldLink own index "CurveFalls$Fall" "exponent" "I" ∈ gT) (hdg : decode cc pc = .ok (.getfield index, 3)) (kk : W p l e R s m args below meth c H locs cells slots Q (F0 m (pc + 3) ls (.int (r32 z 22 x) :: rest))) : W p l e R s m args below meth c H locs cells slots Q (F0 m pc ls (.ref x :: rest)) := pm_get S hK hP (at_1 z hx) gX1 (k := 2) rfl (by decide) hlink rfl rfl hdg kk
theorem up_1_2 (hk : eK ev x = 1) (v : Int32) : cel ev (w32 z 22 x v) = va_up (cel ev z) x (.inr (1, [.int (r32 z 20 x), .int (r32 z 21 x), .int v, .int (r32 z 23 x), .int (r32 z 24 x), .int (r32 z 25 x), .int (r32 z 26 x), .ref (rf ev 27 x), .int (r32 z 28 x)])) := by
  funext a
  by_cases ha : a = x
  · subst ha; simp [cel, va_up, w32, r32, r64, hk]
  · simp [cel, va_up, w32, r32, r64, ha]
theorem pf_1_2 (S : CallFix p m c cc nL s args gT own) (E : EWF ev) (hK : KK ev s) (hP : Wd ev z H) (hS : SS ev s H locs) (hx : isK ev 1 x) {v : Int32} (hlink : Cond.fieldLink own index "CurveFalls$Fall" "exponent" "I" ∈ gT) (hdg : decode cc pc = .ok (.putfield index, 3)) (kk : ∀ (H1 : Heap) (locs1 : List Loc), Wd ev (w32 z 22 x v) H1 → SS ev s H1 locs1 → W p l e R s m args below meth c H1 locs1 cells slots Q (F0 m (pc + 3) ls rest)) : W p l e R s m args below meth c H locs cells slots Q (F0 m pc ls (.int v :: .ref x :: rest)) := by
  refine pm_put S (E_nd E) hK hP hS (at_1 z hx) gX1 tyX1 tyX1_ok nmX1 (k := 2) rfl (by decide) hlink rfl rfl rfl rfl (by show 2 < 9; decide) rfl hdg (fun H1 locs1 h1 h2 => kk H1 locs1 ?_ h2)
  show va_P (eD ev) vwCl (va_pl (eL ev) (cel ev (w32 z 22 x v))) H1
  rw [up_1_2 hx.2]
  exact h1
theorem gf_1_3 (S : CallFix p m c cc nL s args gT own) (hK : KK ev s) (hP : Wd ev z H) (hx : isK ev 1 x) (hlink : Cond.fieldLink own index "CurveFalls$Fall" "components" "I" ∈ gT) (hdg : decode cc pc = .ok (.getfield index, 3)) (kk : W p l e R s m args below meth c H locs cells slots Q (F0 m (pc + 3) ls (.int (r32 z 23 x) :: rest))) : W p l e R s m args below meth c H locs cells slots Q (F0 m pc ls (.ref x :: rest)) := pm_get S hK hP (at_1 z hx) gX1 (k := 3) rfl (by decide) hlink rfl rfl hdg kk
theorem up_1_3 (hk : eK ev x = 1) (v : Int32) : cel ev (w32 z 23 x v) = va_up (cel ev z) x (.inr (1, [.int (r32 z 20 x), .int (r32 z 21 x), .int (r32 z 22 x), .int v, .int (r32 z 24 x), .int (r32 z 25 x), .int (r32 z 26 x), .ref (rf ev 27 x), .int (r32 z 28 x)])) := by
  funext a
  by_cases ha : a = x
  · subst ha; simp [cel, va_up, w32, r32, r64, hk]
  · simp [cel, va_up, w32, r32, r64, ha]
theorem pf_1_3 (S : CallFix p m c cc nL s args gT own) (E : EWF ev) (hK : KK ev s) (hP : Wd ev z H) (hS : SS ev s H locs) (hx : isK ev 1 x) {v : Int32} (hlink : Cond.fieldLink own index "CurveFalls$Fall" "components" "I" ∈ gT) (hdg : decode cc pc = .ok (.putfield index, 3)) (kk : ∀ (H1 : Heap) (locs1 : List Loc), Wd ev (w32 z 23 x v) H1 → SS ev s H1 locs1 → W p l e R s m args below meth c H1 locs1 cells slots Q (F0 m (pc + 3) ls rest)) : W p l e R s m args below meth c H locs cells slots Q (F0 m pc ls (.int v :: .ref x :: rest)) := by
  refine pm_put S (E_nd E) hK hP hS (at_1 z hx) gX1 tyX1 tyX1_ok nmX1 (k := 3) rfl (by decide) hlink rfl rfl rfl rfl (by show 3 < 9; decide) rfl hdg (fun H1 locs1 h1 h2 => kk H1 locs1 ?_ h2)
  show va_P (eD ev) vwCl (va_pl (eL ev) (cel ev (w32 z 23 x v))) H1
  rw [up_1_3 hx.2]
  exact h1
theorem gf_1_4 (S : CallFix p m c cc nL s args gT own) (hK : KK ev s) (hP : Wd ev z H) (hx : isK ev 1 x) (hlink : Cond.fieldLink own index "CurveFalls$Fall" "owned" "I" ∈ gT) (hdg : decode cc pc = .ok (.getfield index, 3)) (kk : W p l e R s m args below meth c H locs cells slots Q (F0 m (pc + 3) ls (.int (r32 z 24 x) :: rest))) : W p l e R s m args below meth c H locs cells slots Q (F0 m pc ls (.ref x :: rest)) := pm_get S hK hP (at_1 z hx) gX1 (k := 4) rfl (by decide) hlink rfl rfl hdg kk
theorem up_1_4 (hk : eK ev x = 1) (v : Int32) : cel ev (w32 z 24 x v) = va_up (cel ev z) x (.inr (1, [.int (r32 z 20 x), .int (r32 z 21 x), .int (r32 z 22 x), .int (r32 z 23 x), .int v, .int (r32 z 25 x), .int (r32 z 26 x), .ref (rf ev 27 x), .int (r32 z 28 x)])) := by
  funext a
  by_cases ha : a = x
  · subst ha; simp [cel, va_up, w32, r32, r64, hk]
  · simp [cel, va_up, w32, r32, r64, ha]
theorem pf_1_4 (S : CallFix p m c cc nL s args gT own) (E : EWF ev) (hK : KK ev s) (hP : Wd ev z H) (hS : SS ev s H locs) (hx : isK ev 1 x) {v : Int32} (hlink : Cond.fieldLink own index "CurveFalls$Fall" "owned" "I" ∈ gT) (hdg : decode cc pc = .ok (.putfield index, 3)) (kk : ∀ (H1 : Heap) (locs1 : List Loc), Wd ev (w32 z 24 x v) H1 → SS ev s H1 locs1 → W p l e R s m args below meth c H1 locs1 cells slots Q (F0 m (pc + 3) ls rest)) : W p l e R s m args below meth c H locs cells slots Q (F0 m pc ls (.int v :: .ref x :: rest)) := by
  refine pm_put S (E_nd E) hK hP hS (at_1 z hx) gX1 tyX1 tyX1_ok nmX1 (k := 4) rfl (by decide) hlink rfl rfl rfl rfl (by show 4 < 9; decide) rfl hdg (fun H1 locs1 h1 h2 => kk H1 locs1 ?_ h2)
  show va_P (eD ev) vwCl (va_pl (eL ev) (cel ev (w32 z 24 x v))) H1
  rw [up_1_4 hx.2]
  exact h1
theorem gf_1_5 (S : CallFix p m c cc nL s args gT own) (hK : KK ev s) (hP : Wd ev z H) (hx : isK ev 1 x) (hlink : Cond.fieldLink own index "CurveFalls$Fall" "times" "I" ∈ gT) (hdg : decode cc pc = .ok (.getfield index, 3)) (kk : W p l e R s m args below meth c H locs cells slots Q (F0 m (pc + 3) ls (.int (r32 z 25 x) :: rest))) : W p l e R s m args below meth c H locs cells slots Q (F0 m pc ls (.ref x :: rest)) := pm_get S hK hP (at_1 z hx) gX1 (k := 5) rfl (by decide) hlink rfl rfl hdg kk
theorem up_1_5 (hk : eK ev x = 1) (v : Int32) : cel ev (w32 z 25 x v) = va_up (cel ev z) x (.inr (1, [.int (r32 z 20 x), .int (r32 z 21 x), .int (r32 z 22 x), .int (r32 z 23 x), .int (r32 z 24 x), .int v, .int (r32 z 26 x), .ref (rf ev 27 x), .int (r32 z 28 x)])) := by
  funext a
  by_cases ha : a = x
  · subst ha; simp [cel, va_up, w32, r32, r64, hk]
  · simp [cel, va_up, w32, r32, r64, ha]
theorem pf_1_5 (S : CallFix p m c cc nL s args gT own) (E : EWF ev) (hK : KK ev s) (hP : Wd ev z H) (hS : SS ev s H locs) (hx : isK ev 1 x) {v : Int32} (hlink : Cond.fieldLink own index "CurveFalls$Fall" "times" "I" ∈ gT) (hdg : decode cc pc = .ok (.putfield index, 3)) (kk : ∀ (H1 : Heap) (locs1 : List Loc), Wd ev (w32 z 25 x v) H1 → SS ev s H1 locs1 → W p l e R s m args below meth c H1 locs1 cells slots Q (F0 m (pc + 3) ls rest)) : W p l e R s m args below meth c H locs cells slots Q (F0 m pc ls (.int v :: .ref x :: rest)) := by
  refine pm_put S (E_nd E) hK hP hS (at_1 z hx) gX1 tyX1 tyX1_ok nmX1 (k := 5) rfl (by decide) hlink rfl rfl rfl rfl (by show 5 < 9; decide) rfl hdg (fun H1 locs1 h1 h2 => kk H1 locs1 ?_ h2)
  show va_P (eD ev) vwCl (va_pl (eL ev) (cel ev (w32 z 25 x v))) H1
  rw [up_1_5 hx.2]
  exact h1
theorem gf_1_6 (S : CallFix p m c cc nL s args gT own) (hK : KK ev s) (hP : Wd ev z H) (hx : isK ev 1 x) (hlink : Cond.fieldLink own index "CurveFalls$Fall" "split" "Z" ∈ gT) (hdg : decode cc pc = .ok (.getfield index, 3)) (kk : W p l e R s m args below meth c H locs cells slots Q (F0 m (pc + 3) ls (.int (r32 z 26 x) :: rest))) : W p l e R s m args below meth c H locs cells slots Q (F0 m pc ls (.ref x :: rest)) := pm_get S hK hP (at_1 z hx) gX1 (k := 6) rfl (by decide) hlink rfl rfl hdg kk
theorem up_1_6 (hk : eK ev x = 1) (v : Int32) : cel ev (w32 z 26 x v) = va_up (cel ev z) x (.inr (1, [.int (r32 z 20 x), .int (r32 z 21 x), .int (r32 z 22 x), .int (r32 z 23 x), .int (r32 z 24 x), .int (r32 z 25 x), .int v, .ref (rf ev 27 x), .int (r32 z 28 x)])) := by
  funext a
  by_cases ha : a = x
  · subst ha; simp [cel, va_up, w32, r32, r64, hk]
  · simp [cel, va_up, w32, r32, r64, ha]
theorem pf_1_6 (S : CallFix p m c cc nL s args gT own) (E : EWF ev) (hK : KK ev s) (hP : Wd ev z H) (hS : SS ev s H locs) (hx : isK ev 1 x) {v : Int32} (hz : v = 0 ∨ v = 1) (hlink : Cond.fieldLink own index "CurveFalls$Fall" "split" "Z" ∈ gT) (hdg : decode cc pc = .ok (.putfield index, 3)) (kk : ∀ (H1 : Heap) (locs1 : List Loc), Wd ev (w32 z 26 x v) H1 → SS ev s H1 locs1 → W p l e R s m args below meth c H1 locs1 cells slots Q (F0 m (pc + 3) ls rest)) : W p l e R s m args below meth c H locs cells slots Q (F0 m pc ls (.int v :: .ref x :: rest)) := by
  refine pm_put S (E_nd E) hK hP hS (at_1 z hx) gX1 tyX1 tyX1_ok nmX1 (k := 6) rfl (by decide) hlink rfl rfl (by rcases hz with h | h <;> rw [h] <;> decide) (by rcases hz with h | h <;> rw [h] <;> decide) (by show 6 < 9; decide) rfl hdg (fun H1 locs1 h1 h2 => kk H1 locs1 ?_ h2)
  show va_P (eD ev) vwCl (va_pl (eL ev) (cel ev (w32 z 26 x v))) H1
  rw [up_1_6 hx.2]
  exact h1
theorem gf_1_7 (S : CallFix p m c cc nL s args gT own) (hK : KK ev s) (hP : Wd ev z H) (hx : isK ev 1 x) (hlink : Cond.fieldLink own index "CurveFalls$Fall" "work" "LCurveFalls$Equation;" ∈ gT) (hdg : decode cc pc = .ok (.getfield index, 3)) (kk : W p l e R s m args below meth c H locs cells slots Q (F0 m (pc + 3) ls (.ref (rf ev 27 x) :: rest))) : W p l e R s m args below meth c H locs cells slots Q (F0 m pc ls (.ref x :: rest)) := pm_get S hK hP (at_1 z hx) gX1 (k := 7) rfl (by decide) hlink rfl rfl hdg kk
theorem gf_1_8 (S : CallFix p m c cc nL s args gT own) (hK : KK ev s) (hP : Wd ev z H) (hx : isK ev 1 x) (hlink : Cond.fieldLink own index "CurveFalls$Fall" "p" "I" ∈ gT) (hdg : decode cc pc = .ok (.getfield index, 3)) (kk : W p l e R s m args below meth c H locs cells slots Q (F0 m (pc + 3) ls (.int (r32 z 28 x) :: rest))) : W p l e R s m args below meth c H locs cells slots Q (F0 m pc ls (.ref x :: rest)) := pm_get S hK hP (at_1 z hx) gX1 (k := 8) rfl (by decide) hlink rfl rfl hdg kk
theorem up_1_8 (hk : eK ev x = 1) (v : Int32) : cel ev (w32 z 28 x v) = va_up (cel ev z) x (.inr (1, [.int (r32 z 20 x), .int (r32 z 21 x), .int (r32 z 22 x), .int (r32 z 23 x), .int (r32 z 24 x), .int (r32 z 25 x), .int (r32 z 26 x), .ref (rf ev 27 x), .int v])) := by
  funext a
  by_cases ha : a = x
  · subst ha; simp [cel, va_up, w32, r32, r64, hk]
  · simp [cel, va_up, w32, r32, r64, ha]
theorem pf_1_8 (S : CallFix p m c cc nL s args gT own) (E : EWF ev) (hK : KK ev s) (hP : Wd ev z H) (hS : SS ev s H locs) (hx : isK ev 1 x) {v : Int32} (hlink : Cond.fieldLink own index "CurveFalls$Fall" "p" "I" ∈ gT) (hdg : decode cc pc = .ok (.putfield index, 3)) (kk : ∀ (H1 : Heap) (locs1 : List Loc), Wd ev (w32 z 28 x v) H1 → SS ev s H1 locs1 → W p l e R s m args below meth c H1 locs1 cells slots Q (F0 m (pc + 3) ls rest)) : W p l e R s m args below meth c H locs cells slots Q (F0 m pc ls (.int v :: .ref x :: rest)) := by
  refine pm_put S (E_nd E) hK hP hS (at_1 z hx) gX1 tyX1 tyX1_ok nmX1 (k := 8) rfl (by decide) hlink rfl rfl rfl rfl (by show 8 < 9; decide) rfl hdg (fun H1 locs1 h1 h2 => kk H1 locs1 ?_ h2)
  show va_P (eD ev) vwCl (va_pl (eL ev) (cel ev (w32 z 28 x v))) H1
  rw [up_1_8 hx.2]
  exact h1
theorem gf_2_0 (S : CallFix p m c cc nL s args gT own) (hK : KK ev s) (hP : Wd ev z H) (hx : isK ev 2 x) (hlink : Cond.fieldLink own index "CurveFalls$Held" "own" "LCurveFalls$Equation;" ∈ gT) (hdg : decode cc pc = .ok (.getfield index, 3)) (kk : W p l e R s m args below meth c H locs cells slots Q (F0 m (pc + 3) ls (.ref (rf ev 40 x) :: rest))) : W p l e R s m args below meth c H locs cells slots Q (F0 m pc ls (.ref x :: rest)) := pm_get S hK hP (at_2 z hx) gX2 (k := 0) rfl (by decide) hlink rfl rfl hdg kk
theorem gf_2_1 (S : CallFix p m c cc nL s args gT own) (hK : KK ev s) (hP : Wd ev z H) (hx : isK ev 2 x) (hlink : Cond.fieldLink own index "CurveFalls$Held" "least" "LCurveFalls$Equation;" ∈ gT) (hdg : decode cc pc = .ok (.getfield index, 3)) (kk : W p l e R s m args below meth c H locs cells slots Q (F0 m (pc + 3) ls (.ref (rf ev 41 x) :: rest))) : W p l e R s m args below meth c H locs cells slots Q (F0 m pc ls (.ref x :: rest)) := pm_get S hK hP (at_2 z hx) gX2 (k := 1) rfl (by decide) hlink rfl rfl hdg kk
theorem gf_2_2 (S : CallFix p m c cc nL s args gT own) (hK : KK ev s) (hP : Wd ev z H) (hx : isK ev 2 x) (hlink : Cond.fieldLink own index "CurveFalls$Held" "scale" "J" ∈ gT) (hdg : decode cc pc = .ok (.getfield index, 3)) (kk : W p l e R s m args below meth c H locs cells slots Q (F0 m (pc + 3) ls (.long (r64 z 42 x) :: rest))) : W p l e R s m args below meth c H locs cells slots Q (F0 m pc ls (.ref x :: rest)) := pm_get S hK hP (at_2 z hx) gX2 (k := 2) rfl (by decide) hlink rfl rfl hdg kk
theorem up_2_2 (hk : eK ev x = 2) (v : Int64) : cel ev (w64 z 42 x v) = va_up (cel ev z) x (.inr (2, [.ref (rf ev 40 x), .ref (rf ev 41 x), .long v, .ref (rf ev 43 x), .int (r32 z 44 x)])) := by
  funext a
  by_cases ha : a = x
  · subst ha; simp [cel, va_up, w64, r32, r64, hk]
  · simp [cel, va_up, w64, r32, r64, ha]
theorem pf_2_2 (S : CallFix p m c cc nL s args gT own) (E : EWF ev) (hK : KK ev s) (hP : Wd ev z H) (hS : SS ev s H locs) (hx : isK ev 2 x) {v : Int64} (hlink : Cond.fieldLink own index "CurveFalls$Held" "scale" "J" ∈ gT) (hdg : decode cc pc = .ok (.putfield index, 3)) (kk : ∀ (H1 : Heap) (locs1 : List Loc), Wd ev (w64 z 42 x v) H1 → SS ev s H1 locs1 → W p l e R s m args below meth c H1 locs1 cells slots Q (F0 m (pc + 3) ls rest)) : W p l e R s m args below meth c H locs cells slots Q (F0 m pc ls (.long v :: .ref x :: rest)) := by
  refine pm_put S (E_nd E) hK hP hS (at_2 z hx) gX2 tyX2 tyX2_ok nmX2 (k := 2) rfl (by decide) hlink rfl rfl rfl rfl (by show 2 < 5; decide) rfl hdg (fun H1 locs1 h1 h2 => kk H1 locs1 ?_ h2)
  show va_P (eD ev) vwCl (va_pl (eL ev) (cel ev (w64 z 42 x v))) H1
  rw [up_2_2 hx.2]
  exact h1
theorem gf_2_3 (S : CallFix p m c cc nL s args gT own) (hK : KK ev s) (hP : Wd ev z H) (hx : isK ev 2 x) (hlink : Cond.fieldLink own index "CurveFalls$Held" "primes" "LCurveFalls$Primes;" ∈ gT) (hdg : decode cc pc = .ok (.getfield index, 3)) (kk : W p l e R s m args below meth c H locs cells slots Q (F0 m (pc + 3) ls (.ref (rf ev 43 x) :: rest))) : W p l e R s m args below meth c H locs cells slots Q (F0 m pc ls (.ref x :: rest)) := pm_get S hK hP (at_2 z hx) gX2 (k := 3) rfl (by decide) hlink rfl rfl hdg kk
theorem gf_2_4 (S : CallFix p m c cc nL s args gT own) (hK : KK ev s) (hP : Wd ev z H) (hx : isK ev 2 x) (hlink : Cond.fieldLink own index "CurveFalls$Held" "primesKnown" "Z" ∈ gT) (hdg : decode cc pc = .ok (.getfield index, 3)) (kk : W p l e R s m args below meth c H locs cells slots Q (F0 m (pc + 3) ls (.int (r32 z 44 x) :: rest))) : W p l e R s m args below meth c H locs cells slots Q (F0 m pc ls (.ref x :: rest)) := pm_get S hK hP (at_2 z hx) gX2 (k := 4) rfl (by decide) hlink rfl rfl hdg kk
theorem up_2_4 (hk : eK ev x = 2) (v : Int32) : cel ev (w32 z 44 x v) = va_up (cel ev z) x (.inr (2, [.ref (rf ev 40 x), .ref (rf ev 41 x), .long (r64 z 42 x), .ref (rf ev 43 x), .int v])) := by
  funext a
  by_cases ha : a = x
  · subst ha; simp [cel, va_up, w32, r32, r64, hk]
  · simp [cel, va_up, w32, r32, r64, ha]
theorem pf_2_4 (S : CallFix p m c cc nL s args gT own) (E : EWF ev) (hK : KK ev s) (hP : Wd ev z H) (hS : SS ev s H locs) (hx : isK ev 2 x) {v : Int32} (hz : v = 0 ∨ v = 1) (hlink : Cond.fieldLink own index "CurveFalls$Held" "primesKnown" "Z" ∈ gT) (hdg : decode cc pc = .ok (.putfield index, 3)) (kk : ∀ (H1 : Heap) (locs1 : List Loc), Wd ev (w32 z 44 x v) H1 → SS ev s H1 locs1 → W p l e R s m args below meth c H1 locs1 cells slots Q (F0 m (pc + 3) ls rest)) : W p l e R s m args below meth c H locs cells slots Q (F0 m pc ls (.int v :: .ref x :: rest)) := by
  refine pm_put S (E_nd E) hK hP hS (at_2 z hx) gX2 tyX2 tyX2_ok nmX2 (k := 4) rfl (by decide) hlink rfl rfl (by rcases hz with h | h <;> rw [h] <;> decide) (by rcases hz with h | h <;> rw [h] <;> decide) (by show 4 < 5; decide) rfl hdg (fun H1 locs1 h1 h2 => kk H1 locs1 ?_ h2)
  show va_P (eD ev) vwCl (va_pl (eL ev) (cel ev (w32 z 44 x v))) H1
  rw [up_2_4 hx.2]
  exact h1
theorem gf_3_0 (S : CallFix p m c cc nL s args gT own) (hK : KK ev s) (hP : Wd ev z H) (hx : isK ev 3 x) (hlink : Cond.fieldLink own index "CurveFalls$Primes" "row" "[I" ∈ gT) (hdg : decode cc pc = .ok (.getfield index, 3)) (kk : W p l e R s m args below meth c H locs cells slots Q (F0 m (pc + 3) ls (.ref (rf ev 60 x) :: rest))) : W p l e R s m args below meth c H locs cells slots Q (F0 m pc ls (.ref x :: rest)) := pm_get S hK hP (at_3 z hx) gX5 (k := 0) rfl (by decide) hlink rfl rfl hdg kk
theorem gf_3_1 (S : CallFix p m c cc nL s args gT own) (hK : KK ev s) (hP : Wd ev z H) (hx : isK ev 3 x) (hlink : Cond.fieldLink own index "CurveFalls$Primes" "many" "I" ∈ gT) (hdg : decode cc pc = .ok (.getfield index, 3)) (kk : W p l e R s m args below meth c H locs cells slots Q (F0 m (pc + 3) ls (.int (r32 z 61 x) :: rest))) : W p l e R s m args below meth c H locs cells slots Q (F0 m pc ls (.ref x :: rest)) := pm_get S hK hP (at_3 z hx) gX5 (k := 1) rfl (by decide) hlink rfl rfl hdg kk
theorem up_3_1 (hk : eK ev x = 3) (v : Int32) : cel ev (w32 z 61 x v) = va_up (cel ev z) x (.inr (3, [.ref (rf ev 60 x), .int v])) := by
  funext a
  by_cases ha : a = x
  · subst ha; simp [cel, va_up, w32, r32, r64, hk]
  · simp [cel, va_up, w32, r32, r64, ha]
theorem pf_3_1 (S : CallFix p m c cc nL s args gT own) (E : EWF ev) (hK : KK ev s) (hP : Wd ev z H) (hS : SS ev s H locs) (hx : isK ev 3 x) {v : Int32} (hlink : Cond.fieldLink own index "CurveFalls$Primes" "many" "I" ∈ gT) (hdg : decode cc pc = .ok (.putfield index, 3)) (kk : ∀ (H1 : Heap) (locs1 : List Loc), Wd ev (w32 z 61 x v) H1 → SS ev s H1 locs1 → W p l e R s m args below meth c H1 locs1 cells slots Q (F0 m (pc + 3) ls rest)) : W p l e R s m args below meth c H locs cells slots Q (F0 m pc ls (.int v :: .ref x :: rest)) := by
  refine pm_put S (E_nd E) hK hP hS (at_3 z hx) gX5 tyX5 tyX5_ok nmX5 (k := 1) rfl (by decide) hlink rfl rfl rfl rfl (by show 1 < 2; decide) rfl hdg (fun H1 locs1 h1 h2 => kk H1 locs1 ?_ h2)
  show va_P (eD ev) vwCl (va_pl (eL ev) (cel ev (w32 z 61 x v))) H1
  rw [up_3_1 hx.2]
  exact h1
theorem gf_4_0 (S : CallFix p m c cc nL s args gT own) (hK : KK ev s) (hP : Wd ev z H) (hx : isK ev 4 x) (hlink : Cond.fieldLink own index "CurveFalls$SmallPoints" "xs" "[I" ∈ gT) (hdg : decode cc pc = .ok (.getfield index, 3)) (kk : W p l e R s m args below meth c H locs cells slots Q (F0 m (pc + 3) ls (.ref (rf ev 80 x) :: rest))) : W p l e R s m args below meth c H locs cells slots Q (F0 m pc ls (.ref x :: rest)) := pm_get S hK hP (at_4 z hx) gX6 (k := 0) rfl (by decide) hlink rfl rfl hdg kk
theorem gf_4_1 (S : CallFix p m c cc nL s args gT own) (hK : KK ev s) (hP : Wd ev z H) (hx : isK ev 4 x) (hlink : Cond.fieldLink own index "CurveFalls$SmallPoints" "ys" "[I" ∈ gT) (hdg : decode cc pc = .ok (.getfield index, 3)) (kk : W p l e R s m args below meth c H locs cells slots Q (F0 m (pc + 3) ls (.ref (rf ev 81 x) :: rest))) : W p l e R s m args below meth c H locs cells slots Q (F0 m pc ls (.ref x :: rest)) := pm_get S hK hP (at_4 z hx) gX6 (k := 1) rfl (by decide) hlink rfl rfl hdg kk
theorem gf_4_2 (S : CallFix p m c cc nL s args gT own) (hK : KK ev s) (hP : Wd ev z H) (hx : isK ev 4 x) (hlink : Cond.fieldLink own index "CurveFalls$SmallPoints" "many" "I" ∈ gT) (hdg : decode cc pc = .ok (.getfield index, 3)) (kk : W p l e R s m args below meth c H locs cells slots Q (F0 m (pc + 3) ls (.int (r32 z 82 x) :: rest))) : W p l e R s m args below meth c H locs cells slots Q (F0 m pc ls (.ref x :: rest)) := pm_get S hK hP (at_4 z hx) gX6 (k := 2) rfl (by decide) hlink rfl rfl hdg kk
theorem up_4_2 (hk : eK ev x = 4) (v : Int32) : cel ev (w32 z 82 x v) = va_up (cel ev z) x (.inr (4, [.ref (rf ev 80 x), .ref (rf ev 81 x), .int v])) := by
  funext a
  by_cases ha : a = x
  · subst ha; simp [cel, va_up, w32, r32, r64, hk]
  · simp [cel, va_up, w32, r32, r64, ha]
theorem pf_4_2 (S : CallFix p m c cc nL s args gT own) (E : EWF ev) (hK : KK ev s) (hP : Wd ev z H) (hS : SS ev s H locs) (hx : isK ev 4 x) {v : Int32} (hlink : Cond.fieldLink own index "CurveFalls$SmallPoints" "many" "I" ∈ gT) (hdg : decode cc pc = .ok (.putfield index, 3)) (kk : ∀ (H1 : Heap) (locs1 : List Loc), Wd ev (w32 z 82 x v) H1 → SS ev s H1 locs1 → W p l e R s m args below meth c H1 locs1 cells slots Q (F0 m (pc + 3) ls rest)) : W p l e R s m args below meth c H locs cells slots Q (F0 m pc ls (.int v :: .ref x :: rest)) := by
  refine pm_put S (E_nd E) hK hP hS (at_4 z hx) gX6 tyX6 tyX6_ok nmX6 (k := 2) rfl (by decide) hlink rfl rfl rfl rfl (by show 2 < 3; decide) rfl hdg (fun H1 locs1 h1 h2 => kk H1 locs1 ?_ h2)
  show va_P (eD ev) vwCl (va_pl (eL ev) (cel ev (w32 z 82 x v))) H1
  rw [up_4_2 hx.2]
  exact h1
theorem gf_5_0 (S : CallFix p m c cc nL s args gT own) (hK : KK ev s) (hP : Wd ev z H) (hx : isK ev 5 x) (hlink : Cond.fieldLink own index "CurveFalls" "held" "[LCurveFalls$Held;" ∈ gT) (hdg : decode cc pc = .ok (.getfield index, 3)) (kk : W p l e R s m args below meth c H locs cells slots Q (F0 m (pc + 3) ls (.ref (rf ev 100 x) :: rest))) : W p l e R s m args below meth c H locs cells slots Q (F0 m pc ls (.ref x :: rest)) := pm_get S hK hP (at_5 z hx) gX7 (k := 0) rfl (by decide) hlink rfl rfl hdg kk
theorem gf_5_1 (S : CallFix p m c cc nL s args gT own) (hK : KK ev s) (hP : Wd ev z H) (hx : isK ev 5 x) (hlink : Cond.fieldLink own index "CurveFalls" "size" "I" ∈ gT) (hdg : decode cc pc = .ok (.getfield index, 3)) (kk : W p l e R s m args below meth c H locs cells slots Q (F0 m (pc + 3) ls (.int (r32 z 101 x) :: rest))) : W p l e R s m args below meth c H locs cells slots Q (F0 m pc ls (.ref x :: rest)) := pm_get S hK hP (at_5 z hx) gX7 (k := 1) rfl (by decide) hlink rfl rfl hdg kk
theorem up_5_1 (hk : eK ev x = 5) (v : Int32) : cel ev (w32 z 101 x v) = va_up (cel ev z) x (.inr (5, [.ref (rf ev 100 x), .int v, .ref (rf ev 102 x), .ref (rf ev 103 x), .ref (rf ev 104 x), .int (r32 z 105 x), .ref (rf ev 106 x)])) := by
  funext a
  by_cases ha : a = x
  · subst ha; simp [cel, va_up, w32, r32, r64, hk]
  · simp [cel, va_up, w32, r32, r64, ha]
theorem pf_5_1 (S : CallFix p m c cc nL s args gT own) (E : EWF ev) (hK : KK ev s) (hP : Wd ev z H) (hS : SS ev s H locs) (hx : isK ev 5 x) {v : Int32} (hlink : Cond.fieldLink own index "CurveFalls" "size" "I" ∈ gT) (hdg : decode cc pc = .ok (.putfield index, 3)) (kk : ∀ (H1 : Heap) (locs1 : List Loc), Wd ev (w32 z 101 x v) H1 → SS ev s H1 locs1 → W p l e R s m args below meth c H1 locs1 cells slots Q (F0 m (pc + 3) ls rest)) : W p l e R s m args below meth c H locs cells slots Q (F0 m pc ls (.int v :: .ref x :: rest)) := by
  refine pm_put S (E_nd E) hK hP hS (at_5 z hx) gX7 tyX7 tyX7_ok nmX7 (k := 1) rfl (by decide) hlink rfl rfl rfl rfl (by show 1 < 7; decide) rfl hdg (fun H1 locs1 h1 h2 => kk H1 locs1 ?_ h2)
  show va_P (eD ev) vwCl (va_pl (eL ev) (cel ev (w32 z 101 x v))) H1
  rw [up_5_1 hx.2]
  exact h1
theorem gf_5_2 (S : CallFix p m c cc nL s args gT own) (hK : KK ev s) (hP : Wd ev z H) (hx : isK ev 5 x) (hlink : Cond.fieldLink own index "CurveFalls" "draft" "LCurveFalls$Equation;" ∈ gT) (hdg : decode cc pc = .ok (.getfield index, 3)) (kk : W p l e R s m args below meth c H locs cells slots Q (F0 m (pc + 3) ls (.ref (rf ev 102 x) :: rest))) : W p l e R s m args below meth c H locs cells slots Q (F0 m pc ls (.ref x :: rest)) := pm_get S hK hP (at_5 z hx) gX7 (k := 2) rfl (by decide) hlink rfl rfl hdg kk
theorem gf_5_3 (S : CallFix p m c cc nL s args gT own) (hK : KK ev s) (hP : Wd ev z H) (hx : isK ev 5 x) (hlink : Cond.fieldLink own index "CurveFalls" "fall" "LCurveFalls$Fall;" ∈ gT) (hdg : decode cc pc = .ok (.getfield index, 3)) (kk : W p l e R s m args below meth c H locs cells slots Q (F0 m (pc + 3) ls (.ref (rf ev 103 x) :: rest))) : W p l e R s m args below meth c H locs cells slots Q (F0 m pc ls (.ref x :: rest)) := pm_get S hK hP (at_5 z hx) gX7 (k := 3) rfl (by decide) hlink rfl rfl hdg kk
theorem gf_5_4 (S : CallFix p m c cc nL s args gT own) (hK : KK ev s) (hP : Wd ev z H) (hx : isK ev 5 x) (hlink : Cond.fieldLink own index "CurveFalls" "smallPoints" "LCurveFalls$SmallPoints;" ∈ gT) (hdg : decode cc pc = .ok (.getfield index, 3)) (kk : W p l e R s m args below meth c H locs cells slots Q (F0 m (pc + 3) ls (.ref (rf ev 104 x) :: rest))) : W p l e R s m args below meth c H locs cells slots Q (F0 m pc ls (.ref x :: rest)) := pm_get S hK hP (at_5 z hx) gX7 (k := 4) rfl (by decide) hlink rfl rfl hdg kk
theorem gf_5_5 (S : CallFix p m c cc nL s args gT own) (hK : KK ev s) (hP : Wd ev z H) (hx : isK ev 5 x) (hlink : Cond.fieldLink own index "CurveFalls" "smallPointsOf" "I" ∈ gT) (hdg : decode cc pc = .ok (.getfield index, 3)) (kk : W p l e R s m args below meth c H locs cells slots Q (F0 m (pc + 3) ls (.int (r32 z 105 x) :: rest))) : W p l e R s m args below meth c H locs cells slots Q (F0 m pc ls (.ref x :: rest)) := pm_get S hK hP (at_5 z hx) gX7 (k := 5) rfl (by decide) hlink rfl rfl hdg kk
theorem up_5_5 (hk : eK ev x = 5) (v : Int32) : cel ev (w32 z 105 x v) = va_up (cel ev z) x (.inr (5, [.ref (rf ev 100 x), .int (r32 z 101 x), .ref (rf ev 102 x), .ref (rf ev 103 x), .ref (rf ev 104 x), .int v, .ref (rf ev 106 x)])) := by
  funext a
  by_cases ha : a = x
  · subst ha; simp [cel, va_up, w32, r32, r64, hk]
  · simp [cel, va_up, w32, r32, r64, ha]
theorem pf_5_5 (S : CallFix p m c cc nL s args gT own) (E : EWF ev) (hK : KK ev s) (hP : Wd ev z H) (hS : SS ev s H locs) (hx : isK ev 5 x) {v : Int32} (hlink : Cond.fieldLink own index "CurveFalls" "smallPointsOf" "I" ∈ gT) (hdg : decode cc pc = .ok (.putfield index, 3)) (kk : ∀ (H1 : Heap) (locs1 : List Loc), Wd ev (w32 z 105 x v) H1 → SS ev s H1 locs1 → W p l e R s m args below meth c H1 locs1 cells slots Q (F0 m (pc + 3) ls rest)) : W p l e R s m args below meth c H locs cells slots Q (F0 m pc ls (.int v :: .ref x :: rest)) := by
  refine pm_put S (E_nd E) hK hP hS (at_5 z hx) gX7 tyX7 tyX7_ok nmX7 (k := 5) rfl (by decide) hlink rfl rfl rfl rfl (by show 5 < 7; decide) rfl hdg (fun H1 locs1 h1 h2 => kk H1 locs1 ?_ h2)
  show va_P (eD ev) vwCl (va_pl (eL ev) (cel ev (w32 z 105 x v))) H1
  rw [up_5_5 hx.2]
  exact h1
theorem gf_5_6 (S : CallFix p m c cc nL s args gT own) (hK : KK ev s) (hP : Wd ev z H) (hx : isK ev 5 x) (hlink : Cond.fieldLink own index "CurveFalls" "squareRoots" "[I" ∈ gT) (hdg : decode cc pc = .ok (.getfield index, 3)) (kk : W p l e R s m args below meth c H locs cells slots Q (F0 m (pc + 3) ls (.ref (rf ev 106 x) :: rest))) : W p l e R s m args below meth c H locs cells slots Q (F0 m pc ls (.ref x :: rest)) := pm_get S hK hP (at_5 z hx) gX7 (k := 6) rfl (by decide) hlink rfl rfl hdg kk
theorem gf_6_0 (S : CallFix p m c cc nL s args gT own) (hK : KK ev s) (hP : Wd ev z H) (hx : isK ev 6 x) (hlink : Cond.fieldLink own index "CurveFallsModel" "thrown" "I" ∈ gT) (hdg : decode cc pc = .ok (.getfield index, 3)) (kk : W p l e R s m args below meth c H locs cells slots Q (F0 m (pc + 3) ls (.int (r32 z 120 x) :: rest))) : W p l e R s m args below meth c H locs cells slots Q (F0 m pc ls (.ref x :: rest)) := pm_get S hK hP (at_6 z hx) gX8 (k := 0) rfl (by decide) hlink rfl rfl hdg kk
theorem up_6_0 (hk : eK ev x = 6) (v : Int32) : cel ev (w32 z 120 x v) = va_up (cel ev z) x (.inr (6, [.int v, .int (r32 z 121 x), .ref (rf ev 122 x), .ref (rf ev 123 x), .ref (rf ev 124 x), .ref (rf ev 125 x), .int (r32 z 126 x), .ref (rf ev 127 x), .long (r64 z 128 x), .ref (rf ev 129 x), .long (r64 z 130 x), .ref (rf ev 131 x), .ref (rf ev 132 x), .ref (rf ev 133 x), .ref (rf ev 134 x), .int (r32 z 135 x)])) := by
  funext a
  by_cases ha : a = x
  · subst ha; simp [cel, va_up, w32, r32, r64, hk]
  · simp [cel, va_up, w32, r32, r64, ha]
theorem pf_6_0 (S : CallFix p m c cc nL s args gT own) (E : EWF ev) (hK : KK ev s) (hP : Wd ev z H) (hS : SS ev s H locs) (hx : isK ev 6 x) {v : Int32} (hlink : Cond.fieldLink own index "CurveFallsModel" "thrown" "I" ∈ gT) (hdg : decode cc pc = .ok (.putfield index, 3)) (kk : ∀ (H1 : Heap) (locs1 : List Loc), Wd ev (w32 z 120 x v) H1 → SS ev s H1 locs1 → W p l e R s m args below meth c H1 locs1 cells slots Q (F0 m (pc + 3) ls rest)) : W p l e R s m args below meth c H locs cells slots Q (F0 m pc ls (.int v :: .ref x :: rest)) := by
  refine pm_put S (E_nd E) hK hP hS (at_6 z hx) gX8 tyX8 tyX8_ok nmX8 (k := 0) rfl (by decide) hlink rfl rfl rfl rfl (by show 0 < 16; decide) rfl hdg (fun H1 locs1 h1 h2 => kk H1 locs1 ?_ h2)
  show va_P (eD ev) vwCl (va_pl (eL ev) (cel ev (w32 z 120 x v))) H1
  rw [up_6_0 hx.2]
  exact h1
theorem gf_6_1 (S : CallFix p m c cc nL s args gT own) (hK : KK ev s) (hP : Wd ev z H) (hx : isK ev 6 x) (hlink : Cond.fieldLink own index "CurveFallsModel" "many" "I" ∈ gT) (hdg : decode cc pc = .ok (.getfield index, 3)) (kk : W p l e R s m args below meth c H locs cells slots Q (F0 m (pc + 3) ls (.int (r32 z 121 x) :: rest))) : W p l e R s m args below meth c H locs cells slots Q (F0 m pc ls (.ref x :: rest)) := pm_get S hK hP (at_6 z hx) gX8 (k := 1) rfl (by decide) hlink rfl rfl hdg kk
theorem up_6_1 (hk : eK ev x = 6) (v : Int32) : cel ev (w32 z 121 x v) = va_up (cel ev z) x (.inr (6, [.int (r32 z 120 x), .int v, .ref (rf ev 122 x), .ref (rf ev 123 x), .ref (rf ev 124 x), .ref (rf ev 125 x), .int (r32 z 126 x), .ref (rf ev 127 x), .long (r64 z 128 x), .ref (rf ev 129 x), .long (r64 z 130 x), .ref (rf ev 131 x), .ref (rf ev 132 x), .ref (rf ev 133 x), .ref (rf ev 134 x), .int (r32 z 135 x)])) := by
  funext a
  by_cases ha : a = x
  · subst ha; simp [cel, va_up, w32, r32, r64, hk]
  · simp [cel, va_up, w32, r32, r64, ha]
theorem pf_6_1 (S : CallFix p m c cc nL s args gT own) (E : EWF ev) (hK : KK ev s) (hP : Wd ev z H) (hS : SS ev s H locs) (hx : isK ev 6 x) {v : Int32} (hlink : Cond.fieldLink own index "CurveFallsModel" "many" "I" ∈ gT) (hdg : decode cc pc = .ok (.putfield index, 3)) (kk : ∀ (H1 : Heap) (locs1 : List Loc), Wd ev (w32 z 121 x v) H1 → SS ev s H1 locs1 → W p l e R s m args below meth c H1 locs1 cells slots Q (F0 m (pc + 3) ls rest)) : W p l e R s m args below meth c H locs cells slots Q (F0 m pc ls (.int v :: .ref x :: rest)) := by
  refine pm_put S (E_nd E) hK hP hS (at_6 z hx) gX8 tyX8 tyX8_ok nmX8 (k := 1) rfl (by decide) hlink rfl rfl rfl rfl (by show 1 < 16; decide) rfl hdg (fun H1 locs1 h1 h2 => kk H1 locs1 ?_ h2)
  show va_P (eD ev) vwCl (va_pl (eL ev) (cel ev (w32 z 121 x v))) H1
  rw [up_6_1 hx.2]
  exact h1
theorem gf_6_2 (S : CallFix p m c cc nL s args gT own) (hK : KK ev s) (hP : Wd ev z H) (hx : isK ev 6 x) (hlink : Cond.fieldLink own index "CurveFallsModel" "told" "[J" ∈ gT) (hdg : decode cc pc = .ok (.getfield index, 3)) (kk : W p l e R s m args below meth c H locs cells slots Q (F0 m (pc + 3) ls (.ref (rf ev 122 x) :: rest))) : W p l e R s m args below meth c H locs cells slots Q (F0 m pc ls (.ref x :: rest)) := pm_get S hK hP (at_6 z hx) gX8 (k := 2) rfl (by decide) hlink rfl rfl hdg kk
theorem gf_6_3 (S : CallFix p m c cc nL s args gT own) (hK : KK ev s) (hP : Wd ev z H) (hx : isK ev 6 x) (hlink : Cond.fieldLink own index "CurveFallsModel" "a" "[J" ∈ gT) (hdg : decode cc pc = .ok (.getfield index, 3)) (kk : W p l e R s m args below meth c H locs cells slots Q (F0 m (pc + 3) ls (.ref (rf ev 123 x) :: rest))) : W p l e R s m args below meth c H locs cells slots Q (F0 m pc ls (.ref x :: rest)) := pm_get S hK hP (at_6 z hx) gX8 (k := 3) rfl (by decide) hlink rfl rfl hdg kk
theorem gf_6_4 (S : CallFix p m c cc nL s args gT own) (hK : KK ev s) (hP : Wd ev z H) (hx : isK ev 6 x) (hlink : Cond.fieldLink own index "CurveFallsModel" "least" "[J" ∈ gT) (hdg : decode cc pc = .ok (.getfield index, 3)) (kk : W p l e R s m args below meth c H locs cells slots Q (F0 m (pc + 3) ls (.ref (rf ev 124 x) :: rest))) : W p l e R s m args below meth c H locs cells slots Q (F0 m pc ls (.ref x :: rest)) := pm_get S hK hP (at_6 z hx) gX8 (k := 4) rfl (by decide) hlink rfl rfl hdg kk
theorem gf_6_5 (S : CallFix p m c cc nL s args gT own) (hK : KK ev s) (hP : Wd ev z H) (hx : isK ev 6 x) (hlink : Cond.fieldLink own index "CurveFallsModel" "prime" "[J" ∈ gT) (hdg : decode cc pc = .ok (.getfield index, 3)) (kk : W p l e R s m args below meth c H locs cells slots Q (F0 m (pc + 3) ls (.ref (rf ev 125 x) :: rest))) : W p l e R s m args below meth c H locs cells slots Q (F0 m pc ls (.ref x :: rest)) := pm_get S hK hP (at_6 z hx) gX8 (k := 5) rfl (by decide) hlink rfl rfl hdg kk
theorem gf_6_6 (S : CallFix p m c cc nL s args gT own) (hK : KK ev s) (hP : Wd ev z H) (hx : isK ev 6 x) (hlink : Cond.fieldLink own index "CurveFallsModel" "primes" "I" ∈ gT) (hdg : decode cc pc = .ok (.getfield index, 3)) (kk : W p l e R s m args below meth c H locs cells slots Q (F0 m (pc + 3) ls (.int (r32 z 126 x) :: rest))) : W p l e R s m args below meth c H locs cells slots Q (F0 m pc ls (.ref x :: rest)) := pm_get S hK hP (at_6 z hx) gX8 (k := 6) rfl (by decide) hlink rfl rfl hdg kk
theorem up_6_6 (hk : eK ev x = 6) (v : Int32) : cel ev (w32 z 126 x v) = va_up (cel ev z) x (.inr (6, [.int (r32 z 120 x), .int (r32 z 121 x), .ref (rf ev 122 x), .ref (rf ev 123 x), .ref (rf ev 124 x), .ref (rf ev 125 x), .int v, .ref (rf ev 127 x), .long (r64 z 128 x), .ref (rf ev 129 x), .long (r64 z 130 x), .ref (rf ev 131 x), .ref (rf ev 132 x), .ref (rf ev 133 x), .ref (rf ev 134 x), .int (r32 z 135 x)])) := by
  funext a
  by_cases ha : a = x
  · subst ha; simp [cel, va_up, w32, r32, r64, hk]
  · simp [cel, va_up, w32, r32, r64, ha]
theorem pf_6_6 (S : CallFix p m c cc nL s args gT own) (E : EWF ev) (hK : KK ev s) (hP : Wd ev z H) (hS : SS ev s H locs) (hx : isK ev 6 x) {v : Int32} (hlink : Cond.fieldLink own index "CurveFallsModel" "primes" "I" ∈ gT) (hdg : decode cc pc = .ok (.putfield index, 3)) (kk : ∀ (H1 : Heap) (locs1 : List Loc), Wd ev (w32 z 126 x v) H1 → SS ev s H1 locs1 → W p l e R s m args below meth c H1 locs1 cells slots Q (F0 m (pc + 3) ls rest)) : W p l e R s m args below meth c H locs cells slots Q (F0 m pc ls (.int v :: .ref x :: rest)) := by
  refine pm_put S (E_nd E) hK hP hS (at_6 z hx) gX8 tyX8 tyX8_ok nmX8 (k := 6) rfl (by decide) hlink rfl rfl rfl rfl (by show 6 < 16; decide) rfl hdg (fun H1 locs1 h1 h2 => kk H1 locs1 ?_ h2)
  show va_P (eD ev) vwCl (va_pl (eL ev) (cel ev (w32 z 126 x v))) H1
  rw [up_6_6 hx.2]
  exact h1
theorem gf_6_7 (S : CallFix p m c cc nL s args gT own) (hK : KK ev s) (hP : Wd ev z H) (hx : isK ev 6 x) (hlink : Cond.fieldLink own index "CurveFallsModel" "at" "[I" ∈ gT) (hdg : decode cc pc = .ok (.getfield index, 3)) (kk : W p l e R s m args below meth c H locs cells slots Q (F0 m (pc + 3) ls (.ref (rf ev 127 x) :: rest))) : W p l e R s m args below meth c H locs cells slots Q (F0 m pc ls (.ref x :: rest)) := pm_get S hK hP (at_6 z hx) gX8 (k := 7) rfl (by decide) hlink rfl rfl hdg kk
theorem gf_6_8 (S : CallFix p m c cc nL s args gT own) (hK : KK ev s) (hP : Wd ev z H) (hx : isK ev 6 x) (hlink : Cond.fieldLink own index "CurveFallsModel" "root" "J" ∈ gT) (hdg : decode cc pc = .ok (.getfield index, 3)) (kk : W p l e R s m args below meth c H locs cells slots Q (F0 m (pc + 3) ls (.long (r64 z 128 x) :: rest))) : W p l e R s m args below meth c H locs cells slots Q (F0 m pc ls (.ref x :: rest)) := pm_get S hK hP (at_6 z hx) gX8 (k := 8) rfl (by decide) hlink rfl rfl hdg kk
theorem up_6_8 (hk : eK ev x = 6) (v : Int64) : cel ev (w64 z 128 x v) = va_up (cel ev z) x (.inr (6, [.int (r32 z 120 x), .int (r32 z 121 x), .ref (rf ev 122 x), .ref (rf ev 123 x), .ref (rf ev 124 x), .ref (rf ev 125 x), .int (r32 z 126 x), .ref (rf ev 127 x), .long v, .ref (rf ev 129 x), .long (r64 z 130 x), .ref (rf ev 131 x), .ref (rf ev 132 x), .ref (rf ev 133 x), .ref (rf ev 134 x), .int (r32 z 135 x)])) := by
  funext a
  by_cases ha : a = x
  · subst ha; simp [cel, va_up, w64, r32, r64, hk]
  · simp [cel, va_up, w64, r32, r64, ha]
theorem pf_6_8 (S : CallFix p m c cc nL s args gT own) (E : EWF ev) (hK : KK ev s) (hP : Wd ev z H) (hS : SS ev s H locs) (hx : isK ev 6 x) {v : Int64} (hlink : Cond.fieldLink own index "CurveFallsModel" "root" "J" ∈ gT) (hdg : decode cc pc = .ok (.putfield index, 3)) (kk : ∀ (H1 : Heap) (locs1 : List Loc), Wd ev (w64 z 128 x v) H1 → SS ev s H1 locs1 → W p l e R s m args below meth c H1 locs1 cells slots Q (F0 m (pc + 3) ls rest)) : W p l e R s m args below meth c H locs cells slots Q (F0 m pc ls (.long v :: .ref x :: rest)) := by
  refine pm_put S (E_nd E) hK hP hS (at_6 z hx) gX8 tyX8 tyX8_ok nmX8 (k := 8) rfl (by decide) hlink rfl rfl rfl rfl (by show 8 < 16; decide) rfl hdg (fun H1 locs1 h1 h2 => kk H1 locs1 ?_ h2)
  show va_P (eD ev) vwCl (va_pl (eL ev) (cel ev (w64 z 128 x v))) H1
  rw [up_6_8 hx.2]
  exact h1
theorem gf_6_9 (S : CallFix p m c cc nL s args gT own) (hK : KK ev s) (hP : Wd ev z H) (hx : isK ev 6 x) (hlink : Cond.fieldLink own index "CurveFallsModel" "kept" "[J" ∈ gT) (hdg : decode cc pc = .ok (.getfield index, 3)) (kk : W p l e R s m args below meth c H locs cells slots Q (F0 m (pc + 3) ls (.ref (rf ev 129 x) :: rest))) : W p l e R s m args below meth c H locs cells slots Q (F0 m pc ls (.ref x :: rest)) := pm_get S hK hP (at_6 z hx) gX8 (k := 9) rfl (by decide) hlink rfl rfl hdg kk
theorem gf_6_10 (S : CallFix p m c cc nL s args gT own) (hK : KK ev s) (hP : Wd ev z H) (hx : isK ev 6 x) (hlink : Cond.fieldLink own index "CurveFallsModel" "scale" "J" ∈ gT) (hdg : decode cc pc = .ok (.getfield index, 3)) (kk : W p l e R s m args below meth c H locs cells slots Q (F0 m (pc + 3) ls (.long (r64 z 130 x) :: rest))) : W p l e R s m args below meth c H locs cells slots Q (F0 m pc ls (.ref x :: rest)) := pm_get S hK hP (at_6 z hx) gX8 (k := 10) rfl (by decide) hlink rfl rfl hdg kk
theorem up_6_10 (hk : eK ev x = 6) (v : Int64) : cel ev (w64 z 130 x v) = va_up (cel ev z) x (.inr (6, [.int (r32 z 120 x), .int (r32 z 121 x), .ref (rf ev 122 x), .ref (rf ev 123 x), .ref (rf ev 124 x), .ref (rf ev 125 x), .int (r32 z 126 x), .ref (rf ev 127 x), .long (r64 z 128 x), .ref (rf ev 129 x), .long v, .ref (rf ev 131 x), .ref (rf ev 132 x), .ref (rf ev 133 x), .ref (rf ev 134 x), .int (r32 z 135 x)])) := by
  funext a
  by_cases ha : a = x
  · subst ha; simp [cel, va_up, w64, r32, r64, hk]
  · simp [cel, va_up, w64, r32, r64, ha]
theorem pf_6_10 (S : CallFix p m c cc nL s args gT own) (E : EWF ev) (hK : KK ev s) (hP : Wd ev z H) (hS : SS ev s H locs) (hx : isK ev 6 x) {v : Int64} (hlink : Cond.fieldLink own index "CurveFallsModel" "scale" "J" ∈ gT) (hdg : decode cc pc = .ok (.putfield index, 3)) (kk : ∀ (H1 : Heap) (locs1 : List Loc), Wd ev (w64 z 130 x v) H1 → SS ev s H1 locs1 → W p l e R s m args below meth c H1 locs1 cells slots Q (F0 m (pc + 3) ls rest)) : W p l e R s m args below meth c H locs cells slots Q (F0 m pc ls (.long v :: .ref x :: rest)) := by
  refine pm_put S (E_nd E) hK hP hS (at_6 z hx) gX8 tyX8 tyX8_ok nmX8 (k := 10) rfl (by decide) hlink rfl rfl rfl rfl (by show 10 < 16; decide) rfl hdg (fun H1 locs1 h1 h2 => kk H1 locs1 ?_ h2)
  show va_P (eD ev) vwCl (va_pl (eL ev) (cel ev (w64 z 130 x v))) H1
  rw [up_6_10 hx.2]
  exact h1
theorem gf_6_11 (S : CallFix p m c cc nL s args gT own) (hK : KK ev s) (hP : Wd ev z H) (hx : isK ev 6 x) (hlink : Cond.fieldLink own index "CurveFallsModel" "whole" "[J" ∈ gT) (hdg : decode cc pc = .ok (.getfield index, 3)) (kk : W p l e R s m args below meth c H locs cells slots Q (F0 m (pc + 3) ls (.ref (rf ev 131 x) :: rest))) : W p l e R s m args below meth c H locs cells slots Q (F0 m pc ls (.ref x :: rest)) := pm_get S hK hP (at_6 z hx) gX8 (k := 11) rfl (by decide) hlink rfl rfl hdg kk
theorem gf_6_12 (S : CallFix p m c cc nL s args gT own) (hK : KK ev s) (hP : Wd ev z H) (hx : isK ev 6 x) (hlink : Cond.fieldLink own index "CurveFallsModel" "first" "[J" ∈ gT) (hdg : decode cc pc = .ok (.getfield index, 3)) (kk : W p l e R s m args below meth c H locs cells slots Q (F0 m (pc + 3) ls (.ref (rf ev 132 x) :: rest))) : W p l e R s m args below meth c H locs cells slots Q (F0 m pc ls (.ref x :: rest)) := pm_get S hK hP (at_6 z hx) gX8 (k := 12) rfl (by decide) hlink rfl rfl hdg kk
theorem gf_6_13 (S : CallFix p m c cc nL s args gT own) (hK : KK ev s) (hP : Wd ev z H) (hx : isK ev 6 x) (hlink : Cond.fieldLink own index "CurveFallsModel" "twist" "[I" ∈ gT) (hdg : decode cc pc = .ok (.getfield index, 3)) (kk : W p l e R s m args below meth c H locs cells slots Q (F0 m (pc + 3) ls (.ref (rf ev 133 x) :: rest))) : W p l e R s m args below meth c H locs cells slots Q (F0 m pc ls (.ref x :: rest)) := pm_get S hK hP (at_6 z hx) gX8 (k := 13) rfl (by decide) hlink rfl rfl hdg kk
theorem gf_6_14 (S : CallFix p m c cc nL s args gT own) (hK : KK ev s) (hP : Wd ev z H) (hx : isK ev 6 x) (hlink : Cond.fieldLink own index "CurveFallsModel" "point" "[J" ∈ gT) (hdg : decode cc pc = .ok (.getfield index, 3)) (kk : W p l e R s m args below meth c H locs cells slots Q (F0 m (pc + 3) ls (.ref (rf ev 134 x) :: rest))) : W p l e R s m args below meth c H locs cells slots Q (F0 m pc ls (.ref x :: rest)) := pm_get S hK hP (at_6 z hx) gX8 (k := 14) rfl (by decide) hlink rfl rfl hdg kk
theorem gf_6_15 (S : CallFix p m c cc nL s args gT own) (hK : KK ev s) (hP : Wd ev z H) (hx : isK ev 6 x) (hlink : Cond.fieldLink own index "CurveFallsModel" "points" "I" ∈ gT) (hdg : decode cc pc = .ok (.getfield index, 3)) (kk : W p l e R s m args below meth c H locs cells slots Q (F0 m (pc + 3) ls (.int (r32 z 135 x) :: rest))) : W p l e R s m args below meth c H locs cells slots Q (F0 m pc ls (.ref x :: rest)) := pm_get S hK hP (at_6 z hx) gX8 (k := 15) rfl (by decide) hlink rfl rfl hdg kk
theorem up_6_15 (hk : eK ev x = 6) (v : Int32) : cel ev (w32 z 135 x v) = va_up (cel ev z) x (.inr (6, [.int (r32 z 120 x), .int (r32 z 121 x), .ref (rf ev 122 x), .ref (rf ev 123 x), .ref (rf ev 124 x), .ref (rf ev 125 x), .int (r32 z 126 x), .ref (rf ev 127 x), .long (r64 z 128 x), .ref (rf ev 129 x), .long (r64 z 130 x), .ref (rf ev 131 x), .ref (rf ev 132 x), .ref (rf ev 133 x), .ref (rf ev 134 x), .int v])) := by
  funext a
  by_cases ha : a = x
  · subst ha; simp [cel, va_up, w32, r32, r64, hk]
  · simp [cel, va_up, w32, r32, r64, ha]
theorem pf_6_15 (S : CallFix p m c cc nL s args gT own) (E : EWF ev) (hK : KK ev s) (hP : Wd ev z H) (hS : SS ev s H locs) (hx : isK ev 6 x) {v : Int32} (hlink : Cond.fieldLink own index "CurveFallsModel" "points" "I" ∈ gT) (hdg : decode cc pc = .ok (.putfield index, 3)) (kk : ∀ (H1 : Heap) (locs1 : List Loc), Wd ev (w32 z 135 x v) H1 → SS ev s H1 locs1 → W p l e R s m args below meth c H1 locs1 cells slots Q (F0 m (pc + 3) ls rest)) : W p l e R s m args below meth c H locs cells slots Q (F0 m pc ls (.int v :: .ref x :: rest)) := by
  refine pm_put S (E_nd E) hK hP hS (at_6 z hx) gX8 tyX8 tyX8_ok nmX8 (k := 15) rfl (by decide) hlink rfl rfl rfl rfl (by show 15 < 16; decide) rfl hdg (fun H1 locs1 h1 h2 => kk H1 locs1 ?_ h2)
  show va_P (eD ev) vwCl (va_pl (eL ev) (cel ev (w32 z 135 x v))) H1
  rw [up_6_15 hx.2]
  exact h1
theorem al_I (S : CallFix p m c cc nL s args gT own) (hK : KK ev s) (hP : Wd ev z H) (hx : isK ev 7 x) {i : Int32} (hi : inB i (eN ev x)) (hdg : decode cc pc = .ok (.iaload, 1)) (kk : W p l e R s m args below meth c H locs cells slots Q (F0 m (pc + 1) ls (.int (rI z x i.toNatClampNeg) :: rest))) : W p l e R s m args below meth c H locs cells slots Q (F0 m pc ls (.int i :: .ref x :: rest)) := pm_iald S hK hP (at_7 z hx) (t0 := 0) rfl hi hdg kk
theorem al_J (S : CallFix p m c cc nL s args gT own) (hK : KK ev s) (hP : Wd ev z H) (hx : isK ev 8 x) {i : Int32} (hi : inB i (eN ev x)) (hdg : decode cc pc = .ok (.laload, 1)) (kk : W p l e R s m args below meth c H locs cells slots Q (F0 m (pc + 1) ls (.long (rJ z x i.toNatClampNeg) :: rest))) : W p l e R s m args below meth c H locs cells slots Q (F0 m pc ls (.int i :: .ref x :: rest)) := pm_lald S hK hP (at_8 z hx) (t0 := 1) rfl hi hdg kk
theorem al_H (S : CallFix p m c cc nL s args gT own) (hK : KK ev s) (hP : Wd ev z H) (hx : isK ev 9 x) {i : Int32} (hi : inB i (eN ev x)) (hdg : decode cc pc = .ok (.aaload, 1)) (kk : W p l e R s m args below meth c H locs cells slots Q (F0 m (pc + 1) ls (.ref (rh ev x i.toNatClampNeg) :: rest))) : W p l e R s m args below meth c H locs cells slots Q (F0 m pc ls (.int i :: .ref x :: rest)) := pm_aald S hK hP (at_9 z hx) (t0 := 2) rfl hi rfl hdg kk
theorem ua_I (hk : eK ev x = 7) (i : Nat) (v : Int32) : cel ev (wI z x i v) = va_up (cel ev z) x (.inl (eI ev, eN ev x, .inl (upd (z.2.2.1 x) i v))) := by
  funext a
  by_cases ha : a = x
  · subst ha; simp [cel, va_up, wI, r32, r64, hk]; funext j; simp [upd]
  · simp [cel, va_up, wI, r32, r64, ha]
theorem as_I (S : CallFix p m c cc nL s args gT own) (E : EWF ev) (hK : KK ev s) (hP : Wd ev z H) (hS : SS ev s H locs) (hx : isK ev 7 x) {i : Int32} {v : Int32} (hi : inB i (eN ev x)) (hdg : decode cc pc = .ok (.iastore, 1)) (kk : ∀ (H1 : Heap) (locs1 : List Loc), Wd ev (wI z x i.toNatClampNeg v) H1 → SS ev s H1 locs1 → W p l e R s m args below meth c H1 locs1 cells slots Q (F0 m (pc + 1) ls rest)) : W p l e R s m args below meth c H locs cells slots Q (F0 m pc ls (.int v :: .int i :: .ref x :: rest)) := by
  refine pm_iast S (E_nd E) hK hP hS (at_7 z hx) (t0 := 0) rfl hi hdg (fun H1 locs1 h1 h2 => kk H1 locs1 ?_ h2)
  show va_P (eD ev) vwCl (va_pl (eL ev) (cel ev (wI z x i.toNatClampNeg v))) H1
  rw [ua_I hx.2]
  exact h1
theorem ua_J (hk : eK ev x = 8) (i : Nat) (v : Int64) : cel ev (wJ z x i v) = va_up (cel ev z) x (.inl (eJ ev, eN ev x, .inr (.inl (vp_updL (z.2.2.2 x) i v)))) := by
  funext a
  by_cases ha : a = x
  · subst ha; simp [cel, va_up, wJ, r32, r64, hk]; funext j; simp [vp_updL]
  · simp [cel, va_up, wJ, r32, r64, ha]
theorem as_J (S : CallFix p m c cc nL s args gT own) (E : EWF ev) (hK : KK ev s) (hP : Wd ev z H) (hS : SS ev s H locs) (hx : isK ev 8 x) {i : Int32} {v : Int64} (hi : inB i (eN ev x)) (hdg : decode cc pc = .ok (.lastore, 1)) (kk : ∀ (H1 : Heap) (locs1 : List Loc), Wd ev (wJ z x i.toNatClampNeg v) H1 → SS ev s H1 locs1 → W p l e R s m args below meth c H1 locs1 cells slots Q (F0 m (pc + 1) ls rest)) : W p l e R s m args below meth c H locs cells slots Q (F0 m pc ls (.long v :: .int i :: .ref x :: rest)) := by
  refine pm_last S (E_nd E) hK hP hS (at_8 z hx) (t0 := 1) rfl hi hdg (fun H1 locs1 h1 h2 => kk H1 locs1 ?_ h2)
  show va_P (eD ev) vwCl (va_pl (eL ev) (cel ev (wJ z x i.toNatClampNeg v))) H1
  rw [ua_J hx.2]
  exact h1
theorem al_n7 (S : CallFix p m c cc nL s args gT own) (hK : KK ev s) (hP : Wd ev z H) (hx : isK ev 7 x) {n : Nat} (hn : eN ev x = n) (hdg : decode cc pc = .ok (.arraylength, 1)) (kk : W p l e R s m args below meth c H locs cells slots Q (F0 m (pc + 1) ls (.int (Int32.ofNat n) :: rest))) : W p l e R s m args below meth c H locs cells slots Q (F0 m pc ls (.ref x :: rest)) := by
  obtain ⟨q, hq, hq2⟩ := pm_at (at_7 z hx)
  exact va_alen S.1 S.2.1 hK hP q 0 hq2 rfl (by rw [← hn]) hdg kk
theorem pm_nmL {v y : Int64} (h : v = y) (k : W p l e R s m args below meth c H locs cells slots Q (F0 m pc ls (.long v :: rest))) : W p l e R s m args below meth c H locs cells slots Q (F0 m pc ls (.long y :: rest)) := h ▸ k
theorem pm_nmI {v y : Int32} (h : v = y) (k : W p l e R s m args below meth c H locs cells slots Q (F0 m pc ls (.int v :: rest))) : W p l e R s m args below meth c H locs cells slots Q (F0 m pc ls (.int y :: rest)) := h ▸ k
theorem pm_lrem (S : CallFix p m c cc nL s args gT own) {x y : Int64} (hne : ¬ y = 0) (hdg : decode cc pc = .ok (.lrem, 1)) (k : W p l e R s m args below meth c H locs cells slots Q (F0 m (pc + 1) ls (.long (jr64 x y) :: rest))) : W p l e R s m args below meth c H locs cells slots Q (F0 m pc ls (.long y :: .long x :: rest)) := lv_lrem S.1 S.2.1 hdg hne k
theorem pm_irem (S : CallFix p m c cc nL s args gT own) {x y : Int32} (hne : ¬ y = 0) (hdg : decode cc pc = .ok (.irem, 1)) (k : W p l e R s m args below meth c H locs cells slots Q (F0 m (pc + 1) ls (.int (jr32 x y) :: rest))) : W p l e R s m args below meth c H locs cells slots Q (F0 m pc ls (.int y :: .int x :: rest)) := lv_irem S.1 S.2.1 hdg hne k
end FR
/-! calls: every method has the words '.code .. :: gT', the room of its level -/
abbrev pR (n k : Nat) : Room := { frames := n, cells := 0, slots := 0, locals := k }
abbrev pWs (y : MethodName) (bytes : ByteArray) (maxL : Nat) (ret : Option FieldType) : List Cond := Cond.code y bytes maxL ret :: gT
/-- what the tables say of a static method, and of one of an object -/
def pm_Sm (y : MethodName) (bytes : ByteArray) (maxL : Nat) (ret : Option FieldType) (n : Nat) : Prop := Cond.code y bytes maxL ret ∈ gT ∧ Cond.static y ∈ gT ∧ Cond.initialized y.cls ∈ gT ∧ (y.cls ≠ "java/lang/invoke/MethodHandle" ∧ y.cls ≠ "java/lang/invoke/VarHandle") ∧ (parseMethodDescriptor y.desc).map (fun d => d.parameters.length) = some n
def pm_Vm (y : MethodName) (bytes : ByteArray) (maxL : Nat) (ret : Option FieldType) (n : Nat) : Prop := Cond.code y bytes maxL ret ∈ gT ∧ Cond.instanceMethod y ∈ gT ∧ Cond.selects y.cls y y ∈ gT ∧ Cond.initialized y.cls ∈ gT ∧ (y.cls ≠ "java/lang/invoke/MethodHandle" ∧ y.cls ≠ "java/lang/invoke/VarHandle") ∧ (parseMethodDescriptor y.desc).map (fun d => d.parameters.length) = some n
theorem pm_ok : ∀ w ∈ gT, (w.onTables && w.keeps) = true ∨ ∃ ty, w = .arrayClass ty := fun w h => (gT_good w h).2
theorem pm_len {y : MethodName} {n : Nat} {As : List Value} (h : (parseMethodDescriptor y.desc).map (fun d => d.parameters.length) = some n) (hn : As.length = n) : ∀ sig, parseMethodDescriptor y.desc = some sig → As.length = sig.parameters.length := by
  intro sig hs
  rw [hs] at h
  exact hn.trans (Option.some.inj h).symm
/-- what else a contract's start says: a nest mate's word, the three static rows -/
def tw1 (j : Nat) : Int32 := ([1, -1, 2, -2, 3, -3, 5, -5, 6, -6, 7, -7, 10, -10] : List Int32).getD j 0
def tw2 (j : Nat) : Int32 := ([2, 3, 5, 7] : List Int32).getD j 0
def tw3 (j : Nat) : Int32 := ([2, 3, 5, 7, 11, 13, 17, 19, 23, 29, 31] : List Int32).getD j 0
def pXt (ev : EV) (U : State) : Prop := (va_Nw (.methodLinkNest RX0 85 yX7_within RX7) U ∧ va_Nw (.fieldLinkNest RX3 7 RX7 "SHRINK_PRIMES" "[I" RX7) U) ∧
  (va_Z RX7 "TWISTERS" "[I" (.ref (rf ev 900 0)) (eA ev) U U.heap ∧ va_T .int (rf ev 900 0) 14 (fun j => .int (tw1 j)) (eA ev) U U.heap) ∧
  (va_Z RX7 "TWIST_PRIMES" "[I" (.ref (rf ev 901 0)) (eA ev) U U.heap ∧ va_T .int (rf ev 901 0) 4 (fun j => .int (tw2 j)) (eA ev) U U.heap) ∧
  (va_Z RX7 "SHRINK_PRIMES" "[I" (.ref (rf ev 902 0)) (eA ev) U U.heap ∧ va_T .int (rf ev 902 0) 11 (fun j => .int (tw3 j)) (eA ev) U U.heap)
theorem pX_next {ev : EV} {s U : State} {H : Heap} {locs : List Loc} (hX : pXt ev s) (hS : SS ev s H locs) (hU : U.heap = H) (hW : s.WarmedH U.vm) : pXt ev U := by
  have hq : ∀ a : Nat, a < s.heap.size → ¬ eA ev a → U.heap[a]? = s.heap[a]? := fun a h1 h2 => by rw [hU]; exact hS.2.1 a h1 h2
  obtain ⟨⟨h0, h9⟩, ⟨h1, h2⟩, ⟨h3, h4⟩, h5, h6⟩ := hX
  exact ⟨⟨va_Nw.warmM hW h0, va_Nw.warmF hW h9⟩, ⟨(h1.kept hq).moved hW.alike, (h2.kept hq).moved hW.alike⟩, ⟨(h3.kept hq).moved hW.alike, (h4.kept hq).moved hW.alike⟩, (h5.kept hq).moved hW.alike, (h6.kept hq).moved hW.alike⟩
theorem pX_call {ev : EV} {U : State} {g : JFrame} {mk : MethodId} {a : Array Value} (hX : pXt ev U) : pXt ev (U.calling g mk a) := by
  obtain ⟨⟨h0, h9⟩, ⟨h1, h2⟩, ⟨h3, h4⟩, h5, h6⟩ := hX
  have al : U.vm.Alike (U.calling g mk a).vm := Vm.Alike.refl U.vm
  exact ⟨⟨va_Nw.same rfl rfl h0, va_Nw.same rfl rfl h9⟩, ⟨h1.moved al, h2.moved al⟩, ⟨h3.moved al, h4.moved al⟩, h5.moved al, h6.moved al⟩
/-- the world of a contract -/
def pPe (ev : EV) (z : PS) (U : State) : Prop := Wd ev z U.heap ∧ KK ev U ∧ pXt ev U
def pQv (ev : EV) (z9 : PS) : Array Value → State → Outcome → State → Prop := fun _ st o t => o = .returned none ∧ Wd ev z9 t.heap ∧ va_F (eA ev) st t
def pQi (ev : EV) (r : Int32) (z9 : PS) : Array Value → State → Outcome → State → Prop := fun _ st o t => o = .returned (some (.int r)) ∧ Wd ev z9 t.heap ∧ va_F (eA ev) st t
def pQl (ev : EV) (r : Int64) (z9 : PS) : Array Value → State → Outcome → State → Prop := fun _ st o t => o = .returned (some (.long r)) ∧ Wd ev z9 t.heap ∧ va_F (eA ev) st t
def pQa (ev : EV) (r : Nat) (z9 : PS) : Array Value → State → Outcome → State → Prop := fun _ st o t => o = .returned (some (.ref r)) ∧ Wd ev z9 t.heap ∧ va_F (eA ev) st t
theorem pm_blind (As : List Value) (ev : EV) (z : PS) : FrameBlind (va_Pc As (pPe ev z)) := fun _ U g mk q => ⟨q.1, q.2.1, va_K.moved (u := U) (U := U.calling g mk _) (Vm.Alike.refl U.vm) q.2.2.1, pX_call q.2.2.2⟩
theorem pm_blindT (As : List Value) : FrameBlind (va_Pc As (fun _ => True)) := fun _ _ _ _ q => q
theorem rc_0 {ev : EV} {z : PS} {s : State} {H : Heap} {b : Nat} (hK : KK ev s) (hP : Wd ev z H) (h : isK ev 0 b) : ∃ cell : Cell, H[b]? = some cell ∧ cell.vm.isStatics = false ∧ s.vm.findClass RX0 = some cell.cls := pm_cell hK hP (at_0 z h) rfl
theorem rc_1 {ev : EV} {z : PS} {s : State} {H : Heap} {b : Nat} (hK : KK ev s) (hP : Wd ev z H) (h : isK ev 1 b) : ∃ cell : Cell, H[b]? = some cell ∧ cell.vm.isStatics = false ∧ s.vm.findClass RX1 = some cell.cls := pm_cell hK hP (at_1 z h) rfl
theorem rc_2 {ev : EV} {z : PS} {s : State} {H : Heap} {b : Nat} (hK : KK ev s) (hP : Wd ev z H) (h : isK ev 2 b) : ∃ cell : Cell, H[b]? = some cell ∧ cell.vm.isStatics = false ∧ s.vm.findClass RX2 = some cell.cls := pm_cell hK hP (at_2 z h) rfl
theorem rc_3 {ev : EV} {z : PS} {s : State} {H : Heap} {b : Nat} (hK : KK ev s) (hP : Wd ev z H) (h : isK ev 3 b) : ∃ cell : Cell, H[b]? = some cell ∧ cell.vm.isStatics = false ∧ s.vm.findClass RX5 = some cell.cls := pm_cell hK hP (at_3 z h) rfl
theorem rc_4 {ev : EV} {z : PS} {s : State} {H : Heap} {b : Nat} (hK : KK ev s) (hP : Wd ev z H) (h : isK ev 4 b) : ∃ cell : Cell, H[b]? = some cell ∧ cell.vm.isStatics = false ∧ s.vm.findClass RX6 = some cell.cls := pm_cell hK hP (at_4 z h) rfl
theorem rc_5 {ev : EV} {z : PS} {s : State} {H : Heap} {b : Nat} (hK : KK ev s) (hP : Wd ev z H) (h : isK ev 5 b) : ∃ cell : Cell, H[b]? = some cell ∧ cell.vm.isStatics = false ∧ s.vm.findClass RX7 = some cell.cls := pm_cell hK hP (at_5 z h) rfl
theorem rc_6 {ev : EV} {z : PS} {s : State} {H : Heap} {b : Nat} (hK : KK ev s) (hP : Wd ev z H) (h : isK ev 6 b) : ∃ cell : Cell, H[b]? = some cell ∧ cell.vm.isStatics = false ∧ s.vm.findClass RX8 = some cell.cls := pm_cell hK hP (at_6 z h) rfl
/-- a body, from its entry -/
theorem pm_of {l : Launch} {y : MethodName} {bytes : ByteArray} {maxL : Nat} {ret : Option FieldType} {rm : Room} {Pc' : State → Prop} {Qc : Array Value → State → Outcome → State → Prop} {free : Addr → Prop} {As : List Value} (hy : plainName y.cls = true) (hA : (lg_sl As).length ≤ maxL)
    (body : ∀ (p : Program) (e : Env) (s : State) (m : MethodId) (below : List Frame) (meth : Method) (c : Code), CallFix p m c bytes maxL s As.toArray gT y.cls → meth.sig.returnType = ret → meth.locks = false → Pc' s → ∀ ls : Array Slot, lv_has ls maxL (lv_args 0 As) →
      W p l e rm s m As.toArray below meth c s.heap [] 0 0 (MQ below Qc As.toArray s 0 0 free) (F0 m 0 ls [])) : Met l y (pWs y bytes maxL ret) rm (va_Pc As Pc') Qc 0 0 free := by
  refine Met.ofW (cc := bytes) (maxL := maxL) (ret := ret) hy rfl ?_
  intro p e s m args below meth c s₁ B hml hv
  obtain ⟨rfl, hv⟩ := hv
  have hts := atoms_spec (ws := pWs y bytes maxL ret) B.pre
  have hl := lv_entry As (n := maxL) hA
  rw [lg_entry_eq]
  exact body p e s m below meth c ⟨B.exec, B.bytes, hml, findClass_of_methodNamed B.named, fun w h => hts w (List.mem_cons_of_mem _ h)⟩ B.returns B.notSynchronized hv _ hl
section PMC
variable {p : Program} {l : Launch} {e : Env} {R : Room} {s : State} {m : MethodId} {args : Array Value} {below : List Frame} {meth : Method} {c : Code} {H : Heap} {locs : List Loc} {cells slots : Nat} {Q : State → Prop} {cc : ByteArray} {pc nL : Nat} {ls : Array Slot} {rest st : List Value} {own : String}
  {y : MethodName} {bytes : ByteArray} {maxL n index : Nat} {ret : Option FieldType} {rm : Room} {Pc : Array Value → State → Prop} {Qc : Array Value → State → Outcome → State → Prop} {free : Addr → Prop} {As : List Value} {b : Nat}
theorem pm_words (S : CallFix p m c cc nL s args gT own) (hc : Cond.code y bytes maxL ret ∈ gT) : ∀ w ∈ pWs y bytes maxL ret, ∀ (a' : Array Value) (U : State), s.WarmedH U.vm → w.before a' U = true := by
  intro w hw a' U hU
  have hw' : w ∈ gT := by
    rcases List.mem_cons.mp hw with h | h
    · rw [h]; exact hc
    · exact h
  exact word_at hU (pm_ok w hw') (S.2.2.2.2 w hw')
theorem pm_runS (S : CallFix p m c cc nL s args gT own) (hM : Met l y (pWs y bytes maxL ret) rm Pc Qc 0 0 free) (hm : pm_Sm y bytes maxL ret n) (hlink : Cond.methodLink own index y ∈ gT) (hbl : FrameBlind Pc) (hpc : ∀ U : State, U.heap = H → s.WarmedH U.vm → Pc As.toArray U)
    (hrm : (rm.cells = 0 ∧ rm.slots = 0) ∧ rm.frames + 1 ≤ R.frames ∧ 20 + (maxL + 11) + rm.locals ≤ R.locals) (hn : As.length = n) (hsize : ls.size = nL) (hst : st = As.reverse ++ rest) (hW : (rest.map fun v => v.category).sum ≤ 20) (hf : cells ≤ R.cells ∧ slots ≤ R.slots) (hdg : decode cc pc = .ok (.invokestatic index, 3)) :
    CallRun p l e R s m args below meth c H locs cells slots 0 0 (F0 m pc ls st) rest (Qc As.toArray) free := by
  have hK : Back l R p e below s args y 3 20 (PreOf R 0 0 Pc) (PostOf Qc 0 0 free) := back_of (bytes := bytes) (maxL := maxL) (ret := ret) hM hbl hrm.1.1 hrm.1.2 hrm.2.1 hrm.2.2 (pm_words S hm.1) List.mem_cons_self (fun a' U hU => word_at hU (pm_ok _ hm.2.2.1) (S.2.2.2.2 _ hm.2.2.1))
  intro T hT X
  obtain ⟨v, vm₁, ⟨U', l2, c2, s2⟩, hW₁, X', ⟨g', mk, t, L, e1, e2, hq, h1, hL, h2, h3⟩, st⟩ := callS X S.1 (bytes := bytes) (maxL := maxL) (ret := ret) S.2.2.2.1 (S.2.2.2.2 _ hlink) (S.2.2.2.2 _ hm.2.1) (S.2.2.2.2 _ hm.2.2.1) (S.2.2.2.2 _ hm.1) hm.2.2.2.1 hK (g := F0 m pc ls st) rfl (hsize.trans S.2.2.1.symm) (argsL := As) (rest := rest) (pm_len hm.2.2.2.2 hn) hst (by simpa [JFrame.monitorRoom] using hW) (by rw [S.2.1]; exact hdg)
    (fun vm₁ hW₁ => ⟨hf.1, hf.2, hpc (T.setVm vm₁) hT hW₁⟩)
  dsimp only [Pt.U, Pt.locs, Pt.cells, Pt.slots] at X' e1 e2 h1 h2 h3 st
  subst h1; subst h2; subst h3
  exact ⟨v, (T.setVm vm₁).calling g' mk As.toArray, t, U', L, hT, X', hL, e1, hq, st⟩
theorem pm_runV (S : CallFix p m c cc nL s args gT own) (hM : Met l y (pWs y bytes maxL ret) rm Pc Qc 0 0 free) (hm : pm_Vm y bytes maxL ret n) (hlink : Cond.methodLink own index y ∈ gT) (hbl : FrameBlind Pc) (hpc : ∀ U : State, U.heap = H → s.WarmedH U.vm → Pc (Value.ref b :: As).toArray U) (hrc : ∃ cell : Cell, H[b]? = some cell ∧ cell.vm.isStatics = false ∧ s.vm.findClass y.cls = some cell.cls)
    (hrm : (rm.cells = 0 ∧ rm.slots = 0) ∧ rm.frames + 1 ≤ R.frames ∧ 20 + (maxL + 11) + rm.locals ≤ R.locals) (hn : As.length = n) (hsize : ls.size = nL) (hst : st = As.reverse ++ .ref b :: rest) (hW : (rest.map fun v => v.category).sum ≤ 20) (hf : cells ≤ R.cells ∧ slots ≤ R.slots) (hdg : decode cc pc = .ok (.invokevirtual index, 3)) :
    CallRun p l e R s m args below meth c H locs cells slots 0 0 (F0 m pc ls st) rest (Qc (Value.ref b :: As).toArray) free := by
  have hK : Back l R p e below s args y 3 20 (PreOf R 0 0 Pc) (PostOf Qc 0 0 free) := back_of (bytes := bytes) (maxL := maxL) (ret := ret) hM hbl hrm.1.1 hrm.1.2 hrm.2.1 hrm.2.2 (pm_words S hm.1) List.mem_cons_self (fun a' U hU => word_at hU (pm_ok _ hm.2.2.2.1) (S.2.2.2.2 _ hm.2.2.2.1))
  obtain ⟨cellB, hcB, hoB, hclB⟩ := hrc
  intro T hT X
  obtain ⟨v, vm₁, ⟨U', l2, c2, s2⟩, hW₁, X', ⟨g', mk, t, L, e1, e2, hq, h1, hL, h2, h3⟩, st⟩ := callV X S.1 (C := y.cls) (bytes := bytes) (maxL := maxL) (ret := ret) S.2.2.2.1 (S.2.2.2.2 _ hlink) (S.2.2.2.2 _ hm.2.1) (S.2.2.2.2 _ hm.2.2.1) (S.2.2.2.2 _ hm.1) hm.2.2.2.2.1 hK (by rw [hT]; exact hcB) hoB hclB (g := F0 m pc ls st) rfl (hsize.trans S.2.2.1.symm) (argsL := As) (rest := rest) (pm_len hm.2.2.2.2.2 hn) hst (by simpa [JFrame.monitorRoom] using hW) (by rw [S.2.1]; exact hdg)
    (fun vm₁ hW₁ => ⟨hf.1, hf.2, hpc (T.setVm vm₁) hT hW₁⟩)
  dsimp only [Pt.U, Pt.locs, Pt.cells, Pt.slots] at X' e1 e2 h1 h2 h3 st
  subst h1; subst h2; subst h3
  exact ⟨v, (T.setVm vm₁).calling g' mk (Value.ref b :: As).toArray, t, U', L, hT, X', hL, e1, hq, st⟩
/-- a static method of numbers alone -/
theorem pm_cS {r : Value} (S : CallFix p m c cc nL s args gT own) (hM : Met l y (pWs y bytes maxL ret) rm (va_Pc As (fun _ => True)) (k2_QcV r) 0 0 (fun _ => False)) (hm : pm_Sm y bytes maxL ret n) (hlink : Cond.methodLink own index y ∈ gT)
    (hrm : (rm.cells = 0 ∧ rm.slots = 0) ∧ rm.frames + 1 ≤ R.frames ∧ 20 + (maxL + 11) + rm.locals ≤ R.locals) (hn : As.length = n) (hsize : ls.size = nL) (hst : st = As.reverse ++ rest) (hW : (rest.map fun v => v.category).sum ≤ 20) (hf : cells ≤ R.cells ∧ slots ≤ R.slots) (hdg : decode cc pc = .ok (.invokestatic index, 3))
    (kk : W p l e R s m args below meth c H locs cells slots Q (F0 m (pc + 3) ls (r :: rest))) : W p l e R s m args below meth c H locs cells slots Q (F0 m pc ls st) :=
  W.callV (pm_runS S hM hm hlink (pm_blindT As) (fun _ _ _ => ⟨rfl, trivial⟩) hrm hn hsize hst hW hf hdg) kk
theorem pm_cSr {ev : EV} {z : PS} {r : Value} (S : CallFix p m c cc nL s args gT own) (hK : KK ev s) (hX : pXt ev s) (hP : Wd ev z H) (hS : SS ev s H locs) (hM : Met l y (pWs y bytes maxL ret) rm (va_Pc As (pPe ev z)) (k2_QcV r) 0 0 (fun _ => False)) (hm : pm_Sm y bytes maxL ret n) (hlink : Cond.methodLink own index y ∈ gT)
    (hrm : (rm.cells = 0 ∧ rm.slots = 0) ∧ rm.frames + 1 ≤ R.frames ∧ 20 + (maxL + 11) + rm.locals ≤ R.locals) (hn : As.length = n) (hsize : ls.size = nL) (hst : st = As.reverse ++ rest) (hW : (rest.map fun v => v.category).sum ≤ 20) (hf : cells ≤ R.cells ∧ slots ≤ R.slots) (hdg : decode cc pc = .ok (.invokestatic index, 3))
    (kk : W p l e R s m args below meth c H locs cells slots Q (F0 m (pc + 3) ls (r :: rest))) : W p l e R s m args below meth c H locs cells slots Q (F0 m pc ls st) :=
  W.callV (pm_runS S hM hm hlink (pm_blind As ev z) (fun U hU hW => ⟨rfl, by rw [hU]; exact hP, va_K.moved hW.alike hK, pX_next hX hS hU hW⟩) hrm hn hsize hst hW hf hdg) kk
theorem pm_cVr {ev : EV} {z : PS} {r : Value} (S : CallFix p m c cc nL s args gT own) (hK : KK ev s) (hX : pXt ev s) (hP : Wd ev z H) (hS : SS ev s H locs) (hM : Met l y (pWs y bytes maxL ret) rm (va_Pc (.ref b :: As) (pPe ev z)) (k2_QcV r) 0 0 (fun _ => False)) (hm : pm_Vm y bytes maxL ret n) (hlink : Cond.methodLink own index y ∈ gT) (hrc : ∃ cell : Cell, H[b]? = some cell ∧ cell.vm.isStatics = false ∧ s.vm.findClass y.cls = some cell.cls)
    (hrm : (rm.cells = 0 ∧ rm.slots = 0) ∧ rm.frames + 1 ≤ R.frames ∧ 20 + (maxL + 11) + rm.locals ≤ R.locals) (hn : As.length = n) (hsize : ls.size = nL) (hst : st = As.reverse ++ .ref b :: rest) (hW : (rest.map fun v => v.category).sum ≤ 20) (hf : cells ≤ R.cells ∧ slots ≤ R.slots) (hdg : decode cc pc = .ok (.invokevirtual index, 3))
    (kk : W p l e R s m args below meth c H locs cells slots Q (F0 m (pc + 3) ls (r :: rest))) : W p l e R s m args below meth c H locs cells slots Q (F0 m pc ls st) :=
  W.callV (pm_runV S hM hm hlink (pm_blind (.ref b :: As) ev z) (fun U hU hW => ⟨rfl, by rw [hU]; exact hP, va_K.moved hW.alike hK, pX_next hX hS hU hW⟩) hrc hrm hn hsize hst hW hf hdg) kk
/-- what comes back from a call that writes -/
theorem pm_backS {Qa : State → Outcome → State → Prop} {A : Nat → Prop} (hr : CallRun p l e R s m args below meth c H locs cells slots 0 0 (F0 m pc ls st) rest Qa A) (hS : va_S A s.heap H locs)
    (kk : ∀ (v : Option Value) (st₀ t : State) (H1 : Heap) (locs1 : List Loc), st₀.heap = H → t.heap = H1 → Qa st₀ (.returned v) t → (va_F A st₀ t → va_S A s.heap H1 locs1) → W p l e R s m args below meth c H1 locs1 cells slots Q (F0 m (pc + 3) ls (v.toList ++ rest))) : W p l e R s m args below meth c H locs cells slots Q (F0 m pc ls st) := by
  intro T hT X
  obtain ⟨v, st₀, t, T', L, h0, X', hL, e1, hq, stp⟩ := hr T hT X
  obtain ⟨t2, a1, b1⟩ := kk v st₀ t T'.heap (locs ++ L) h0 e1.symm hq (fun hF => ⟨Nat.le_trans hS.1 (by rw [e1, ← h0]; exact hF.1), fun q h1 h2 => by rw [e1, hF.2 q (by rw [h0]; exact Nat.lt_of_lt_of_le h1 hS.1) h2, h0]; exact hS.2.1 q h1 h2, fun q hq => by
    rcases List.mem_append.mp hq with h | h
    · exact hS.2.2 q h
    · exact hL q h⟩) T' rfl X'
  exact ⟨t2, stp t2 a1, b1⟩
theorem pm_cVv {ev : EV} {z : PS} {z9 : PS} (S : CallFix p m c cc nL s args gT own) (hK : KK ev s) (hX : pXt ev s) (hP : Wd ev z H) (hS : SS ev s H locs) (hM : Met l y (pWs y bytes maxL ret) rm (va_Pc (.ref b :: As) (pPe ev z)) (pQv ev z9) 0 0 (eA ev)) (hm : pm_Vm y bytes maxL ret n) (hlink : Cond.methodLink own index y ∈ gT) (hrc : ∃ cell : Cell, H[b]? = some cell ∧ cell.vm.isStatics = false ∧ s.vm.findClass y.cls = some cell.cls)
    (hrm : (rm.cells = 0 ∧ rm.slots = 0) ∧ rm.frames + 1 ≤ R.frames ∧ 20 + (maxL + 11) + rm.locals ≤ R.locals) (hn : As.length = n) (hsize : ls.size = nL) (hst : st = As.reverse ++ .ref b :: rest) (hW : (rest.map fun v => v.category).sum ≤ 20) (hf : cells ≤ R.cells ∧ slots ≤ R.slots) (hdg : decode cc pc = .ok (.invokevirtual index, 3))
    (kk : ∀ (H1 : Heap) (locs1 : List Loc), Wd ev z9 H1 → SS ev s H1 locs1 → W p l e R s m args below meth c H1 locs1 cells slots Q (F0 m (pc + 3) ls (rest))) : W p l e R s m args below meth c H locs cells slots Q (F0 m pc ls st) := by
  refine pm_backS (pm_runV S hM hm hlink (pm_blind (.ref b :: As) ev z) (fun U hU hW => ⟨rfl, by rw [hU]; exact hP, va_K.moved hW.alike hK, pX_next hX hS hU hW⟩) hrc hrm hn hsize hst hW hf hdg) hS (fun v st₀ t H1 locs1 h0 h1 hq h2 => ?_)
  obtain ⟨ho, hP', hF⟩ := hq
  cases ho
  exact kk H1 locs1 (by rw [← h1]; exact hP') (h2 hF)
theorem pm_cSv {ev : EV} {z : PS} {z9 : PS} (S : CallFix p m c cc nL s args gT own) (hK : KK ev s) (hX : pXt ev s) (hP : Wd ev z H) (hS : SS ev s H locs) (hM : Met l y (pWs y bytes maxL ret) rm (va_Pc As (pPe ev z)) (pQv ev z9) 0 0 (eA ev)) (hm : pm_Sm y bytes maxL ret n) (hlink : Cond.methodLink own index y ∈ gT)
    (hrm : (rm.cells = 0 ∧ rm.slots = 0) ∧ rm.frames + 1 ≤ R.frames ∧ 20 + (maxL + 11) + rm.locals ≤ R.locals) (hn : As.length = n) (hsize : ls.size = nL) (hst : st = As.reverse ++ rest) (hW : (rest.map fun v => v.category).sum ≤ 20) (hf : cells ≤ R.cells ∧ slots ≤ R.slots) (hdg : decode cc pc = .ok (.invokestatic index, 3))
    (kk : ∀ (H1 : Heap) (locs1 : List Loc), Wd ev z9 H1 → SS ev s H1 locs1 → W p l e R s m args below meth c H1 locs1 cells slots Q (F0 m (pc + 3) ls (rest))) : W p l e R s m args below meth c H locs cells slots Q (F0 m pc ls st) := by
  refine pm_backS (pm_runS S hM hm hlink (pm_blind As ev z) (fun U hU hW => ⟨rfl, by rw [hU]; exact hP, va_K.moved hW.alike hK, pX_next hX hS hU hW⟩) hrm hn hsize hst hW hf hdg) hS (fun v st₀ t H1 locs1 h0 h1 hq h2 => ?_)
  obtain ⟨ho, hP', hF⟩ := hq
  cases ho
  exact kk H1 locs1 (by rw [← h1]; exact hP') (h2 hF)
theorem pm_cVi {ev : EV} {z : PS} {z9 : PS} {r : Int32} (S : CallFix p m c cc nL s args gT own) (hK : KK ev s) (hX : pXt ev s) (hP : Wd ev z H) (hS : SS ev s H locs) (hM : Met l y (pWs y bytes maxL ret) rm (va_Pc (.ref b :: As) (pPe ev z)) (pQi ev r z9) 0 0 (eA ev)) (hm : pm_Vm y bytes maxL ret n) (hlink : Cond.methodLink own index y ∈ gT) (hrc : ∃ cell : Cell, H[b]? = some cell ∧ cell.vm.isStatics = false ∧ s.vm.findClass y.cls = some cell.cls)
    (hrm : (rm.cells = 0 ∧ rm.slots = 0) ∧ rm.frames + 1 ≤ R.frames ∧ 20 + (maxL + 11) + rm.locals ≤ R.locals) (hn : As.length = n) (hsize : ls.size = nL) (hst : st = As.reverse ++ .ref b :: rest) (hW : (rest.map fun v => v.category).sum ≤ 20) (hf : cells ≤ R.cells ∧ slots ≤ R.slots) (hdg : decode cc pc = .ok (.invokevirtual index, 3))
    (kk : ∀ (H1 : Heap) (locs1 : List Loc), Wd ev z9 H1 → SS ev s H1 locs1 → W p l e R s m args below meth c H1 locs1 cells slots Q (F0 m (pc + 3) ls (.int r :: rest))) : W p l e R s m args below meth c H locs cells slots Q (F0 m pc ls st) := by
  refine pm_backS (pm_runV S hM hm hlink (pm_blind (.ref b :: As) ev z) (fun U hU hW => ⟨rfl, by rw [hU]; exact hP, va_K.moved hW.alike hK, pX_next hX hS hU hW⟩) hrc hrm hn hsize hst hW hf hdg) hS (fun v st₀ t H1 locs1 h0 h1 hq h2 => ?_)
  obtain ⟨ho, hP', hF⟩ := hq
  cases ho
  exact kk H1 locs1 (by rw [← h1]; exact hP') (h2 hF)
theorem pm_cSi {ev : EV} {z : PS} {z9 : PS} {r : Int32} (S : CallFix p m c cc nL s args gT own) (hK : KK ev s) (hX : pXt ev s) (hP : Wd ev z H) (hS : SS ev s H locs) (hM : Met l y (pWs y bytes maxL ret) rm (va_Pc As (pPe ev z)) (pQi ev r z9) 0 0 (eA ev)) (hm : pm_Sm y bytes maxL ret n) (hlink : Cond.methodLink own index y ∈ gT)
    (hrm : (rm.cells = 0 ∧ rm.slots = 0) ∧ rm.frames + 1 ≤ R.frames ∧ 20 + (maxL + 11) + rm.locals ≤ R.locals) (hn : As.length = n) (hsize : ls.size = nL) (hst : st = As.reverse ++ rest) (hW : (rest.map fun v => v.category).sum ≤ 20) (hf : cells ≤ R.cells ∧ slots ≤ R.slots) (hdg : decode cc pc = .ok (.invokestatic index, 3))
    (kk : ∀ (H1 : Heap) (locs1 : List Loc), Wd ev z9 H1 → SS ev s H1 locs1 → W p l e R s m args below meth c H1 locs1 cells slots Q (F0 m (pc + 3) ls (.int r :: rest))) : W p l e R s m args below meth c H locs cells slots Q (F0 m pc ls st) := by
  refine pm_backS (pm_runS S hM hm hlink (pm_blind As ev z) (fun U hU hW => ⟨rfl, by rw [hU]; exact hP, va_K.moved hW.alike hK, pX_next hX hS hU hW⟩) hrm hn hsize hst hW hf hdg) hS (fun v st₀ t H1 locs1 h0 h1 hq h2 => ?_)
  obtain ⟨ho, hP', hF⟩ := hq
  cases ho
  exact kk H1 locs1 (by rw [← h1]; exact hP') (h2 hF)
theorem pm_cVl {ev : EV} {z : PS} {z9 : PS} {r : Int64} (S : CallFix p m c cc nL s args gT own) (hK : KK ev s) (hX : pXt ev s) (hP : Wd ev z H) (hS : SS ev s H locs) (hM : Met l y (pWs y bytes maxL ret) rm (va_Pc (.ref b :: As) (pPe ev z)) (pQl ev r z9) 0 0 (eA ev)) (hm : pm_Vm y bytes maxL ret n) (hlink : Cond.methodLink own index y ∈ gT) (hrc : ∃ cell : Cell, H[b]? = some cell ∧ cell.vm.isStatics = false ∧ s.vm.findClass y.cls = some cell.cls)
    (hrm : (rm.cells = 0 ∧ rm.slots = 0) ∧ rm.frames + 1 ≤ R.frames ∧ 20 + (maxL + 11) + rm.locals ≤ R.locals) (hn : As.length = n) (hsize : ls.size = nL) (hst : st = As.reverse ++ .ref b :: rest) (hW : (rest.map fun v => v.category).sum ≤ 20) (hf : cells ≤ R.cells ∧ slots ≤ R.slots) (hdg : decode cc pc = .ok (.invokevirtual index, 3))
    (kk : ∀ (H1 : Heap) (locs1 : List Loc), Wd ev z9 H1 → SS ev s H1 locs1 → W p l e R s m args below meth c H1 locs1 cells slots Q (F0 m (pc + 3) ls (.long r :: rest))) : W p l e R s m args below meth c H locs cells slots Q (F0 m pc ls st) := by
  refine pm_backS (pm_runV S hM hm hlink (pm_blind (.ref b :: As) ev z) (fun U hU hW => ⟨rfl, by rw [hU]; exact hP, va_K.moved hW.alike hK, pX_next hX hS hU hW⟩) hrc hrm hn hsize hst hW hf hdg) hS (fun v st₀ t H1 locs1 h0 h1 hq h2 => ?_)
  obtain ⟨ho, hP', hF⟩ := hq
  cases ho
  exact kk H1 locs1 (by rw [← h1]; exact hP') (h2 hF)
theorem pm_cSl {ev : EV} {z : PS} {z9 : PS} {r : Int64} (S : CallFix p m c cc nL s args gT own) (hK : KK ev s) (hX : pXt ev s) (hP : Wd ev z H) (hS : SS ev s H locs) (hM : Met l y (pWs y bytes maxL ret) rm (va_Pc As (pPe ev z)) (pQl ev r z9) 0 0 (eA ev)) (hm : pm_Sm y bytes maxL ret n) (hlink : Cond.methodLink own index y ∈ gT)
    (hrm : (rm.cells = 0 ∧ rm.slots = 0) ∧ rm.frames + 1 ≤ R.frames ∧ 20 + (maxL + 11) + rm.locals ≤ R.locals) (hn : As.length = n) (hsize : ls.size = nL) (hst : st = As.reverse ++ rest) (hW : (rest.map fun v => v.category).sum ≤ 20) (hf : cells ≤ R.cells ∧ slots ≤ R.slots) (hdg : decode cc pc = .ok (.invokestatic index, 3))
    (kk : ∀ (H1 : Heap) (locs1 : List Loc), Wd ev z9 H1 → SS ev s H1 locs1 → W p l e R s m args below meth c H1 locs1 cells slots Q (F0 m (pc + 3) ls (.long r :: rest))) : W p l e R s m args below meth c H locs cells slots Q (F0 m pc ls st) := by
  refine pm_backS (pm_runS S hM hm hlink (pm_blind As ev z) (fun U hU hW => ⟨rfl, by rw [hU]; exact hP, va_K.moved hW.alike hK, pX_next hX hS hU hW⟩) hrm hn hsize hst hW hf hdg) hS (fun v st₀ t H1 locs1 h0 h1 hq h2 => ?_)
  obtain ⟨ho, hP', hF⟩ := hq
  cases ho
  exact kk H1 locs1 (by rw [← h1]; exact hP') (h2 hF)
theorem pm_cVa {ev : EV} {z : PS} {z9 : PS} {r : Nat} (S : CallFix p m c cc nL s args gT own) (hK : KK ev s) (hX : pXt ev s) (hP : Wd ev z H) (hS : SS ev s H locs) (hM : Met l y (pWs y bytes maxL ret) rm (va_Pc (.ref b :: As) (pPe ev z)) (pQa ev r z9) 0 0 (eA ev)) (hm : pm_Vm y bytes maxL ret n) (hlink : Cond.methodLink own index y ∈ gT) (hrc : ∃ cell : Cell, H[b]? = some cell ∧ cell.vm.isStatics = false ∧ s.vm.findClass y.cls = some cell.cls)
    (hrm : (rm.cells = 0 ∧ rm.slots = 0) ∧ rm.frames + 1 ≤ R.frames ∧ 20 + (maxL + 11) + rm.locals ≤ R.locals) (hn : As.length = n) (hsize : ls.size = nL) (hst : st = As.reverse ++ .ref b :: rest) (hW : (rest.map fun v => v.category).sum ≤ 20) (hf : cells ≤ R.cells ∧ slots ≤ R.slots) (hdg : decode cc pc = .ok (.invokevirtual index, 3))
    (kk : ∀ (H1 : Heap) (locs1 : List Loc), Wd ev z9 H1 → SS ev s H1 locs1 → W p l e R s m args below meth c H1 locs1 cells slots Q (F0 m (pc + 3) ls (.ref r :: rest))) : W p l e R s m args below meth c H locs cells slots Q (F0 m pc ls st) := by
  refine pm_backS (pm_runV S hM hm hlink (pm_blind (.ref b :: As) ev z) (fun U hU hW => ⟨rfl, by rw [hU]; exact hP, va_K.moved hW.alike hK, pX_next hX hS hU hW⟩) hrc hrm hn hsize hst hW hf hdg) hS (fun v st₀ t H1 locs1 h0 h1 hq h2 => ?_)
  obtain ⟨ho, hP', hF⟩ := hq
  cases ho
  exact kk H1 locs1 (by rw [← h1]; exact hP') (h2 hF)
theorem pm_cSa {ev : EV} {z : PS} {z9 : PS} {r : Nat} (S : CallFix p m c cc nL s args gT own) (hK : KK ev s) (hX : pXt ev s) (hP : Wd ev z H) (hS : SS ev s H locs) (hM : Met l y (pWs y bytes maxL ret) rm (va_Pc As (pPe ev z)) (pQa ev r z9) 0 0 (eA ev)) (hm : pm_Sm y bytes maxL ret n) (hlink : Cond.methodLink own index y ∈ gT)
    (hrm : (rm.cells = 0 ∧ rm.slots = 0) ∧ rm.frames + 1 ≤ R.frames ∧ 20 + (maxL + 11) + rm.locals ≤ R.locals) (hn : As.length = n) (hsize : ls.size = nL) (hst : st = As.reverse ++ rest) (hW : (rest.map fun v => v.category).sum ≤ 20) (hf : cells ≤ R.cells ∧ slots ≤ R.slots) (hdg : decode cc pc = .ok (.invokestatic index, 3))
    (kk : ∀ (H1 : Heap) (locs1 : List Loc), Wd ev z9 H1 → SS ev s H1 locs1 → W p l e R s m args below meth c H1 locs1 cells slots Q (F0 m (pc + 3) ls (.ref r :: rest))) : W p l e R s m args below meth c H locs cells slots Q (F0 m pc ls st) := by
  refine pm_backS (pm_runS S hM hm hlink (pm_blind As ev z) (fun U hU hW => ⟨rfl, by rw [hU]; exact hP, va_K.moved hW.alike hK, pX_next hX hS hU hW⟩) hrm hn hsize hst hW hf hdg) hS (fun v st₀ t H1 locs1 h0 h1 hq h2 => ?_)
  obtain ⟨ho, hP', hF⟩ := hq
  cases ho
  exact kk H1 locs1 (by rw [← h1]; exact hP') (h2 hF)
/-- a nest mate's static method of numbers alone -/
theorem pm_cSN {r : Value} {host : String} (S : CallFix p m c cc nL s args gT own) (hM : Met l y (pWs y bytes maxL ret) rm (va_Pc As (fun _ => True)) (k2_QcV r) 0 0 (fun _ => False)) (hm : pm_Sm y bytes maxL ret n) (hlink : va_Nw (.methodLinkNest own index y host) s)
    (hrm : (rm.cells = 0 ∧ rm.slots = 0) ∧ rm.frames + 1 ≤ R.frames ∧ 20 + (maxL + 11) + rm.locals ≤ R.locals) (hn : As.length = n) (hsize : ls.size = nL) (hst : st = As.reverse ++ rest) (hW : (rest.map fun v => v.category).sum ≤ 20) (hf : cells ≤ R.cells ∧ slots ≤ R.slots) (hdg : decode cc pc = .ok (.invokestatic index, 3))
    (kk : W p l e R s m args below meth c H locs cells slots Q (F0 m (pc + 3) ls (r :: rest))) : W p l e R s m args below meth c H locs cells slots Q (F0 m pc ls st) := by
  have hK : Back l R p e below s args y 3 20 (PreOf R 0 0 (va_Pc As (fun _ => True))) (PostOf (k2_QcV r) 0 0 (fun _ => False)) := back_of (bytes := bytes) (maxL := maxL) (ret := ret) hM (pm_blindT As) hrm.1.1 hrm.1.2 hrm.2.1 hrm.2.2 (pm_words S hm.1) List.mem_cons_self (fun a' U hU => word_at hU (pm_ok _ hm.2.2.1) (S.2.2.2.2 _ hm.2.2.1))
  refine W.callV (rest := rest) (a := As.toArray) (r := r) ?_ kk
  intro T hT X
  obtain ⟨v, vm₁, ⟨U', l2, c2, s2⟩, hW₁, X', ⟨g', mk, t, L, e1, e2, hq, h1, hL, h2, h3⟩, st⟩ := va_callSN X S.1 (bytes := bytes) (maxL := maxL) (ret := ret) S.2.2.2.1 (va_Nw.use rfl hlink) (S.2.2.2.2 _ hm.2.1) (S.2.2.2.2 _ hm.2.2.1) (S.2.2.2.2 _ hm.1) hm.2.2.2.1 hK (g := F0 m pc ls st) rfl (hsize.trans S.2.2.1.symm) (argsL := As) (rest := rest) (pm_len hm.2.2.2.2 hn) hst (by simpa [JFrame.monitorRoom] using hW) (by rw [S.2.1]; exact hdg)
    (fun vm₁ hW₁ => ⟨hf.1, hf.2, rfl, trivial⟩)
  dsimp only [Pt.U, Pt.locs, Pt.cells, Pt.slots] at X' e1 e2 h1 h2 h3 st
  subst h1; subst h2; subst h3
  exact ⟨v, (T.setVm vm₁).calling g' mk As.toArray, t, U', L, hT, X', hL, e1, hq, st⟩
/-- ends -/
theorem pm_lretR {v r : Int64} (S : CallFix p m c cc nL s args gT own) (hr : meth.sig.returnType = some .long) (hlk : meth.locks = false) (hv : v = r) (hdg : decode cc pc = .ok (.lreturn, 1)) : W p l e R s m args below meth c s.heap [] cells slots (MQ below (k2_QcV (.long r)) args s cells slots (fun _ => False)) (F0 m pc ls [.long v]) :=
  W.lret S.1 S.2.1 hr (fun _ ht _ => ⟨by rw [hv], ht⟩) (fun _ h => absurd h List.not_mem_nil) hdg hlk
theorem pm_iretR {v r : Int32} (S : CallFix p m c cc nL s args gT own) (hr : meth.sig.returnType = some .int) (hlk : meth.locks = false) (hv : v = r) (hdg : decode cc pc = .ok (.ireturn, 1)) : W p l e R s m args below meth c s.heap [] cells slots (MQ below (k2_QcV (.int r)) args s cells slots (fun _ => False)) (F0 m pc ls [.int v]) :=
  W.iret S.1 S.2.1 hr (fun _ ht _ => ⟨by rw [hv], ht⟩) (fun _ h => absurd h List.not_mem_nil) hdg hlk
theorem pm_zretR {v r : Int32} (S : CallFix p m c cc nL s args gT own) (hr : meth.sig.returnType = some .boolean) (hlk : meth.locks = false) (hz : v = 0 ∨ v = 1) (hv : v = r) (hdg : decode cc pc = .ok (.ireturn, 1)) : W p l e R s m args below meth c s.heap [] cells slots (MQ below (k2_QcV (.int r)) args s cells slots (fun _ => False)) (F0 m pc ls [.int v]) :=
  W.zret S.1 S.2.1 hr (by rcases hz with h | h <;> rw [h] <;> decide) (fun _ ht _ => ⟨by rw [hv], ht⟩) (fun _ h => absurd h List.not_mem_nil) hdg hlk
theorem pm_vretW {ev : EV} {z z9 : PS} (S : CallFix p m c cc nL s args gT own) (hr : meth.sig.returnType = none) (hlk : meth.locks = false) (hP : Wd ev z H) (hS : SS ev s H locs) (hz9 : z = z9) (hdg : decode cc pc = .ok (.return_, 1)) : W p l e R s m args below meth c H locs cells slots (MQ below (pQv ev z9) args s cells slots (eA ev)) (F0 m pc ls []) :=
  W.vret S.1 S.2.1 hr (fun _ ht _ => ⟨rfl, by rw [ht, ← hz9]; exact hP, hS.F ht⟩) hS.2.2 hdg hlk
theorem pm_lretW {ev : EV} {z z9 : PS} {v r : Int64} (S : CallFix p m c cc nL s args gT own) (hr : meth.sig.returnType = some .long) (hlk : meth.locks = false) (hP : Wd ev z H) (hS : SS ev s H locs) (hv : v = r) (hz9 : z = z9) (hdg : decode cc pc = .ok (.lreturn, 1)) : W p l e R s m args below meth c H locs cells slots (MQ below (pQl ev r z9) args s cells slots (eA ev)) (F0 m pc ls [.long v]) :=
  W.lret S.1 S.2.1 hr (fun _ ht _ => ⟨by rw [hv], by rw [ht, ← hz9]; exact hP, hS.F ht⟩) hS.2.2 hdg hlk
theorem pm_iretW {ev : EV} {z z9 : PS} {v r : Int32} (S : CallFix p m c cc nL s args gT own) (hr : meth.sig.returnType = some .int) (hlk : meth.locks = false) (hP : Wd ev z H) (hS : SS ev s H locs) (hv : v = r) (hz9 : z = z9) (hdg : decode cc pc = .ok (.ireturn, 1)) : W p l e R s m args below meth c H locs cells slots (MQ below (pQi ev r z9) args s cells slots (eA ev)) (F0 m pc ls [.int v]) :=
  W.iret S.1 S.2.1 hr (fun _ ht _ => ⟨by rw [hv], by rw [ht, ← hz9]; exact hP, hS.F ht⟩) hS.2.2 hdg hlk
theorem pm_zretW {ev : EV} {z z9 : PS} {v r : Int32} (S : CallFix p m c cc nL s args gT own) (hr : meth.sig.returnType = some .boolean) (hlk : meth.locks = false) (hz : v = 0 ∨ v = 1) (hP : Wd ev z H) (hS : SS ev s H locs) (hv : v = r) (hz9 : z = z9) (hdg : decode cc pc = .ok (.ireturn, 1)) : W p l e R s m args below meth c H locs cells slots (MQ below (pQi ev r z9) args s cells slots (eA ev)) (F0 m pc ls [.int v]) :=
  W.zret S.1 S.2.1 hr (by rcases hz with h | h <;> rw [h] <;> decide) (fun _ ht _ => ⟨by rw [hv], by rw [ht, ← hz9]; exact hP, hS.F ht⟩) hS.2.2 hdg hlk
theorem pm_aretW {ev : EV} {z z9 : PS} {v r : Nat} {n : String} (S : CallFix p m c cc nL s args gT own) (hr : meth.sig.returnType = some (.object n)) (hlk : meth.locks = false) (hP : Wd ev z H) (hS : SS ev s H locs) (hv : v = r) (hz9 : z = z9) (hdg : decode cc pc = .ok (.areturn, 1)) : W p l e R s m args below meth c H locs cells slots (MQ below (pQa ev r z9) args s cells slots (eA ev)) (F0 m pc ls [.ref v]) :=
  W.aret S.1 S.2.1 hr (Or.inl ⟨n, rfl⟩) (Or.inr ⟨v, rfl⟩) (fun _ ht _ => ⟨by rw [hv], by rw [ht, ← hz9]; exact hP, hS.F ht⟩) hS.2.2 hdg hlk
end PMC
