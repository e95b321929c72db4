/-! the world out of its list -/
def lk (Ws : va_W) (a : Nat) : va_E := match Ws.find? (fun q => q.1 == a) with
  | some q => q.2
  | none => .inr (0, [])
def kd (e : va_E) : Nat := match e with
  | .inr o => o.1
  | .inl a => match a.2.2 with
    | .inl _ => 7
    | .inr (.inl _) => 8
    | _ => 9
def ln (e : va_E) : Nat := match e with
  | .inl a => a.2.1
  | .inr _ => 0
def vR (v : Value) : Nat := match v with
  | .ref x => x
  | _ => 0
def vI (v : Value) : Int32 := match v with
  | .int x => x
  | _ => 0
def vJ (v : Value) : Int64 := match v with
  | .long x => x
  | _ => 0
def fV (e : va_E) (k : Nat) : Value := match e with
  | .inr o => o.2.getD k .null
  | .inl _ => .null
def aI (e : va_E) (j : Nat) : Int32 := match e with
  | .inl a => match a.2.2 with
    | .inl f => f j
    | _ => 0
  | _ => 0
def aJ (e : va_E) (j : Nat) : Int64 := match e with
  | .inl a => match a.2.2 with
    | .inr (.inl f) => f j
    | _ => 0
  | _ => 0
def aH (e : va_E) (j : Nat) : Nat := match e with
  | .inl a => match a.2.2 with
    | .inr (.inr (.inr (.inr f))) => (f j).getD 0
    | _ => 0
  | _ => 0
def mkE (Ws : va_W) (cI cJ cH : ClassId) (D : va_G) (r9 : Nat → Nat) : EV := (Ws.map (fun q => q.1), fun a => kd (lk Ws a), fun a => ln (lk Ws a), fun i a => if 900 ≤ i then r9 i else vR (fV (lk Ws a) (i % 20)), fun a j => aH (lk Ws a) j, cI, cJ, cH, D)
def mkZ (Ws : va_W) : PS := (fun i a => vI (fV (lk Ws a) (i % 20)), fun i a => vJ (fV (lk Ws a) (i % 20)), fun a j => aI (lk Ws a) j, fun a j => aJ (lk Ws a) j)
theorem lk_of {Ws : va_W} {A : Nat → Prop} (hD : va_D A Ws) {k a : Nat} {e : va_E} (h : Ws[k]? = some (a, e)) : lk Ws a = e := by
  unfold lk
  have hk := List.mem_of_getElem? h
  cases hf : Ws.find? (fun q => q.1 == a) with
  | none =>
    have := List.find?_eq_none.mp hf (a, e) hk
    simp at this
  | some q =>
    have h1 := List.find?_some hf
    have h2 := List.mem_of_find?_eq_some hf
    obtain ⟨j, hj⟩ := List.getElem?_of_mem h2
    have h3 : q.1 = a := by simpa using h1
    have h4 := hD.1 j k q (a, e) hj h h3
    subst h4
    rw [h] at hj
    cases hj
    rfl
theorem lk_mem {Ws : va_W} {A : Nat → Prop} (hD : va_D A Ws) {a : Nat} {e : va_E} (h : (a, e) ∈ Ws) : lk Ws a = e := by
  obtain ⟨k, hk⟩ := List.getElem?_of_mem h
  exact lk_of hD hk
theorem mk_mem {Ws : va_W} {A : Nat → Prop} (hD : va_D A Ws) {a : Nat} (h : a ∈ Ws.map (fun q => q.1)) : (a, lk Ws a) ∈ Ws := by
  obtain ⟨q, h1, h2⟩ := List.mem_map.mp h
  obtain ⟨b, e⟩ := q
  cases h2
  rw [lk_mem hD h1]
  exact h1
theorem in_map {Ws : va_W} {a : Nat} {e : va_E} (h : (a, e) ∈ Ws) : a ∈ Ws.map (fun q => q.1) := List.mem_map.mpr ⟨(a, e), h, rfl⟩
/-- r leads to a cell of the kind k; to a row of n -/
def rfK (Ws : va_W) (k r : Nat) : Prop := ∃ e, (r, e) ∈ Ws ∧ kd e = k
def rfA (Ws : va_W) (k n r : Nat) : Prop := ∃ e, (r, e) ∈ Ws ∧ kd e = k ∧ ln e = n
def okW (Ws : va_W) (cI cJ cH : ClassId) (e : va_E) : Prop := (∃ a0 a1 a2 a3 a4 a5 a6 a7 a8 a9 a10 a11 : Int64, e = .inr (0, [.long a0, .long a1, .long a2, .long a3, .long a4, .long a5, .long a6, .long a7, .long a8, .long a9, .long a10, .long a11])) ∨ (∃ (i0 i1 i2 i3 i4 i5 i6 : Int32) (w : Nat) (i8 : Int32), e = .inr (1, [.int i0, .int i1, .int i2, .int i3, .int i4, .int i5, .int i6, .ref w, .int i8]) ∧ rfK Ws 0 w) ∨ (∃ (r0 r1 : Nat) (v : Int64) (r3 : Nat) (i4 : Int32), e = .inr (2, [.ref r0, .ref r1, .long v, .ref r3, .int i4]) ∧ rfK Ws 0 r0 ∧ rfK Ws 0 r1 ∧ rfK Ws 3 r3) ∨ (∃ (r0 : Nat) (i1 : Int32), e = .inr (3, [.ref r0, .int i1]) ∧ rfA Ws 7 16 r0) ∨ (∃ (r0 r1 : Nat) (i2 : Int32), e = .inr (4, [.ref r0, .ref r1, .int i2]) ∧ rfA Ws 7 242 r0 ∧ rfA Ws 7 242 r1) ∨ (∃ (r0 : Nat) (i1 : Int32) (r2 r3 r4 : Nat) (i5 : Int32) (r6 : Nat), e = .inr (5, [.ref r0, .int i1, .ref r2, .ref r3, .ref r4, .int i5, .ref r6]) ∧ rfA Ws 9 16 r0 ∧ rfK Ws 0 r2 ∧ rfK Ws 1 r3 ∧ rfK Ws 4 r4 ∧ rfA Ws 7 199 r6) ∨ (∃ (x0 : Int32) (x1 : Int32) (x2 : Nat) (x3 : Nat) (x4 : Nat) (x5 : Nat) (x6 : Int32) (x7 : Nat) (x8 : Int64) (x9 : Nat) (x10 : Int64) (x11 : Nat) (x12 : Nat) (x13 : Nat) (x14 : Nat) (x15 : Int32), e = .inr (6, [.int x0, .int x1, .ref x2, .ref x3, .ref x4, .ref x5, .int x6, .ref x7, .long x8, .ref x9, .long x10, .ref x11, .ref x12, .ref x13, .ref x14, .int x15]) ∧ rfA Ws 8 80 x2 ∧ rfA Ws 8 5 x3 ∧ rfA Ws 8 5 x4 ∧ rfA Ws 8 20 x5 ∧ rfA Ws 7 8 x7 ∧ rfA Ws 8 5 x9 ∧ rfA Ws 8 5 x11 ∧ rfA Ws 8 5 x12 ∧ rfA Ws 7 14 x13 ∧ rfA Ws 8 484 x14) ∨ (∃ (n : Nat) (f : Nat → Int32), e = .inl (cI, n, .inl f)) ∨ (∃ (n : Nat) (f : Nat → Int64), e = .inl (cJ, n, .inr (.inl f))) ∨ (∃ (n : Nat) (f : Nat → Nat), e = .inl (cH, n, .inr (.inr (.inr (.inr (fun i => some (f i)))))) ∧ ∀ i, i < 16 → rfK Ws 2 (f i))
section MK
variable {Ws : va_W} {cI cJ cH : ClassId} {D : va_G} {r9 : Nat → Nat} {A : Nat → Prop}
set_option maxHeartbeats 1000000 in
theorem cel_mk {a : Nat} (h : okW Ws cI cJ cH (lk Ws a)) : cel (mkE Ws cI cJ cH D r9) (mkZ Ws) a = lk Ws a := by
  rcases h with ⟨a0, a1, a2, a3, a4, a5, a6, a7, a8, a9, a10, a11, h⟩ | ⟨i0, i1, i2, i3, i4, i5, i6, w, i8, h, g⟩ | ⟨r0, r1, v, r3, i4, h, g⟩ | ⟨r0, i1, h, g⟩ | ⟨r0, r1, i2, h, g⟩ | ⟨r0, i1, r2, r3, r4, i5, r6, h, g⟩ | ⟨x0, x1, x2, x3, x4, x5, x6, x7, x8, x9, x10, x11, x12, x13, x14, x15, h, g⟩ | ⟨n, f, h⟩ | ⟨n, f, h⟩ | ⟨n, f, h, g⟩
  all_goals
    rw [h]
    simp only [cel, mkE, mkZ, eK, eN, eI, eJ, eH, r32, r64, rf, rh, h]
    rfl
theorem Wd_mk {H : Heap} (hP : va_P D vwCl Ws H) (hD : va_D A Ws) (hok : ∀ q ∈ Ws, okW Ws cI cJ cH q.2) : Wd (mkE Ws cI cJ cH D r9) (mkZ Ws) H := by
  intro k q hk
  have hk : (va_pl (Ws.map (fun q => q.1)) (cel (mkE Ws cI cJ cH D r9) (mkZ Ws)))[k]? = some q := hk
  simp only [va_pl, List.getElem?_map, Option.map_eq_some_iff] at hk
  obtain ⟨a, ⟨x, hx, rfl⟩, rfl⟩ := hk
  obtain ⟨a, e⟩ := x
  have hl := lk_of hD hx
  have hc : cel (mkE Ws cI cJ cH D r9) (mkZ Ws) a = e := by
    rw [cel_mk (by rw [hl]; exact hok (a, e) (List.mem_of_getElem? hx)), hl]
  dsimp only
  rw [hc]
  exact hP k (a, e) hx
theorem isK_mk (hD : va_D A Ws) {k r : Nat} (h : rfK Ws k r) : isK (mkE Ws cI cJ cH D r9) k r := by
  obtain ⟨e, h1, h2⟩ := h
  refine ⟨in_map h1, ?_⟩
  show kd (lk Ws r) = k
  rw [lk_mem hD h1]
  exact h2
theorem isA_mk (hD : va_D A Ws) {k n r : Nat} (h : rfA Ws k n r) : isK (mkE Ws cI cJ cH D r9) k r ∧ eN (mkE Ws cI cJ cH D r9) r = n := by
  obtain ⟨e, h1, h2, h3⟩ := h
  refine ⟨isK_mk hD ⟨e, h1, h2⟩, ?_⟩
  show ln (lk Ws r) = n
  rw [lk_mem hD h1]
  exact h3
theorem ok_1 (hD : va_D A Ws) (hok : ∀ q ∈ Ws, okW Ws cI cJ cH q.2) {x : Nat} (hx : isK (mkE Ws cI cJ cH D r9) 1 x) : (∃ (i0 i1 i2 i3 i4 i5 i6 : Int32) (w : Nat) (i8 : Int32), lk Ws x = .inr (1, [.int i0, .int i1, .int i2, .int i3, .int i4, .int i5, .int i6, .ref w, .int i8]) ∧ rfK Ws 0 w) := by
  have hm := mk_mem hD hx.1
  have hk : kd (lk Ws x) = 1 := hx.2
  rcases hok _ hm with ⟨a0, a1, a2, a3, a4, a5, a6, a7, a8, a9, a10, a11, h⟩ | ⟨i0, i1, i2, i3, i4, i5, i6, w, i8, h, g⟩ | ⟨r0, r1, v, r3, i4, h, g⟩ | ⟨r0, i1, h, g⟩ | ⟨r0, r1, i2, h, g⟩ | ⟨r0, i1, r2, r3, r4, i5, r6, h, g⟩ | ⟨x0, x1, x2, x3, x4, x5, x6, x7, x8, x9, x10, x11, x12, x13, x14, x15, h, g⟩ | ⟨n, f, h⟩ | ⟨n, f, h⟩ | ⟨n, f, h, g⟩
  · have h : lk Ws x = _ := h
    rw [h] at hk
    exact absurd hk (by simp [kd])
  · exact ⟨i0, i1, i2, i3, i4, i5, i6, w, i8, h, g⟩
  · have h : lk Ws x = _ := h
    rw [h] at hk
    exact absurd hk (by simp [kd])
  · have h : lk Ws x = _ := h
    rw [h] at hk
    exact absurd hk (by simp [kd])
  · have h : lk Ws x = _ := h
    rw [h] at hk
    exact absurd hk (by simp [kd])
  · have h : lk Ws x = _ := h
    rw [h] at hk
    exact absurd hk (by simp [kd])
  · have h : lk Ws x = _ := h
    rw [h] at hk
    exact absurd hk (by simp [kd])
  · have h : lk Ws x = _ := h
    rw [h] at hk
    exact absurd hk (by simp [kd])
  · have h : lk Ws x = _ := h
    rw [h] at hk
    exact absurd hk (by simp [kd])
  · have h : lk Ws x = _ := h
    rw [h] at hk
    exact absurd hk (by simp [kd])
theorem ok_2 (hD : va_D A Ws) (hok : ∀ q ∈ Ws, okW Ws cI cJ cH q.2) {x : Nat} (hx : isK (mkE Ws cI cJ cH D r9) 2 x) : (∃ (r0 r1 : Nat) (v : Int64) (r3 : Nat) (i4 : Int32), lk Ws x = .inr (2, [.ref r0, .ref r1, .long v, .ref r3, .int i4]) ∧ rfK Ws 0 r0 ∧ rfK Ws 0 r1 ∧ rfK Ws 3 r3) := by
  have hm := mk_mem hD hx.1
  have hk : kd (lk Ws x) = 2 := hx.2
  rcases hok _ hm with ⟨a0, a1, a2, a3, a4, a5, a6, a7, a8, a9, a10, a11, h⟩ | ⟨i0, i1, i2, i3, i4, i5, i6, w, i8, h, g⟩ | ⟨r0, r1, v, r3, i4, h, g⟩ | ⟨r0, i1, h, g⟩ | ⟨r0, r1, i2, h, g⟩ | ⟨r0, i1, r2, r3, r4, i5, r6, h, g⟩ | ⟨x0, x1, x2, x3, x4, x5, x6, x7, x8, x9, x10, x11, x12, x13, x14, x15, h, g⟩ | ⟨n, f, h⟩ | ⟨n, f, h⟩ | ⟨n, f, h, g⟩
  · have h : lk Ws x = _ := h
    rw [h] at hk
    exact absurd hk (by simp [kd])
  · have h : lk Ws x = _ := h
    rw [h] at hk
    exact absurd hk (by simp [kd])
  · exact ⟨r0, r1, v, r3, i4, h, g⟩
  · have h : lk Ws x = _ := h
    rw [h] at hk
    exact absurd hk (by simp [kd])
  · have h : lk Ws x = _ := h
    rw [h] at hk
    exact absurd hk (by simp [kd])
  · have h : lk Ws x = _ := h
    rw [h] at hk
    exact absurd hk (by simp [kd])
  · have h : lk Ws x = _ := h
    rw [h] at hk
    exact absurd hk (by simp [kd])
  · have h : lk Ws x = _ := h
    rw [h] at hk
    exact absurd hk (by simp [kd])
  · have h : lk Ws x = _ := h
    rw [h] at hk
    exact absurd hk (by simp [kd])
  · have h : lk Ws x = _ := h
    rw [h] at hk
    exact absurd hk (by simp [kd])
theorem ok_3 (hD : va_D A Ws) (hok : ∀ q ∈ Ws, okW Ws cI cJ cH q.2) {x : Nat} (hx : isK (mkE Ws cI cJ cH D r9) 3 x) : (∃ (r0 : Nat) (i1 : Int32), lk Ws x = .inr (3, [.ref r0, .int i1]) ∧ rfA Ws 7 16 r0) := by
  have hm := mk_mem hD hx.1
  have hk : kd (lk Ws x) = 3 := hx.2
  rcases hok _ hm with ⟨a0, a1, a2, a3, a4, a5, a6, a7, a8, a9, a10, a11, h⟩ | ⟨i0, i1, i2, i3, i4, i5, i6, w, i8, h, g⟩ | ⟨r0, r1, v, r3, i4, h, g⟩ | ⟨r0, i1, h, g⟩ | ⟨r0, r1, i2, h, g⟩ | ⟨r0, i1, r2, r3, r4, i5, r6, h, g⟩ | ⟨x0, x1, x2, x3, x4, x5, x6, x7, x8, x9, x10, x11, x12, x13, x14, x15, h, g⟩ | ⟨n, f, h⟩ | ⟨n, f, h⟩ | ⟨n, f, h, g⟩
  · have h : lk Ws x = _ := h
    rw [h] at hk
    exact absurd hk (by simp [kd])
  · have h : lk Ws x = _ := h
    rw [h] at hk
    exact absurd hk (by simp [kd])
  · have h : lk Ws x = _ := h
    rw [h] at hk
    exact absurd hk (by simp [kd])
  · exact ⟨r0, i1, h, g⟩
  · have h : lk Ws x = _ := h
    rw [h] at hk
    exact absurd hk (by simp [kd])
  · have h : lk Ws x = _ := h
    rw [h] at hk
    exact absurd hk (by simp [kd])
  · have h : lk Ws x = _ := h
    rw [h] at hk
    exact absurd hk (by simp [kd])
  · have h : lk Ws x = _ := h
    rw [h] at hk
    exact absurd hk (by simp [kd])
  · have h : lk Ws x = _ := h
    rw [h] at hk
    exact absurd hk (by simp [kd])
  · have h : lk Ws x = _ := h
    rw [h] at hk
    exact absurd hk (by simp [kd])
theorem ok_4 (hD : va_D A Ws) (hok : ∀ q ∈ Ws, okW Ws cI cJ cH q.2) {x : Nat} (hx : isK (mkE Ws cI cJ cH D r9) 4 x) : (∃ (r0 r1 : Nat) (i2 : Int32), lk Ws x = .inr (4, [.ref r0, .ref r1, .int i2]) ∧ rfA Ws 7 242 r0 ∧ rfA Ws 7 242 r1) := by
  have hm := mk_mem hD hx.1
  have hk : kd (lk Ws x) = 4 := hx.2
  rcases hok _ hm with ⟨a0, a1, a2, a3, a4, a5, a6, a7, a8, a9, a10, a11, h⟩ | ⟨i0, i1, i2, i3, i4, i5, i6, w, i8, h, g⟩ | ⟨r0, r1, v, r3, i4, h, g⟩ | ⟨r0, i1, h, g⟩ | ⟨r0, r1, i2, h, g⟩ | ⟨r0, i1, r2, r3, r4, i5, r6, h, g⟩ | ⟨x0, x1, x2, x3, x4, x5, x6, x7, x8, x9, x10, x11, x12, x13, x14, x15, h, g⟩ | ⟨n, f, h⟩ | ⟨n, f, h⟩ | ⟨n, f, h, g⟩
  · have h : lk Ws x = _ := h
    rw [h] at hk
    exact absurd hk (by simp [kd])
  · have h : lk Ws x = _ := h
    rw [h] at hk
    exact absurd hk (by simp [kd])
  · have h : lk Ws x = _ := h
    rw [h] at hk
    exact absurd hk (by simp [kd])
  · have h : lk Ws x = _ := h
    rw [h] at hk
    exact absurd hk (by simp [kd])
  · exact ⟨r0, r1, i2, h, g⟩
  · have h : lk Ws x = _ := h
    rw [h] at hk
    exact absurd hk (by simp [kd])
  · have h : lk Ws x = _ := h
    rw [h] at hk
    exact absurd hk (by simp [kd])
  · have h : lk Ws x = _ := h
    rw [h] at hk
    exact absurd hk (by simp [kd])
  · have h : lk Ws x = _ := h
    rw [h] at hk
    exact absurd hk (by simp [kd])
  · have h : lk Ws x = _ := h
    rw [h] at hk
    exact absurd hk (by simp [kd])
theorem ok_5 (hD : va_D A Ws) (hok : ∀ q ∈ Ws, okW Ws cI cJ cH q.2) {x : Nat} (hx : isK (mkE Ws cI cJ cH D r9) 5 x) : (∃ (r0 : Nat) (i1 : Int32) (r2 r3 r4 : Nat) (i5 : Int32) (r6 : Nat), lk Ws x = .inr (5, [.ref r0, .int i1, .ref r2, .ref r3, .ref r4, .int i5, .ref r6]) ∧ rfA Ws 9 16 r0 ∧ rfK Ws 0 r2 ∧ rfK Ws 1 r3 ∧ rfK Ws 4 r4 ∧ rfA Ws 7 199 r6) := by
  have hm := mk_mem hD hx.1
  have hk : kd (lk Ws x) = 5 := hx.2
  rcases hok _ hm with ⟨a0, a1, a2, a3, a4, a5, a6, a7, a8, a9, a10, a11, h⟩ | ⟨i0, i1, i2, i3, i4, i5, i6, w, i8, h, g⟩ | ⟨r0, r1, v, r3, i4, h, g⟩ | ⟨r0, i1, h, g⟩ | ⟨r0, r1, i2, h, g⟩ | ⟨r0, i1, r2, r3, r4, i5, r6, h, g⟩ | ⟨x0, x1, x2, x3, x4, x5, x6, x7, x8, x9, x10, x11, x12, x13, x14, x15, h, g⟩ | ⟨n, f, h⟩ | ⟨n, f, h⟩ | ⟨n, f, h, g⟩
  · have h : lk Ws x = _ := h
    rw [h] at hk
    exact absurd hk (by simp [kd])
  · have h : lk Ws x = _ := h
    rw [h] at hk
    exact absurd hk (by simp [kd])
  · have h : lk Ws x = _ := h
    rw [h] at hk
    exact absurd hk (by simp [kd])
  · have h : lk Ws x = _ := h
    rw [h] at hk
    exact absurd hk (by simp [kd])
  · have h : lk Ws x = _ := h
    rw [h] at hk
    exact absurd hk (by simp [kd])
  · exact ⟨r0, i1, r2, r3, r4, i5, r6, h, g⟩
  · have h : lk Ws x = _ := h
    rw [h] at hk
    exact absurd hk (by simp [kd])
  · have h : lk Ws x = _ := h
    rw [h] at hk
    exact absurd hk (by simp [kd])
  · have h : lk Ws x = _ := h
    rw [h] at hk
    exact absurd hk (by simp [kd])
  · have h : lk Ws x = _ := h
    rw [h] at hk
    exact absurd hk (by simp [kd])
theorem ok_6 (hD : va_D A Ws) (hok : ∀ q ∈ Ws, okW Ws cI cJ cH q.2) {x : Nat} (hx : isK (mkE Ws cI cJ cH D r9) 6 x) : (∃ (x0 : Int32) (x1 : Int32) (x2 : Nat) (x3 : Nat) (x4 : Nat) (x5 : Nat) (x6 : Int32) (x7 : Nat) (x8 : Int64) (x9 : Nat) (x10 : Int64) (x11 : Nat) (x12 : Nat) (x13 : Nat) (x14 : Nat) (x15 : Int32), lk Ws x = .inr (6, [.int x0, .int x1, .ref x2, .ref x3, .ref x4, .ref x5, .int x6, .ref x7, .long x8, .ref x9, .long x10, .ref x11, .ref x12, .ref x13, .ref x14, .int x15]) ∧ rfA Ws 8 80 x2 ∧ rfA Ws 8 5 x3 ∧ rfA Ws 8 5 x4 ∧ rfA Ws 8 20 x5 ∧ rfA Ws 7 8 x7 ∧ rfA Ws 8 5 x9 ∧ rfA Ws 8 5 x11 ∧ rfA Ws 8 5 x12 ∧ rfA Ws 7 14 x13 ∧ rfA Ws 8 484 x14) := by
  have hm := mk_mem hD hx.1
  have hk : kd (lk Ws x) = 6 := hx.2
  rcases hok _ hm with ⟨a0, a1, a2, a3, a4, a5, a6, a7, a8, a9, a10, a11, h⟩ | ⟨i0, i1, i2, i3, i4, i5, i6, w, i8, h, g⟩ | ⟨r0, r1, v, r3, i4, h, g⟩ | ⟨r0, i1, h, g⟩ | ⟨r0, r1, i2, h, g⟩ | ⟨r0, i1, r2, r3, r4, i5, r6, h, g⟩ | ⟨x0, x1, x2, x3, x4, x5, x6, x7, x8, x9, x10, x11, x12, x13, x14, x15, h, g⟩ | ⟨n, f, h⟩ | ⟨n, f, h⟩ | ⟨n, f, h, g⟩
  · have h : lk Ws x = _ := h
    rw [h] at hk
    exact absurd hk (by simp [kd])
  · have h : lk Ws x = _ := h
    rw [h] at hk
    exact absurd hk (by simp [kd])
  · have h : lk Ws x = _ := h
    rw [h] at hk
    exact absurd hk (by simp [kd])
  · have h : lk Ws x = _ := h
    rw [h] at hk
    exact absurd hk (by simp [kd])
  · have h : lk Ws x = _ := h
    rw [h] at hk
    exact absurd hk (by simp [kd])
  · have h : lk Ws x = _ := h
    rw [h] at hk
    exact absurd hk (by simp [kd])
  · exact ⟨x0, x1, x2, x3, x4, x5, x6, x7, x8, x9, x10, x11, x12, x13, x14, x15, h, g⟩
  · have h : lk Ws x = _ := h
    rw [h] at hk
    exact absurd hk (by simp [kd])
  · have h : lk Ws x = _ := h
    rw [h] at hk
    exact absurd hk (by simp [kd])
  · have h : lk Ws x = _ := h
    rw [h] at hk
    exact absurd hk (by simp [kd])
theorem ok_9 (hD : va_D A Ws) (hok : ∀ q ∈ Ws, okW Ws cI cJ cH q.2) {x : Nat} (hx : isK (mkE Ws cI cJ cH D r9) 9 x) : (∃ (n : Nat) (f : Nat → Nat), lk Ws x = .inl (cH, n, .inr (.inr (.inr (.inr (fun i => some (f i)))))) ∧ ∀ i, i < 16 → rfK Ws 2 (f i)) := by
  have hm := mk_mem hD hx.1
  have hk : kd (lk Ws x) = 9 := hx.2
  rcases hok _ hm with ⟨a0, a1, a2, a3, a4, a5, a6, a7, a8, a9, a10, a11, h⟩ | ⟨i0, i1, i2, i3, i4, i5, i6, w, i8, h, g⟩ | ⟨r0, r1, v, r3, i4, h, g⟩ | ⟨r0, i1, h, g⟩ | ⟨r0, r1, i2, h, g⟩ | ⟨r0, i1, r2, r3, r4, i5, r6, h, g⟩ | ⟨x0, x1, x2, x3, x4, x5, x6, x7, x8, x9, x10, x11, x12, x13, x14, x15, h, g⟩ | ⟨n, f, h⟩ | ⟨n, f, h⟩ | ⟨n, f, h, g⟩
  · have h : lk Ws x = _ := h
    rw [h] at hk
    exact absurd hk (by simp [kd])
  · have h : lk Ws x = _ := h
    rw [h] at hk
    exact absurd hk (by simp [kd])
  · have h : lk Ws x = _ := h
    rw [h] at hk
    exact absurd hk (by simp [kd])
  · have h : lk Ws x = _ := h
    rw [h] at hk
    exact absurd hk (by simp [kd])
  · have h : lk Ws x = _ := h
    rw [h] at hk
    exact absurd hk (by simp [kd])
  · have h : lk Ws x = _ := h
    rw [h] at hk
    exact absurd hk (by simp [kd])
  · have h : lk Ws x = _ := h
    rw [h] at hk
    exact absurd hk (by simp [kd])
  · have h : lk Ws x = _ := h
    rw [h] at hk
    exact absurd hk (by simp [kd])
  · have h : lk Ws x = _ := h
    rw [h] at hk
    exact absurd hk (by simp [kd])
  · exact ⟨n, f, h, g⟩
theorem EWF_mk (hD : va_D A Ws) (hok : ∀ q ∈ Ws, okW Ws cI cJ cH q.2) : EWF (mkE Ws cI cJ cH D r9) := by
  have rfe : ∀ (x i : Nat) (fs : List Value) (c r : Nat), ¬ 900 ≤ i → lk Ws x = .inr (c, fs) → fs.getD (i % 20) .null = .ref r → rf (mkE Ws cI cJ cH D r9) i x = r := fun x i fs c r hi h1 h2 => by
    show (if 900 ≤ i then r9 i else vR (fV (lk Ws x) (i % 20))) = r
    rw [if_neg hi, h1]
    show vR (fs.getD (i % 20) .null) = r
    rw [h2]
    rfl
  refine ⟨?nd, ?c1, ?c2, ?c3, ?c4, ?c5, ?c6, ?c7, ?c8, ?c9, ?c10, ?c11, ?c12, ?c13, ?c14, ?c15, ?c16, ?c17, ?c18, ?c19, ?c20, ?c21, ?c22, ?c23⟩
  case nd =>
    show (Ws.map (fun q => q.1)).Nodup
    refine List.pairwise_iff_getElem.mpr (fun i j hi hj hij he => ?_)
    have h1 : i < Ws.length := by rw [List.length_map] at hi; exact hi
    have h2 : j < Ws.length := by rw [List.length_map] at hj; exact hj
    rw [List.getElem_map, List.getElem_map] at he
    have := hD.1 i j _ _ (List.getElem?_eq_getElem h1) (List.getElem?_eq_getElem h2) he
    omega
  case c1 =>
    intro x hx
    obtain ⟨i0, i1, i2, i3, i4, i5, i6, w, i8, h, g⟩ := ok_1 hD hok hx
    rw [rfe x 27 _ _ _ (by decide) h rfl]
    exact isK_mk hD (g)
  case c2 =>
    intro x hx
    obtain ⟨r0, r1, v, r3, i4, h, g⟩ := ok_2 hD hok hx
    rw [rfe x 40 _ _ _ (by decide) h rfl]
    exact isK_mk hD (g.1)
  case c3 =>
    intro x hx
    obtain ⟨r0, r1, v, r3, i4, h, g⟩ := ok_2 hD hok hx
    rw [rfe x 41 _ _ _ (by decide) h rfl]
    exact isK_mk hD (g.2.1)
  case c4 =>
    intro x hx
    obtain ⟨r0, r1, v, r3, i4, h, g⟩ := ok_2 hD hok hx
    rw [rfe x 43 _ _ _ (by decide) h rfl]
    exact isK_mk hD (g.2.2)
  case c5 =>
    intro x hx
    obtain ⟨r0, i1, h, g⟩ := ok_3 hD hok hx
    rw [rfe x 60 _ _ _ (by decide) h rfl]
    exact isA_mk hD (g)
  case c6 =>
    intro x hx
    obtain ⟨r0, r1, i2, h, g⟩ := ok_4 hD hok hx
    rw [rfe x 80 _ _ _ (by decide) h rfl]
    exact isA_mk hD (g.1)
  case c7 =>
    intro x hx
    obtain ⟨r0, r1, i2, h, g⟩ := ok_4 hD hok hx
    rw [rfe x 81 _ _ _ (by decide) h rfl]
    exact isA_mk hD (g.2)
  case c8 =>
    intro x hx
    obtain ⟨r0, i1, r2, r3, r4, i5, r6, h, g⟩ := ok_5 hD hok hx
    rw [rfe x 100 _ _ _ (by decide) h rfl]
    exact isA_mk hD (g.1)
  case c9 =>
    intro x hx
    obtain ⟨r0, i1, r2, r3, r4, i5, r6, h, g⟩ := ok_5 hD hok hx
    rw [rfe x 102 _ _ _ (by decide) h rfl]
    exact isK_mk hD (g.2.1)
  case c10 =>
    intro x hx
    obtain ⟨r0, i1, r2, r3, r4, i5, r6, h, g⟩ := ok_5 hD hok hx
    rw [rfe x 103 _ _ _ (by decide) h rfl]
    exact isK_mk hD (g.2.2.1)
  case c11 =>
    intro x hx
    obtain ⟨r0, i1, r2, r3, r4, i5, r6, h, g⟩ := ok_5 hD hok hx
    rw [rfe x 104 _ _ _ (by decide) h rfl]
    exact isK_mk hD (g.2.2.2.1)
  case c12 =>
    intro x hx
    obtain ⟨r0, i1, r2, r3, r4, i5, r6, h, g⟩ := ok_5 hD hok hx
    rw [rfe x 106 _ _ _ (by decide) h rfl]
    exact isA_mk hD (g.2.2.2.2)
  case c13 =>
    intro x hx
    obtain ⟨x0, x1, x2, x3, x4, x5, x6, x7, x8, x9, x10, x11, x12, x13, x14, x15, h, g⟩ := ok_6 hD hok hx
    rw [rfe x 122 _ _ _ (by decide) h rfl]
    exact isA_mk hD (g.1)
  case c14 =>
    intro x hx
    obtain ⟨x0, x1, x2, x3, x4, x5, x6, x7, x8, x9, x10, x11, x12, x13, x14, x15, h, g⟩ := ok_6 hD hok hx
    rw [rfe x 123 _ _ _ (by decide) h rfl]
    exact isA_mk hD (g.2.1)
  case c15 =>
    intro x hx
    obtain ⟨x0, x1, x2, x3, x4, x5, x6, x7, x8, x9, x10, x11, x12, x13, x14, x15, h, g⟩ := ok_6 hD hok hx
    rw [rfe x 124 _ _ _ (by decide) h rfl]
    exact isA_mk hD (g.2.2.1)
  case c16 =>
    intro x hx
    obtain ⟨x0, x1, x2, x3, x4, x5, x6, x7, x8, x9, x10, x11, x12, x13, x14, x15, h, g⟩ := ok_6 hD hok hx
    rw [rfe x 125 _ _ _ (by decide) h rfl]
    exact isA_mk hD (g.2.2.2.1)
  case c17 =>
    intro x hx
    obtain ⟨x0, x1, x2, x3, x4, x5, x6, x7, x8, x9, x10, x11, x12, x13, x14, x15, h, g⟩ := ok_6 hD hok hx
    rw [rfe x 127 _ _ _ (by decide) h rfl]
    exact isA_mk hD (g.2.2.2.2.1)
  case c18 =>
    intro x hx
    obtain ⟨x0, x1, x2, x3, x4, x5, x6, x7, x8, x9, x10, x11, x12, x13, x14, x15, h, g⟩ := ok_6 hD hok hx
    rw [rfe x 129 _ _ _ (by decide) h rfl]
    exact isA_mk hD (g.2.2.2.2.2.1)
  case c19 =>
    intro x hx
    obtain ⟨x0, x1, x2, x3, x4, x5, x6, x7, x8, x9, x10, x11, x12, x13, x14, x15, h, g⟩ := ok_6 hD hok hx
    rw [rfe x 131 _ _ _ (by decide) h rfl]
    exact isA_mk hD (g.2.2.2.2.2.2.1)
  case c20 =>
    intro x hx
    obtain ⟨x0, x1, x2, x3, x4, x5, x6, x7, x8, x9, x10, x11, x12, x13, x14, x15, h, g⟩ := ok_6 hD hok hx
    rw [rfe x 132 _ _ _ (by decide) h rfl]
    exact isA_mk hD (g.2.2.2.2.2.2.2.1)
  case c21 =>
    intro x hx
    obtain ⟨x0, x1, x2, x3, x4, x5, x6, x7, x8, x9, x10, x11, x12, x13, x14, x15, h, g⟩ := ok_6 hD hok hx
    rw [rfe x 133 _ _ _ (by decide) h rfl]
    exact isA_mk hD (g.2.2.2.2.2.2.2.2.1)
  case c22 =>
    intro x hx
    obtain ⟨x0, x1, x2, x3, x4, x5, x6, x7, x8, x9, x10, x11, x12, x13, x14, x15, h, g⟩ := ok_6 hD hok hx
    rw [rfe x 134 _ _ _ (by decide) h rfl]
    exact isA_mk hD (g.2.2.2.2.2.2.2.2.2)
  case c23 =>
    intro x i hx hi
    obtain ⟨n, f, h, g⟩ := ok_9 hD hok hx
    have e : rh (mkE Ws cI cJ cH D r9) x i = f i := by
      show aH (lk Ws x) i = f i
      rw [h]
      rfl
    rw [e]
    exact isK_mk hD (g i hi)
end MK
