/-! ===== the world: a list of cells from an address on; a cell of type short is any cell at all ===== -/
abbrev sx_E : Type := (FieldType × vp_A) ⊕ (Nat × List Value)
abbrev sx_H : Type := List sx_E
def sx_at (D : va_G) (a : Nat) (c : ClassId) (x : sx_E) (H : Heap) : Prop := match x with
  | .inl q => (q.1 = .short ∧ ∃ ce : Cell, H[a]? = some ce) ∨ (¬ q.1 = .short ∧ H[a]? = some (vp_cell c q.2))
  | .inr o => va_at D vwCl (a, .inr o) H
theorem sx_at.kept {D : va_G} {a : Nat} {c : ClassId} {x : sx_E} {H H1 : Heap} (h : sx_at D a c x H) (hq : H1[a]? = H[a]?) : sx_at D a c x H1 := by
  cases x with
  | inl q =>
    rcases h with ⟨h1, h2⟩ | ⟨h1, h2⟩
    · exact Or.inl ⟨h1, by rw [hq]; exact h2⟩
    · exact Or.inr ⟨h1, by rw [hq]; exact h2⟩
  | inr o => exact va_at.kept (q := (a, .inr o)) h hq
theorem sx_at.lt {D : va_G} {a : Nat} {c : ClassId} {x : sx_E} {H : Heap} (h : sx_at D a c x H) : a < H.size := by
  cases x with
  | inl q =>
    rcases h with ⟨-, ce, h⟩ | ⟨-, h⟩
    · exact (Array.getElem?_eq_some_iff.mp h).1
    · exact (Array.getElem?_eq_some_iff.mp h).1
  | inr o => exact va_at.lt (q := (a, .inr o)) h
def sx_P (D : va_G) (b : Nat) (cA : Nat → ClassId) (σ : sx_H) (H : Heap) : Prop := ∀ (k : Nat) (x : sx_E), σ[k]? = some x → sx_at D (b + k) (cA (b + k)) x H
theorem sx_P.obj {D : va_G} {b : Nat} {cA : Nat → ClassId} {σ : sx_H} {H : Heap} (h : sx_P D b cA σ H) {i : Nat} {o : Nat × List Value} (hi : σ[i]? = some (.inr o)) : va_at D vwCl (b + i, .inr o) H := h i _ hi
theorem sx_P.arr {D : va_G} {b : Nat} {cA : Nat → ClassId} {σ : sx_H} {H : Heap} (h : sx_P D b cA σ H) {i : Nat} {ty : FieldType} {a : vp_A} (hi : σ[i]? = some (.inl (ty, a))) (ht : ¬ ty = .short) : H[b + i]? = some (vp_cell (cA (b + i)) a) := by
  rcases h i _ hi with ⟨h1, -⟩ | ⟨-, h2⟩
  · exact absurd h1 ht
  · exact h2
theorem sx_P1 {D : va_G} {q : Nat × va_E} {H : Heap} (h : va_at D vwCl q H) : va_P D vwCl [q] H := fun k x hx => by
  have hz : k < 1 := (List.getElem?_eq_some_iff.mp hx).1
  rw [show k = 0 by omega] at hx
  cases hx
  exact h
theorem sx_P.set {D : va_G} {b : Nat} {cA : Nat → ClassId} {σ : sx_H} {H H1 : Heap} (h : sx_P D b cA σ H) {i : Nat} {x : sx_E} (hx : sx_at D (b + i) (cA (b + i)) x H1) (oq : ∀ q : Nat, q ≠ b + i → H1[q]? = H[q]?) : sx_P D b cA (σ.set i x) H1 := by
  intro k y hk
  by_cases e : i = k
  · subst e
    rw [List.getElem?_set_self'] at hk
    cases h2 : σ[i]? with
    | none => rw [h2] at hk; cases hk
    | some z => rw [h2] at hk; simp at hk; rw [← hk]; exact hx
  · rw [List.getElem?_set_ne e] at hk
    exact (h k y hk).kept (oq _ (by omega))
/-- each row's class is as its type says -/
def sx_T (s : State) (b : Nat) (cA : Nat → ClassId) (σ : sx_H) : Prop := ∀ (k : Nat) (ty : FieldType) (a : vp_A), σ[k]? = some (.inl (ty, a)) → ¬ ty = .short → ArrOfT s (cA (b + k)) ty ∧ va_RA s (cA (b + k)) ty
def sx_V (D : va_G) (b : Nat) (σ : sx_H) (s : State) (H : Heap) : Prop := H.size = b + σ.length ∧ ∃ cA : Nat → ClassId, sx_P D b cA σ H ∧ sx_T s b cA σ
theorem sx_K1 {D : va_G} {s : State} {cA : ClassId} {ty : FieldType} (h : va_K D vwCl [] s) (h2 : ArrOfT s cA ty ∧ va_RA s cA ty) : va_K D vwCl [(cA, ty)] s := ⟨h.1, fun k q hq => by
  have hz : k < 1 := (List.getElem?_eq_some_iff.mp hq).1
  rw [show k = 0 by omega] at hq
  cases hq
  exact h2⟩
theorem sx_Am {s t : State} (h : s.vm.Alike t.vm) {D : va_G} {cA : ClassId} {ty : FieldType} (h1 : va_K D vwCl [] s) (h2 : ArrOfT s cA ty ∧ va_RA s cA ty) : ArrOfT t cA ty ∧ va_RA t cA ty := (va_K.moved h (sx_K1 h1 h2)).2 0 _ rfl
theorem sx_T.moved {s t : State} {b : Nat} {cA : Nat → ClassId} {σ : sx_H} (h : s.vm.Alike t.vm) {D : va_G} (h1 : va_K D vwCl [] s) (hT : sx_T s b cA σ) : sx_T t b cA σ := fun k ty a hk hs => sx_Am h h1 (hT k ty a hk hs)
theorem sx_V.moved {s t : State} {D : va_G} {b : Nat} {σ : sx_H} {H : Heap} (h : s.vm.Alike t.vm) (h1 : va_K D vwCl [] s) (hV : sx_V D b σ s H) : sx_V D b σ t H := by
  obtain ⟨hz, cA, hP, hT⟩ := hV
  exact ⟨hz, cA, hP, hT.moved h h1⟩
theorem sx_T.set {s : State} {b : Nat} {cA : Nat → ClassId} {σ : sx_H} (hT : sx_T s b cA σ) {i : Nat} {x : sx_E} (hx : ∀ (ty : FieldType) (a : vp_A), x = .inl (ty, a) → ¬ ty = .short → ArrOfT s (cA (b + i)) ty ∧ va_RA s (cA (b + i)) ty) : sx_T s b cA (σ.set i x) := by
  intro k ty a hk hs
  by_cases e : i = k
  · subst e
    rw [List.getElem?_set_self'] at hk
    cases h : σ[i]? with
    | none => rw [h] at hk; cases hk
    | some y =>
      rw [h] at hk
      simp at hk
      exact hx ty a hk hs
  · rw [List.getElem?_set_ne e] at hk
    exact hT k ty a hk hs
/-! ===== the judgement ===== -/
def sx_hh : List (Nat × Nat × Nat × Nat) := [(0, 10, 13, 13), (0, 10, 17, 15)]
def sx_tabOf (Y : sx_Y) : List ExceptionTableEntry := if Y.2.2.1 = 5 ∧ Y.1 = "SwitchGameLaw" then tableOf sx_hh else []
def sx_Cx (D : va_G) (b : Nat) (K : State → Heap → Prop) (Y : sx_Y) (p : Program) (l : Launch) (s : State) (m : MethodId) (args : Array Value) (meth : Method) (c : Code) : Prop :=
  p.tables.exec = Jvm.exec ∧ c.code = Y.2.1 ∧ c.maxLocals = Y.2.2.1 ∧ s.vm.findClass Y.1 = some m.cls ∧ (∀ w ∈ sx_tb, w.before args s = true) ∧ meth.sig.returnType = Y.2.2.2.1 ∧ meth.locks = false ∧ meth.name = Y.2.2.2.2 ∧ va_K D vwCl [] s ∧ K s s.heap ∧ b ≤ s.heap.size ∧ l.stackTraces = false ∧ c.exceptionTable.toList = sx_tabOf Y
def sx_Q (D : va_G) (b : Nat) (Q : Option Value → sx_H → Prop) : Array Value → State → Outcome → State → Prop := fun _ st oc t => (∃ (v : Option Value) (σ : sx_H), oc = .returned v ∧ Q v σ ∧ sx_V D b σ t t.heap) ∧ va_F (fun q : Nat => b ≤ q) st t
def sx_AtZ (D : va_G) (b : Nat) (K : State → Heap → Prop) (Y : sx_Y) (R : Room) (Z : List Frame → Array Value → State → State → Prop) (pc : Nat) (lv : List (Nat × Value)) (st : List Value) (σ : sx_H) (k n : Nat) : Prop :=
  ∀ (p : Program) (l : Launch) (e : Env) (s : State) (m : MethodId) (args : Array Value) (below : List Frame) (meth : Method) (c : Code) (H : Heap) (locs : List Loc) (ls : Array Slot),
    sx_Cx D b K Y p l s m args meth c → sx_V D b σ s H → va_S (fun q : Nat => b ≤ q) s.heap H locs → lv_has ls Y.2.2.1 lv →
    W p l e R s m args below meth c H locs k n (Z below args s) (F0 m pc ls st)
def sx_F (D : va_G) (b : Nat) (R : Room) (Q : Option Value → sx_H → Prop) : List Frame → Array Value → State → State → Prop := fun below args s => MQ below (sx_Q D b Q) args s R.cells R.slots (fun q : Nat => b ≤ q)
abbrev sx_At (D : va_G) (b : Nat) (K : State → Heap → Prop) (Y : sx_Y) (R : Room) (Q : Option Value → sx_H → Prop) (pc : Nat) (lv : List (Nat × Value)) (st : List Value) (σ : sx_H) (k n : Nat) : Prop := sx_AtZ D b K Y R (sx_F D b R Q) pc lv st σ k n
/-- what a call's start must be -/
def sx_Pc (D : va_G) (b : Nat) (K : State → Heap → Prop) (as : List Value) (σ : sx_H) : Array Value → State → Prop := fun v U => v = as.toArray ∧ sx_V D b σ U U.heap ∧ va_K D vwCl [] U ∧ (∀ w ∈ sx_tb, w.before #[] U = true) ∧ K U U.heap
def sx_Runs (D : va_G) (b : Nat) (K : State → Heap → Prop) (y : MethodName) (Y : sx_Y) (R : Room) (as : List Value) (σ : sx_H) (Q : Option Value → sx_H → Prop) : Prop :=
  ∀ l : Launch, l.stackTraces = false → Met l y [Cond.code y Y.2.1 Y.2.2.1 Y.2.2.2.1] R (sx_Pc D b K as σ) (sx_Q D b Q) R.cells R.slots (fun q : Nat => b ≤ q)
def sx_Ex (v : Option Value) (σ : sx_H) : Option Value → sx_H → Prop := fun v' σ' => v' = v ∧ σ' = σ
abbrev sx_rm (d : Nat) : Room := { frames := d, cells := 0, slots := 0, locals := 100 * d }
/-- what K must bear -/
def sx_Ks (b : Nat) (K : State → Heap → Prop) : Prop := ∀ (s t : State) (H H1 : Heap), s.WarmedH t.vm → b ≤ H.size → (∀ q : Nat, q < b → H1[q]? = H[q]?) → K s H → K t H1
