/-! ===== the world: a list of cells from an address on ===== -/
abbrev sx_E : Type := (FieldType × vp_A) ⊕ (Nat × List Value)
abbrev sx_H : Type := List sx_E
def sx_cv (cA : ClassId) (x : sx_E) : va_E := match x with
  | .inl q => .inl (cA, q.2)
  | .inr o => .inr o
def sx_wl (cA : Nat → ClassId) : Nat → sx_H → va_W
  | _, [] => []
  | b, x :: r => (b, sx_cv (cA b) x) :: sx_wl cA (b + 1) r
theorem sx_wl_get (cA : Nat → ClassId) : ∀ (σ : sx_H) (b k : Nat), (sx_wl cA b σ)[k]? = (σ[k]?).map (fun x => (b + k, sx_cv (cA (b + k)) x))
  | [], b, k => by simp [sx_wl]
  | x :: r, b, 0 => by simp [sx_wl]
  | x :: r, b, k + 1 => by
    have h := sx_wl_get cA r (b + 1) k
    have e : b + 1 + k = b + (k + 1) := by omega
    rw [e] at h
    simpa [sx_wl] using h
theorem sx_wl_at {cA : Nat → ClassId} {σ : sx_H} {b k : Nat} {x : sx_E} (h : σ[k]? = some x) : (sx_wl cA b σ)[k]? = some (b + k, sx_cv (cA (b + k)) x) := by
  rw [sx_wl_get, h]; rfl
theorem sx_wl_set (cA : Nat → ClassId) : ∀ (σ : sx_H) (b k : Nat) (x : sx_E), (sx_wl cA b σ).set k (b + k, sx_cv (cA (b + k)) x) = sx_wl cA b (σ.set k x)
  | [], b, k, x => by simp [sx_wl]
  | y :: r, b, 0, x => by simp [sx_wl]
  | y :: r, b, k + 1, x => by
    have h := sx_wl_set cA r (b + 1) k x
    have e : b + 1 + k = b + (k + 1) := by omega
    rw [e] at h
    simp [sx_wl, h]
theorem sx_wl_app (cA : Nat → ClassId) : ∀ (σ τ : sx_H) (b : Nat), sx_wl cA b (σ ++ τ) = sx_wl cA b σ ++ sx_wl cA (b + σ.length) τ
  | [], τ, b => by simp [sx_wl]
  | y :: r, τ, b => by
    have h := sx_wl_app cA r τ (b + 1)
    have e : b + 1 + r.length = b + (r.length + 1) := by omega
    rw [e] at h
    simp [sx_wl, h]
theorem sx_wl_cong {cA cB : Nat → ClassId} : ∀ (σ : sx_H) (b : Nat), (∀ q, b ≤ q → q < b + σ.length → cA q = cB q) → sx_wl cA b σ = sx_wl cB b σ
  | [], b, _ => rfl
  | y :: r, b, h => by
    have h1 := sx_wl_cong r (b + 1) (fun q h1 h2 => h q (by omega) (by simp only [List.length_cons]; omega))
    simp [sx_wl, h1, h b (Nat.le_refl b) (by simp only [List.length_cons]; omega)]
theorem sx_wl_D (cA : Nat → ClassId) (σ : sx_H) (b : Nat) : va_D (fun q : Nat => b ≤ q) (sx_wl cA b σ) := by
  refine ⟨fun i j p q hp hq e => ?_, fun k q hq => ?_⟩
  · rw [sx_wl_get] at hp hq
    cases h1 : σ[i]? with
    | none => rw [h1] at hp; cases hp
    | some x =>
      cases h2 : σ[j]? with
      | none => rw [h2] at hq; cases hq
      | some y =>
        rw [h1] at hp; rw [h2] at hq
        cases hp; cases hq
        have e2 : b + i = b + j := e
        omega
  · rw [sx_wl_get] at hq
    cases h1 : σ[k]? with
    | none => rw [h1] at hq; cases hq
    | some x =>
      rw [h1] at hq
      cases hq
      exact Nat.le_add_right b k
/-- each row's class is as its type says -/
def sx_T (s : State) (b : Nat) (cA : Nat → ClassId) (σ : sx_H) : Prop := ∀ (k : Nat) (ty : FieldType) (a : vp_A), σ[k]? = some (.inl (ty, a)) → ArrOfT s (cA (b + k)) ty ∧ va_RA s (cA (b + k)) ty
def sx_V (D : va_G) (b : Nat) (σ : sx_H) (s : State) (H : Heap) : Prop := H.size = b + σ.length ∧ ∃ cA : Nat → ClassId, va_P D vwCl (sx_wl cA b σ) H ∧ sx_T s b cA σ
theorem sx_K1 {D : va_G} {s : State} {cA : ClassId} {ty : FieldType} (h : va_K D vwCl [] s) (h2 : ArrOfT s cA ty ∧ va_RA s cA ty) : va_K D vwCl [(cA, ty)] s := ⟨h.1, fun k q hq => by
  have hz : k < 1 := (List.getElem?_eq_some_iff.mp hq).1
  rw [show k = 0 by omega] at hq
  cases hq
  exact h2⟩
theorem sx_Am {s t : State} (h : s.vm.Alike t.vm) {D : va_G} {cA : ClassId} {ty : FieldType} (h1 : va_K D vwCl [] s) (h2 : ArrOfT s cA ty ∧ va_RA s cA ty) : ArrOfT t cA ty ∧ va_RA t cA ty := (va_K.moved h (sx_K1 h1 h2)).2 0 _ rfl
theorem sx_T.moved {s t : State} {b : Nat} {cA : Nat → ClassId} {σ : sx_H} (h : s.vm.Alike t.vm) {D : va_G} (h1 : va_K D vwCl [] s) (hT : sx_T s b cA σ) : sx_T t b cA σ := fun k ty a hk => sx_Am h h1 (hT k ty a hk)
theorem sx_V.moved {s t : State} {D : va_G} {b : Nat} {σ : sx_H} {H : Heap} (h : s.vm.Alike t.vm) (h1 : va_K D vwCl [] s) (hV : sx_V D b σ s H) : sx_V D b σ t H := by
  obtain ⟨hz, cA, hP, hT⟩ := hV
  exact ⟨hz, cA, hP, hT.moved h h1⟩
theorem sx_T.set {s : State} {b : Nat} {cA : Nat → ClassId} {σ : sx_H} (hT : sx_T s b cA σ) {i : Nat} {x : sx_E} (hx : ∀ (ty : FieldType) (a : vp_A), x = .inl (ty, a) → ArrOfT s (cA (b + i)) ty ∧ va_RA s (cA (b + i)) ty) : sx_T s b cA (σ.set i x) := by
  intro k ty a hk
  by_cases e : i = k
  · subst e
    rw [List.getElem?_set_self'] at hk
    cases h : σ[i]? with
    | none => rw [h] at hk; cases hk
    | some y =>
      rw [h] at hk
      simp at hk
      exact hx ty a hk
  · rw [List.getElem?_set_ne e] at hk
    exact hT k ty a hk
/-! ===== the judgement ===== -/
def sx_Cx (D : va_G) (b : Nat) (K : State → Heap → Prop) (Y : sx_Y) (p : Program) (s : State) (m : MethodId) (args : Array Value) (meth : Method) (c : Code) : Prop :=
  p.tables.exec = Jvm.exec ∧ c.code = Y.2.1 ∧ c.maxLocals = Y.2.2.1 ∧ s.vm.findClass Y.1 = some m.cls ∧ (∀ w ∈ sx_tb, w.before args s = true) ∧ meth.sig.returnType = Y.2.2.2.1 ∧ meth.locks = false ∧ meth.name = Y.2.2.2.2 ∧ va_K D vwCl [] s ∧ K s s.heap ∧ b ≤ s.heap.size
def sx_Q (D : va_G) (b : Nat) (Q : Option Value → sx_H → Prop) : Array Value → State → Outcome → State → Prop := fun _ st oc t => (∃ (v : Option Value) (σ : sx_H), oc = .returned v ∧ Q v σ ∧ sx_V D b σ t t.heap) ∧ va_F (fun q : Nat => b ≤ q) st t
def sx_At (D : va_G) (b : Nat) (K : State → Heap → Prop) (Y : sx_Y) (R : Room) (Q : Option Value → sx_H → Prop) (pc : Nat) (lv : List (Nat × Value)) (st : List Value) (σ : sx_H) (k n : Nat) : Prop :=
  ∀ (p : Program) (l : Launch) (e : Env) (s : State) (m : MethodId) (args : Array Value) (below : List Frame) (meth : Method) (c : Code) (H : Heap) (locs : List Loc) (ls : Array Slot),
    sx_Cx D b K Y p s m args meth c → sx_V D b σ s H → va_S (fun q : Nat => b ≤ q) s.heap H locs → lv_has ls Y.2.2.1 lv →
    W p l e R s m args below meth c H locs k n (MQ below (sx_Q D b Q) args s R.cells R.slots (fun q : Nat => b ≤ q)) (F0 m pc ls st)
/-- what a call's start must be -/
def sx_Pc (D : va_G) (b : Nat) (K : State → Heap → Prop) (as : List Value) (σ : sx_H) : Array Value → State → Prop := fun v U => v = as.toArray ∧ sx_V D b σ U U.heap ∧ va_K D vwCl [] U ∧ (∀ w ∈ sx_tb, w.before #[] U = true) ∧ K U U.heap
def sx_Runs (D : va_G) (b : Nat) (K : State → Heap → Prop) (y : MethodName) (Y : sx_Y) (R : Room) (as : List Value) (σ : sx_H) (Q : Option Value → sx_H → Prop) : Prop :=
  ∀ l : Launch, Met l y [Cond.code y Y.2.1 Y.2.2.1 Y.2.2.2.1] R (sx_Pc D b K as σ) (sx_Q D b Q) R.cells R.slots (fun q : Nat => b ≤ q)
def sx_Ex (v : Option Value) (σ : sx_H) : Option Value → sx_H → Prop := fun v' σ' => v' = v ∧ σ' = σ
abbrev sx_rm (d : Nat) : Room := { frames := d, cells := 0, slots := 0, locals := 100 * d }
/-- what K must bear -/
def sx_Ks (b : Nat) (K : State → Heap → Prop) : Prop := ∀ (s t : State) (H H1 : Heap), s.WarmedH t.vm → b ≤ H.size → (∀ q : Nat, q < b → H1[q]? = H[q]?) → K s H → K t H1
