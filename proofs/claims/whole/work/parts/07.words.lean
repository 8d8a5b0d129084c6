/-! ===== words of the tables ===== -/
def sx_okw (w : Cond) : Bool := goodWord w || match w with
  | .fieldLinkNest _ _ _ _ _ _ => true
  | .methodLinkNest _ _ _ _ => true
  | _ => false
theorem sx_okw_warm {w : Cond} (hw : sx_okw w = true) {s U : State} {args a' : Array Value} (hW : s.WarmedH U.vm) (h : w.before args s = true) : w.before a' U = true := by
  unfold sx_okw at hw
  by_cases hg : goodWord w = true
  · exact pay_in (big := [w]) (ws := [w]) (args := args) (s := s) (fun w' h' => by rw [List.mem_singleton.mp h']; exact h) (fun w' h' => by rw [List.mem_singleton.mp h']; exact ⟨List.mem_singleton.mpr rfl, good_of_word hg⟩) w (List.mem_singleton.mpr rfl) a' U hW
  · cases w <;> simp [hg] at hw
    all_goals first | exact va_Nw.use rfl (va_Nw.warmF hW (va_Nw.of rfl h)) | exact va_Nw.use rfl (va_Nw.warmM hW (va_Nw.of rfl h))
abbrev sx_tb : List Cond := lw_tbl.filter sx_okw
theorem sx_in {w : Cond} (h : w ∈ lw_tbl) (h2 : sx_okw w = true) : w ∈ sx_tb := List.mem_filter.mpr ⟨h, h2⟩
theorem sx_okt {w : Cond} (h : w ∈ sx_tb) : sx_okw w = true := (List.mem_filter.mp h).2
theorem sx_tb_warm {s U : State} {args a' : Array Value} (hW : s.WarmedH U.vm) (h : ∀ w ∈ sx_tb, w.before args s = true) : ∀ w ∈ sx_tb, w.before a' U = true := fun w hw => sx_okw_warm (sx_okt hw) hW (h w hw)
abbrev sx_Y : Type := String × ByteArray × Nat × Option FieldType × String
def sx_FL (own : String) (idx : Nat) (ref nm d : String) : Prop := Cond.fieldLink own idx ref nm d ∈ sx_tb ∨ ∃ host : String, Cond.fieldLinkNest own idx ref nm d host ∈ sx_tb
/-- of a class: its place among the kinds, its layout's words, its fields' types -/
def sx_CL (ci : Nat) (C : String) (T : u_T) (N : Nat) (ty : Nat → FieldType) : Prop := vwCl[ci]? = some (C, T, N) ∧ (∀ w ∈ u_ws C T N, w ∈ sx_tb) ∧ (∀ k, k < N → parseFieldDescriptor (T k).2.2.1 = some (ty k)) ∧ (∀ a, a < N → ∀ b, b < N → a ≠ b → (T a).2.1 ≠ (T b).2.1) ∧ (∀ k, k < N → (T k).1 = C)
/-- of a method: its code, its class, how many it takes -/
def sx_M (y : MethodName) (Y : sx_Y) (np : Nat) : Prop := Y.1 = y.cls ∧ Y.2.2.2.2 = y.name ∧ Cond.code y Y.2.1 Y.2.2.1 Y.2.2.2.1 ∈ sx_tb ∧ Cond.initialized y.cls ∈ sx_tb ∧ (y.cls ≠ "java/lang/invoke/MethodHandle" ∧ y.cls ≠ "java/lang/invoke/VarHandle" ∧ (parseMethodDescriptor y.desc).map (fun d => d.parameters.length) = some np)
def sx_MI (y : MethodName) : Prop := Cond.instanceMethod y ∈ sx_tb
def sx_ML (own : String) (idx : Nat) (y : MethodName) : Prop := Cond.methodLink own idx y ∈ sx_tb ∨ ∃ host : String, Cond.methodLinkNest own idx y host ∈ sx_tb
