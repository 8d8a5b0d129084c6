/-! ===== what the old heap holds: the text constants, a static row ===== -/
def sp_lens : List Nat := [5, 4, 4, 6, 4, 5, 4, 3, 43]
def sp_byts : List (List Int32) := [[107, 110, 111, 116, 115], [101, 110, 100, 115], [108, 105, 110, 101], [106, 111, 105, 110, 101, 100], [103, 111, 110, 101], [102, 105, 114, 115, 116], [106, 111, 105, 110], [99, 117, 116], [107, 110, 111, 116, 115, 32, 101, 110, 100, 115, 32, 108, 105, 110, 101, 32, 106, 111, 105, 110, 101, 100, 32, 103, 111, 110, 101, 32, 102, 105, 114, 115, 116, 32, 106, 111, 105, 110, 32, 99, 117, 116, 32]]
def sp_strs : List (String × Nat × String × Nat) := [(RX9, 157, "knots", 0), (RX9, 162, "ends", 1), (RX9, 164, "line", 2), (RX9, 166, "joined", 3), (RX9, 168, "gone", 4), (RX9, 170, "first", 5), (RX9, 172, "join", 6), (RX9, 174, "cut", 7), (RX12, 108, "knots ends line joined gone first join cut ", 8)]
def sp_ofs : Nat → Int32 := fun j => ([1, 65814, 18224744, 375941248, 1753251840, -2147483648] : List Int32).getD j 0
def sx_fv (sa : Nat → Nat) : Value := if sa 51 = 0 then .null else .ref (sa 52)
def sx_KF (b : Nat) (sa : Nat → Nat) (U : State) (H : Heap) : Prop :=
  vk_S 9 sp_lens sp_byts sa (fun i => sa (20 + i)) (fun q : Nat => b ≤ q) U H ∧ (∀ q ∈ sp_strs, vk_R q.1 q.2.1 q.2.2.1 (sa q.2.2.2) U) ∧ va_Z "java/lang/String" "COMPACT_STRINGS" "Z" (.int 1) (fun q : Nat => b ≤ q) U H ∧ va_Z "jdk/internal/util/Preconditions" "SIOOBE_FORMATTER" "Ljava/util/function/BiFunction;" (sx_fv sa) (fun q : Nat => b ≤ q) U H ∧ va_Z "SwitchGame$LuckySets" "OF_SIZE" "[I" (.ref (sa 50)) (fun q : Nat => b ≤ q) U H ∧ va_T .int (sa 50) 6 (fun j => .int (sp_ofs j)) (fun q : Nat => b ≤ q) U H
def sx_Kk (b : Nat) (K : State → Heap → Prop) (sa : Nat → Nat) : Prop := sx_Ks b K ∧ ∀ (U : State) (H : Heap), K U H → sx_KF b sa U H
/-! ===== rows for the printed walks ===== -/
theorem sp_bind {α β : Type} {o : Option α} {f : α → Option β} {r : β} (h : Option.bind o f = some r) : ∃ v, o = some v ∧ f v = some r := by
  cases o with
  | none => cases h
  | some v => exact ⟨v, rfl, h⟩
theorem sp_chk {β : Type} {c : Prop} [Decidable c] {a : Option β} {r : β} (h : (if c then a else none) = some r) : c ∧ a = some r := by
  by_cases q : c
  · rw [if_pos q] at h; exact ⟨q, h⟩
  · rw [if_neg q] at h; cases h
def sp_let {α β : Type} (a : α) (f : α → β) : β := f a
theorem sp_letE {α β : Type} {a x : α} {f : α → β} {r : β} (e : x = a) (h : sp_let a f = r) : f x = r := by
  subst e; exact h
theorem sp_bz (x : Bool) : narrow .boolean (.int (sp_b x)) = .int (sp_b x) := by cases x <;> rfl
theorem sp_bf (x : Bool) : fits .boolean (.int (sp_b x)) = true := by cases x <;> rfl
theorem sp_b0 (x : Bool) : sp_b x = 0 ↔ ¬ x = true := by cases x <;> decide
theorem sp_in_lt {x : Int32} {N : Nat} (h : sp_in x N = true) : x.toNatClampNeg < N := Nat.not_le.mp fun q => sp_in_vp h (Or.inr q)
def sp_fill {α : Type} (f : Nat → α) (N : Nat) (v : α) : Nat → α := fun j => if j < N then v else f j
section
variable {D : va_G} {b : Nat} {K : State → Heap → Prop} {Y : sx_Y} {R : Room} {Z : List Frame → Array Value → State → State → Prop} {pc : Nat} {lv : List (Nat × Value)} {st : List Value} {σ : sx_H} {k n : Nat}
theorem at_namei {v : Int32} (kk : ∀ x : Int32, x = v → sx_AtZ D b K Y R Z pc lv (.int x :: st) σ k n) : sx_AtZ D b K Y R Z pc lv (.int v :: st) σ k n := kk v rfl
theorem at_namel {v : Int64} (kk : ∀ x : Int64, x = v → sx_AtZ D b K Y R Z pc lv (.long x :: st) σ k n) : sx_AtZ D b K Y R Z pc lv (.long v :: st) σ k n := kk v rfl
theorem at_zeq {x : Bool} {off : Int} (tgt : Nat) (hd : decode Y.2.1 pc = .ok (.ifCond .eq off, 3)) (ht : (pc : Int) + off = (tgt : Int)) (kt : ¬ x = true → sx_AtZ D b K Y R Z tgt lv st σ k n) (kf : x = true → sx_AtZ D b K Y R Z (pc + 3) lv st σ k n) : sx_AtZ D b K Y R Z pc lv (.int (sp_b x) :: st) σ k n :=
  at_if_eq tgt hd ht (fun h => kt ((sp_b0 x).mp h)) (fun h => kf (Decidable.not_not.mp (fun q => h ((sp_b0 x).mpr q))))
theorem at_zne {x : Bool} {off : Int} (tgt : Nat) (hd : decode Y.2.1 pc = .ok (.ifCond .ne off, 3)) (ht : (pc : Int) + off = (tgt : Int)) (kt : x = true → sx_AtZ D b K Y R Z tgt lv st σ k n) (kf : ¬ x = true → sx_AtZ D b K Y R Z (pc + 3) lv st σ k n) : sx_AtZ D b K Y R Z pc lv (.int (sp_b x) :: st) σ k n :=
  at_if_ne tgt hd ht (fun h => kt (Decidable.not_not.mp (fun q => h ((sp_b0 x).mpr q)))) (fun h => kf ((sp_b0 x).mp h))
theorem at_tbC {x v : Int32} {dflt lo hi : Int} {offs : Array Int} {len : Nat} {off : Int} (hx : x = v) (tgt : Nat) (hd : decode Y.2.1 pc = .ok (.tableswitch dflt lo hi offs, len)) (h1 : ¬ v.toInt < lo) (h2 : ¬ hi < v.toInt) (ho : offs[(v.toInt - lo).toNat]? = some off) (ht : (pc : Int) + off = (tgt : Int)) (kk : sx_AtZ D b K Y R Z tgt lv st σ k n) : sx_AtZ D b K Y R Z pc lv (.int x :: st) σ k n := by
  subst hx; exact at_tbIn tgt hd h1 h2 ho ht kk
theorem at_lkC {x v : Int32} {dflt : Int} {ps : Array (Int × Int)} {len : Nat} {off : Int} (hx : x = v) (tgt : Nat) (hd : decode Y.2.1 pc = .ok (.lookupswitch dflt ps, len)) (hp : (ps.toList.zip (ps.toList.drop 1)).all (fun (a, next) => a.1 < next.1) = true) (ho : Op.lookupswitch.offset ps.toList dflt v.toInt = off) (ht : (pc : Int) + off = (tgt : Int)) (kk : sx_AtZ D b K Y R Z tgt lv st σ k n) : sx_AtZ D b K Y R Z pc lv (.int x :: st) σ k n := by
  subst hx; exact at_lookup tgt hd hp ho ht kk
end
section
variable {D : va_G} {b : Nat} {K : State → Heap → Prop} {Y : sx_Y} {R : Room} {Z : List Frame → Array Value → State → State → Prop} {pc : Nat} {lv : List (Nat × Value)} {st : List Value} {σ : sx_H} {k n : Nat} {sa : Nat → Nat}
theorem at_callVv {y : MethodName} {Y1 : sx_Y} {np idx i ci d : Nat} {σ1 : sx_H} {As : List Value} {fs : List Value} {T : u_T} {N : Nat} {ty : Nat → FieldType} {st0 : List Value} (hK : sx_Kk b K sa) (hm : sx_M y Y1 np ∧ sx_MI y ∧ Cond.selects y.cls y y ∈ sx_tb) (hml : sx_ML Y.1 idx y) (hc : sx_CL ci y.cls T N ty) (hi : σ[i]? = some (.inr (ci, fs)))
    (hM : sx_Runs D b K y Y1 (sx_rm d) (.ref (b + i) :: As) σ (sx_Ex none σ1)) (hn : As.length = np) (hst : st0 = As.reverse ++ .ref (b + i) :: st) (hW : (st.map fun v => v.category).sum ≤ 8) (hR : d + 1 ≤ R.frames ∧ 8 + (Y1.2.2.1 + 11) + 100 * d ≤ R.locals) (hf : k ≤ R.cells ∧ n ≤ R.slots) (hd : decode Y.2.1 pc = .ok (.invokevirtual idx, 3))
    (kk : sx_AtZ D b K Y R Z (pc + 3) lv (st) σ1 k n) : sx_AtZ D b K Y R Z pc lv st0 σ k n := at_callV hK.1 hm hml hc hi hM hn hst hW hR hf hd kk
theorem at_callSv {y : MethodName} {Y1 : sx_Y} {np idx d : Nat} {σ1 : sx_H} {As : List Value} {st0 : List Value} (hK : sx_Kk b K sa) (hm : sx_M y Y1 np ∧ Cond.static y ∈ sx_tb) (hml : sx_ML Y.1 idx y)
    (hM : sx_Runs D b K y Y1 (sx_rm d) As σ (sx_Ex none σ1)) (hn : As.length = np) (hst : st0 = As.reverse ++ st) (hW : (st.map fun v => v.category).sum ≤ 8) (hR : d + 1 ≤ R.frames ∧ 8 + (Y1.2.2.1 + 11) + 100 * d ≤ R.locals) (hf : k ≤ R.cells ∧ n ≤ R.slots) (hd : decode Y.2.1 pc = .ok (.invokestatic idx, 3))
    (kk : sx_AtZ D b K Y R Z (pc + 3) lv (st) σ1 k n) : sx_AtZ D b K Y R Z pc lv st0 σ k n := at_callS hK.1 hm hml hM hn hst hW hR hf hd kk
theorem at_callVi {r : Int32} {y : MethodName} {Y1 : sx_Y} {np idx i ci d : Nat} {σ1 : sx_H} {As : List Value} {fs : List Value} {T : u_T} {N : Nat} {ty : Nat → FieldType} {st0 : List Value} (hK : sx_Kk b K sa) (hm : sx_M y Y1 np ∧ sx_MI y ∧ Cond.selects y.cls y y ∈ sx_tb) (hml : sx_ML Y.1 idx y) (hc : sx_CL ci y.cls T N ty) (hi : σ[i]? = some (.inr (ci, fs)))
    (hM : sx_Runs D b K y Y1 (sx_rm d) (.ref (b + i) :: As) σ (sx_Ex (some (.int r)) σ1)) (hn : As.length = np) (hst : st0 = As.reverse ++ .ref (b + i) :: st) (hW : (st.map fun v => v.category).sum ≤ 8) (hR : d + 1 ≤ R.frames ∧ 8 + (Y1.2.2.1 + 11) + 100 * d ≤ R.locals) (hf : k ≤ R.cells ∧ n ≤ R.slots) (hd : decode Y.2.1 pc = .ok (.invokevirtual idx, 3))
    (kk : sx_AtZ D b K Y R Z (pc + 3) lv (.int r :: st) σ1 k n) : sx_AtZ D b K Y R Z pc lv st0 σ k n := at_callV hK.1 hm hml hc hi hM hn hst hW hR hf hd kk
theorem at_callSi {r : Int32} {y : MethodName} {Y1 : sx_Y} {np idx d : Nat} {σ1 : sx_H} {As : List Value} {st0 : List Value} (hK : sx_Kk b K sa) (hm : sx_M y Y1 np ∧ Cond.static y ∈ sx_tb) (hml : sx_ML Y.1 idx y)
    (hM : sx_Runs D b K y Y1 (sx_rm d) As σ (sx_Ex (some (.int r)) σ1)) (hn : As.length = np) (hst : st0 = As.reverse ++ st) (hW : (st.map fun v => v.category).sum ≤ 8) (hR : d + 1 ≤ R.frames ∧ 8 + (Y1.2.2.1 + 11) + 100 * d ≤ R.locals) (hf : k ≤ R.cells ∧ n ≤ R.slots) (hd : decode Y.2.1 pc = .ok (.invokestatic idx, 3))
    (kk : sx_AtZ D b K Y R Z (pc + 3) lv (.int r :: st) σ1 k n) : sx_AtZ D b K Y R Z pc lv st0 σ k n := at_callS hK.1 hm hml hM hn hst hW hR hf hd kk
theorem at_callVl {r : Int64} {y : MethodName} {Y1 : sx_Y} {np idx i ci d : Nat} {σ1 : sx_H} {As : List Value} {fs : List Value} {T : u_T} {N : Nat} {ty : Nat → FieldType} {st0 : List Value} (hK : sx_Kk b K sa) (hm : sx_M y Y1 np ∧ sx_MI y ∧ Cond.selects y.cls y y ∈ sx_tb) (hml : sx_ML Y.1 idx y) (hc : sx_CL ci y.cls T N ty) (hi : σ[i]? = some (.inr (ci, fs)))
    (hM : sx_Runs D b K y Y1 (sx_rm d) (.ref (b + i) :: As) σ (sx_Ex (some (.long r)) σ1)) (hn : As.length = np) (hst : st0 = As.reverse ++ .ref (b + i) :: st) (hW : (st.map fun v => v.category).sum ≤ 8) (hR : d + 1 ≤ R.frames ∧ 8 + (Y1.2.2.1 + 11) + 100 * d ≤ R.locals) (hf : k ≤ R.cells ∧ n ≤ R.slots) (hd : decode Y.2.1 pc = .ok (.invokevirtual idx, 3))
    (kk : sx_AtZ D b K Y R Z (pc + 3) lv (.long r :: st) σ1 k n) : sx_AtZ D b K Y R Z pc lv st0 σ k n := at_callV hK.1 hm hml hc hi hM hn hst hW hR hf hd kk
theorem at_callSl {r : Int64} {y : MethodName} {Y1 : sx_Y} {np idx d : Nat} {σ1 : sx_H} {As : List Value} {st0 : List Value} (hK : sx_Kk b K sa) (hm : sx_M y Y1 np ∧ Cond.static y ∈ sx_tb) (hml : sx_ML Y.1 idx y)
    (hM : sx_Runs D b K y Y1 (sx_rm d) As σ (sx_Ex (some (.long r)) σ1)) (hn : As.length = np) (hst : st0 = As.reverse ++ st) (hW : (st.map fun v => v.category).sum ≤ 8) (hR : d + 1 ≤ R.frames ∧ 8 + (Y1.2.2.1 + 11) + 100 * d ≤ R.locals) (hf : k ≤ R.cells ∧ n ≤ R.slots) (hd : decode Y.2.1 pc = .ok (.invokestatic idx, 3))
    (kk : sx_AtZ D b K Y R Z (pc + 3) lv (.long r :: st) σ1 k n) : sx_AtZ D b K Y R Z pc lv st0 σ k n := at_callS hK.1 hm hml hM hn hst hW hR hf hd kk
/-- a call of a method of an old object -/
theorem at_callO {v : Option Value} {y : MethodName} {Y1 : sx_Y} {np idx a d : Nat} {σ1 : sx_H} {As : List Value} {st0 : List Value} (hK : sx_Kk b K sa) (hm : sx_M y Y1 np ∧ sx_MI y ∧ Cond.selects y.cls y y ∈ sx_tb) (hml : Cond.methodLink Y.1 idx y ∈ sx_tb) (hO : ∀ (U : State) (H : Heap), K U H → va_O y.cls a (fun q : Nat => b ≤ q) U H)
    (hM : sx_Runs D b K y Y1 (sx_rm d) (.ref a :: As) σ (sx_Ex v σ1)) (hn : As.length = np) (hst : st0 = As.reverse ++ .ref a :: st) (hW : (st.map fun v => v.category).sum ≤ 8) (hR : d + 1 ≤ R.frames ∧ 8 + (Y1.2.2.1 + 11) + 100 * d ≤ R.locals) (hf : k ≤ R.cells ∧ n ≤ R.slots) (hd : decode Y.2.1 pc = .ok (.invokevirtual idx, 3))
    (kk : sx_AtZ D b K Y R Z (pc + 3) lv (v.toList ++ st) σ1 k n) : sx_AtZ D b K Y R Z pc lv st0 σ k n := by
  intro p l e s m args below meth c H locs ls C V S hl
  have hp : PreV s H y.cls a (sx_Pc D b K (.ref a :: As) σ) As := by
    obtain ⟨cell, h1, h2, h3, h4⟩ := hO _ _ C.2.2.2.2.2.2.2.2.2.1
    have ha : a < s.heap.size := (Array.getElem?_eq_some_iff.mp h1).1
    exact ⟨sx_blind D b K _ σ hK.1 (fun U h => sx_Vsz h), ⟨cell, by rw [S.2.1 a ha h4]; exact h1, h2, h3⟩, sx_pre hK.1 C V S⟩
  exact sx_back (R1 := sx_rm d) C V S hl (va_runV (As := As) (rest := st) ⟨C.1, C.2.1, C.2.2.1, C.2.2.2.1, C.2.2.2.2.1⟩ (hM l C.2.2.2.2.2.2.2.2.2.2.2.1) ⟨sx_callB (R1 := sx_rm d) hm.1 C hR hml, C.2.2.2.2.1 _ hm.2.1, C.2.2.2.2.1 _ hm.2.2⟩ hp rfl hn hl.1 hst (lv_room hW) hd hf) (fun v' σ' h => by obtain ⟨rfl, rfl⟩ := h; exact kk)
theorem at_gets {idx : Nat} {C n1 d1 : String} {v : Value} (hZ : ∀ (U : State) (H : Heap), K U H → va_Z C n1 d1 v (fun q : Nat => b ≤ q) U H) (hlk : Cond.fieldLink Y.1 idx C n1 d1 ∈ sx_tb) (hd : decode Y.2.1 pc = .ok (.getstatic idx, 3)) (kk : sx_AtZ D b K Y R Z (pc + 3) lv (v :: st) σ k n) : sx_AtZ D b K Y R Z pc lv st σ k n :=
  fun _ _ _ _ _ _ _ _ _ _ _ _ C V S hl => va_gets C.1 C.2.1 (hZ _ _ C.2.2.2.2.2.2.2.2.2.1) S C.2.2.2.1 (C.2.2.2.2.1 _ hlk) (fun _ h => h) hd (kk _ _ _ _ _ _ _ _ _ _ _ _ C V S hl)
theorem at_getO {idx a : Nat} {C n1 d1 : String} {v : Value} (hZ : ∀ (U : State) (H : Heap), K U H → va_OF C n1 d1 v a (fun q : Nat => b ≤ q) U H) (hlk : Cond.fieldLink Y.1 idx C n1 d1 ∈ sx_tb) (hd : decode Y.2.1 pc = .ok (.getfield idx, 3)) (kk : sx_AtZ D b K Y R Z (pc + 3) lv (v :: st) σ k n) : sx_AtZ D b K Y R Z pc lv (.ref a :: st) σ k n :=
  fun _ _ _ _ _ _ _ _ _ _ _ _ C V S hl => vk_getf C.1 C.2.1 (hZ _ _ C.2.2.2.2.2.2.2.2.2.1) S C.2.2.2.1 (C.2.2.2.2.1 _ hlk) (fun _ h => h) hd (kk _ _ _ _ _ _ _ _ _ _ _ _ C V S hl)
theorem at_told {a N : Nat} {f : Nat → Int32} {x v : Int32} (hT : ∀ (U : State) (H : Heap), K U H → va_T .int a N (fun j => .int (f j)) (fun q : Nat => b ≤ q) U H) (hr : sp_rd f N x = some v) (hd : decode Y.2.1 pc = .ok (.iaload, 1)) (kk : sx_AtZ D b K Y R Z (pc + 1) lv (.int v :: st) σ k n) : sx_AtZ D b K Y R Z pc lv (.int x :: .ref a :: st) σ k n := by
  obtain ⟨h1, rfl⟩ := sp_rd_some hr
  exact fun _ _ _ _ _ _ _ _ _ _ _ _ C V S hl => va_ti C.1 C.2.1 (hT _ _ C.2.2.2.2.2.2.2.2.2.1) S (sp_in_vp h1) rfl hd (kk _ _ _ _ _ _ _ _ _ _ _ _ C V S hl)
theorem at_tobd {a N : Nat} {f : Nat → Int32} {x v : Int32} (hT : ∀ (U : State) (H : Heap), K U H → va_T .byte a N (fun j => .int (f j)) (fun q : Nat => b ≤ q) U H) (hr : sp_rd f N x = some v) (hd : decode Y.2.1 pc = .ok (.baload, 1)) (kk : sx_AtZ D b K Y R Z (pc + 1) lv (.int v :: st) σ k n) : sx_AtZ D b K Y R Z pc lv (.int x :: .ref a :: st) σ k n := by
  obtain ⟨h1, rfl⟩ := sp_rd_some hr
  exact fun _ _ _ _ _ _ _ _ _ _ _ _ C V S hl => va_tb C.1 C.2.1 (hT _ _ C.2.2.2.2.2.2.2.2.2.1) S (sp_in_vp h1) rfl hd (kk _ _ _ _ _ _ _ _ _ _ _ _ C V S hl)
theorem at_tolen {a N : Nat} {ty : FieldType} {f : Nat → Value} {v : Int32} (hT : ∀ (U : State) (H : Heap), K U H → va_T ty a N f (fun q : Nat => b ≤ q) U H) (hv : Int32.ofNat N = v) (hd : decode Y.2.1 pc = .ok (.arraylength, 1)) (kk : sx_AtZ D b K Y R Z (pc + 1) lv (.int v :: st) σ k n) : sx_AtZ D b K Y R Z pc lv (.ref a :: st) σ k n :=
  fun _ _ _ _ _ _ _ _ _ _ _ _ C V S hl => va_tlen C.1 C.2.1 (hT _ _ C.2.2.2.2.2.2.2.2.2.1) S hv hd (kk _ _ _ _ _ _ _ _ _ _ _ _ C V S hl)
theorem at_ldcS {idx i : Nat} {tx : String} (hK : sx_Kk b K sa) (hq : (Y.1, idx, tx, i) ∈ sp_strs) (hd : decode Y.2.1 pc = .ok (.ldc idx, 2)) (kk : sx_AtZ D b K Y R Z (pc + 2) lv (.ref (sa i) :: st) σ k n) : sx_AtZ D b K Y R Z pc lv st σ k n :=
  fun _ _ _ _ _ _ _ _ _ _ _ _ C V S hl => va_ldcS C.1 C.2.1 C.2.2.2.1 ((hK.2 _ _ C.2.2.2.2.2.2.2.2.2.1).2.1 _ hq) hd (kk _ _ _ _ _ _ _ _ _ _ _ _ C V S hl)
end
/-! ===== the JDK's own methods over the text constants ===== -/
section
variable {D : va_G} {b : Nat} {K : State → Heap → Prop} {σ : sx_H} {sa : Nat → Nat}
set_option maxRecDepth 20000 in
theorem t_coder (hK : sx_Kk b K sa) {i : Nat} (hi : i < 9) : sx_Runs D b K yJ0_coder_7d493 YJ0_coder_7d493 (sx_rm 0) [.ref (sa i)] σ (sx_Ex (some (.int 0)) σ) := by
  refine sx_run (by decide +kernel) rfl rfl (Nat.le_of_ble_eq_true rfl) ?_
  refine at_gets (fun U H h => (hK.2 U H h).2.2.1) (sx_in (List.mem_of_getElem? (i := 631) (by decide +kernel)) rfl) dJ0_coder_7d493_0 ?_
  refine at_if_eq 13 dJ0_coder_7d493_3 (by decide) (fun c => absurd c (by decide)) (fun _ => ?_)
  refine at_aload_n 0 dJ0_coder_7d493_6 rfl ?_
  refine at_getO (fun U H h => ((hK.2 U H h).1.1 i hi).2.1) (sx_in (List.mem_of_getElem? (i := 2097) (by decide +kernel)) rfl) dJ0_coder_7d493_7 ?_
  refine at_goto 14 dJ0_coder_7d493_10 (by decide) ?_
  exact at_zret rfl rfl (Nat.le_refl _) (Nat.le_refl _) ⟨rfl, rfl⟩ dJ0_coder_7d493_14
set_option maxRecDepth 20000 in
theorem t_isLatin1 (hK : sx_Kk b K sa) {i : Nat} (hi : i < 9) : sx_Runs D b K yJ0_isLatin1_aae02 YJ0_isLatin1_aae02 (sx_rm 0) [.ref (sa i)] σ (sx_Ex (some (.int 1)) σ) := by
  refine sx_run (by decide +kernel) rfl rfl (Nat.le_of_ble_eq_true rfl) ?_
  refine at_gets (fun U H h => (hK.2 U H h).2.2.1) (sx_in (List.mem_of_getElem? (i := 631) (by decide +kernel)) rfl) dJ0_isLatin1_aae02_0 ?_
  refine at_if_eq 17 dJ0_isLatin1_aae02_3 (by decide) (fun c => absurd c (by decide)) (fun _ => ?_)
  refine at_aload_n 0 dJ0_isLatin1_aae02_6 rfl ?_
  refine at_getO (fun U H h => ((hK.2 U H h).1.1 i hi).2.1) (sx_in (List.mem_of_getElem? (i := 2097) (by decide +kernel)) rfl) dJ0_isLatin1_aae02_7 ?_
  refine at_if_ne 17 dJ0_isLatin1_aae02_10 (by decide) (fun c => absurd rfl c) (fun _ => ?_)
  refine at_iconst 1 dJ0_isLatin1_aae02_13 (by decide) ?_
  refine at_goto 18 dJ0_isLatin1_aae02_14 (by decide) ?_
  exact at_zret rfl rfl (Nat.le_refl _) (Nat.le_refl _) ⟨rfl, rfl⟩ dJ0_isLatin1_aae02_18
def sp_len (i : Nat) : Nat := sp_lens.getD i 0
def sp_chr (i : Nat) : Nat → Int32 := fun j => (sp_byts.getD i []).getD j 0
set_option maxRecDepth 20000 in
theorem t_slen (hK : sx_Kk b K sa) {i : Nat} (hi : i < 9) : sx_Runs D b K yJ0_length_8abf5 YJ0_length_8abf5 (sx_rm 1) [.ref (sa i)] σ (sx_Ex (some (.int (Int32.ofNat (sp_len i)))) σ) := by
  refine sx_run (by decide +kernel) rfl rfl (Nat.le_of_ble_eq_true rfl) ?_
  refine at_aload_n 0 dJ0_length_8abf5_0 rfl ?_
  refine at_getO (fun U H h => ((hK.2 U H h).1.1 i hi).2.2.1) (sx_in (List.mem_of_getElem? (i := 2096) (by decide +kernel)) rfl) dJ0_length_8abf5_1 ?_
  refine at_tolen (fun U H h => ((hK.2 U H h).1.1 i hi).2.2.2) rfl dJ0_length_8abf5_4 ?_
  refine at_aload_n 0 dJ0_length_8abf5_5 rfl ?_
  refine at_callO (st := [.int (Int32.ofNat (sp_lens.getD i 0))]) hK mt_J0_coder_7d493 (sx_in (List.mem_of_getElem? (i := 627) (by decide +kernel)) rfl) (fun U H h => ((hK.2 U H h).1.1 i hi).1) (t_coder hK hi) rfl rfl (Nat.le_of_ble_eq_true rfl) ⟨Nat.le_of_ble_eq_true rfl, Nat.le_of_ble_eq_true rfl⟩ ⟨Nat.le_refl _, Nat.le_refl _⟩ dJ0_length_8abf5_6 ?_
  refine at_ishr (x := Int32.ofNat (sp_lens.getD i 0)) (y := 0) dJ0_length_8abf5_9 ?_
  have e : sp_shr (Int32.ofNat (sp_lens.getD i 0)) 0 = Int32.ofNat (sp_len i) := sb_shr0 _
  rw [e]
  exact at_iret rfl (Nat.le_refl _) (Nat.le_refl _) ⟨rfl, rfl⟩ dJ0_length_8abf5_10
set_option maxRecDepth 20000 in
theorem t_preCheck {x y : Int32} {v : Value} (hv : v = .null ∨ ∃ t, v = .ref t) (h1 : ¬ x < 0) (h2 : x < y) : sx_Runs D b K yJ3_checkIndex_8e157 YJ3_checkIndex_8e157 (sx_rm 0) [.int x, .int y, v] σ (sx_Ex (some (.int x)) σ) := by
  have hc : (lg_sl [.int x, .int y, v]).length ≤ 3 := by rcases hv with rfl | ⟨t, rfl⟩ <;> exact Nat.le_of_ble_eq_true rfl
  refine sx_run (by decide +kernel) rfl rfl hc ?_
  refine at_iload_n 0 dJ3_checkIndex_8e157_0 rfl ?_
  refine at_if_lt 9 dJ3_checkIndex_8e157_1 (by decide) (fun c => absurd c h1) (fun _ => ?_)
  refine at_iload_n 0 dJ3_checkIndex_8e157_4 rfl ?_
  refine at_iload_n 1 dJ3_checkIndex_8e157_5 rfl ?_
  refine at_icmp_lt 16 dJ3_checkIndex_8e157_6 (by decide) (fun _ => ?_) (fun c => absurd h2 c)
  refine at_iload_n 0 dJ3_checkIndex_8e157_16 rfl ?_
  exact at_iret rfl (Nat.le_refl _) (Nat.le_refl _) ⟨rfl, rfl⟩ dJ3_checkIndex_8e157_17
set_option maxRecDepth 20000 in
theorem t_strCheck (hK : sx_Kk b K sa) {x y : Int32} (h1 : ¬ x < 0) (h2 : x < y) : sx_Runs D b K yJ0_checkIndex_df160 YJ0_checkIndex_df160 (sx_rm 1) [.int x, .int y] σ (sx_Ex none σ) := by
  refine sx_run (by decide +kernel) rfl rfl (Nat.le_of_ble_eq_true rfl) ?_
  refine at_iload_n 0 dJ0_checkIndex_df160_0 rfl ?_
  refine at_iload_n 1 dJ0_checkIndex_df160_1 rfl ?_
  refine at_gets (fun U H h => (hK.2 U H h).2.2.2.1) (sx_in (List.mem_of_getElem? (i := 647) (by decide +kernel)) rfl) dJ0_checkIndex_df160_2 ?_
  have hv : sx_fv sa = .null ∨ ∃ t, sx_fv sa = .ref t := by
    unfold sx_fv
    by_cases h : sa 51 = 0
    · rw [if_pos h]; exact Or.inl rfl
    · rw [if_neg h]; exact Or.inr ⟨_, rfl⟩
  generalize sx_fv sa = v at hv
  refine at_callSi (st := []) (As := [.int x, .int y, v]) hK mt_J3_checkIndex_8e157 (Or.inl (sx_in (List.mem_of_getElem? (i := 649) (by decide +kernel)) rfl)) (t_preCheck hv h1 h2) rfl rfl (Nat.le_of_ble_eq_true rfl) ⟨Nat.le_of_ble_eq_true rfl, Nat.le_of_ble_eq_true rfl⟩ ⟨Nat.le_refl _, Nat.le_refl _⟩ dJ0_checkIndex_df160_5 ?_
  refine at_pop dJ0_checkIndex_df160_8 rfl ?_
  exact at_vret rfl (Nat.le_refl _) (Nat.le_refl _) ⟨rfl, rfl⟩ dJ0_checkIndex_df160_9
end
