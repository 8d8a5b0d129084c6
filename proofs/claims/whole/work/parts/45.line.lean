/-! ===== what the throws need of the old heap and the tables ===== -/
def sx_kx (w : Cond) : Bool := match w with
  | .castable _ _ => true
  | .declares _ => true
  | _ => false
def sx_KE (b : Nat) (sa : Nat → Nat) (U : State) (H : Heap) : Prop :=
  va_AOA .long U ∧ (∀ w ∈ lw_tbl, sx_kx w = true → w.before #[] U = true) ∧ va_Nc "java/util/NoSuchElementException" "java/lang/IndexOutOfBoundsException" U ∧ (vk_R RX11 127 "no such line" (sa 9) U ∧ vk_R RX11 145 "no such what" (sa 10) U) ∧ vx_Zq Bundle.tN "UNASSIGNED_STACK" Bundle.steD (fun q : Nat => b ≤ q) U H ∧ vx_Zq Bundle.tN "SUPPRESSED_SENTINEL" Bundle.listD (fun q : Nat => b ≤ q) U H
theorem sx_kx_use {w : Cond} (hw : sx_kx w = true) {U : State} {A : Array Value} (h : w.before #[] U = true) : w.before A U = true := by
  cases w <;> simp [sx_kx] at hw <;> exact va_Nw.use rfl h
def sx_hole : sx_E := .inl (.short, 0, .inl (fun _ => 0))
def sx_XC (D : va_G) (b : Nat) (σ : sx_H) (E0 : String) : String → State → State → Prop := fun E st t => E = E0 ∧ b + σ.length ≤ t.heap.size ∧ (∃ cA : Nat → ClassId, sx_P D b cA σ t.heap ∧ sx_T t b cA σ) ∧ va_F (fun q : Nat => b ≤ q) st t
def sx_ZX (D : va_G) (b : Nat) (R : Room) (Q : Option Value → sx_H → Prop) (XC : String → State → State → Prop) : List Frame → Array Value → State → State → Prop := fun below args s => vx_MQ below (sx_Q D b Q) XC args s R.cells R.slots (fun q : Nat => b ≤ q)
def sx_RunsX (D : va_G) (b : Nat) (K : State → Heap → Prop) (y : MethodName) (Y : sx_Y) (R : Room) (as : List Value) (σ : sx_H) (Q : Option Value → sx_H → Prop) (XC : String → State → State → Prop) : Prop :=
  ∀ l : Launch, l.stackTraces = false → vx_Met l y [Cond.code y Y.2.1 Y.2.2.1 Y.2.2.2.1] R (sx_Pc D b K as σ) (sx_Q D b Q) XC R.cells R.slots (fun q : Nat => b ≤ q)
theorem sx_runX {D : va_G} {b : Nat} {K : State → Heap → Prop} {y : MethodName} {Y : sx_Y} {R : Room} {Q : Option Value → sx_H → Prop} {XC : String → State → State → Prop} {as : List Value} {σ : sx_H} (hy : plainName y.cls = true) (hY1 : Y.1 = y.cls) (hY2 : Y.2.2.2.2 = y.name) (hlen : (lg_sl as).length ≤ Y.2.2.1) (h : sx_AtZ D b K Y R (sx_ZX D b R Q XC) 0 (lv_args 0 as) [] σ 0 0) (htb : sx_tabOf Y = []) : sx_RunsX D b K y Y R as σ Q XC := by
  intro l hlt
  refine vx_ofW (cc := Y.2.1) (maxL := Y.2.2.1) (ret := Y.2.2.2.1) hy rfl ?_
  intro p e s m args below meth c s₁ B hml hte hv
  obtain ⟨rfl, hV, hK, hts, hKK⟩ := hv
  have hown : s.vm.findClass Y.1 = some m.cls := by rw [hY1]; exact findClass_of_methodNamed B.named
  have hnm : meth.name = Y.2.2.2.2 := by rw [hY2]; exact (name_of_methodNamed B.named B.method).1
  have ht : c.exceptionTable.toList = sx_tabOf Y := by
    rw [htb]
    cases h9 : c.exceptionTable.toList with
    | nil => rfl
    | cons x r => exact (hte x (by rw [h9]; exact List.mem_cons_self)).elim
  have hl := lv_entry as hlen
  rw [lg_entry_eq]
  refine h p l e s m as.toArray below meth c s.heap [] _ ⟨B.exec, B.bytes, hml, hown, fun w hw => sx_okw_warm (sx_okt hw) (args := #[]) (State.WarmedH.refl s) (hts w hw), B.returns, B.notSynchronized, hnm, hK, hKK, sx_Vsz hV, hlt, ht⟩ hV va_S.rf hl
section
variable {D : va_G} {b : Nat} {K : State → Heap → Prop} {Y : sx_Y} {R : Room} {Q : Option Value → sx_H → Prop} {Z : List Frame → Array Value → State → State → Prop} {pc : Nat} {lv : List (Nat × Value)} {st : List Value} {σ : sx_H} {k n : Nat} {sa : Nat → Nat}
theorem at_throwS {cls text : String} {names : List String} {ik is ic q : Nat} (hE : ∀ (U : State) (H : Heap), K U H → sx_KE b sa U H) (hcls : Bundle.fit cls = true) (hnames : ∀ n ∈ names, Bundle.fit n = true) (hk : Cond.classLink Y.1 ik cls ∈ sx_tb) (hini : Cond.initialized cls ∈ sx_tb) (hstr : ∀ (U : State) (H : Heap), K U H → vk_R Y.1 is text q U) (hat : ∀ w ∈ vx_atS Y.1 ic cls names, w ∈ lw_tbl ∧ (sx_okw w || sx_kx w) = true) (hgood : ∀ w ∈ Cond.classLink Y.1 ik cls :: Cond.initialized cls :: vx_atS Y.1 ic cls names, vx_ot w = true) (htb : sx_tabOf Y = [])
    (d0 : decode Y.2.1 pc = .ok (.new ik, 3)) (d3 : decode Y.2.1 (pc + 3) = .ok (.dup, 1)) (d4 : decode Y.2.1 (pc + 4) = .ok (.ldc is, 2)) (d6 : decode Y.2.1 (pc + 6) = .ok (.invokespecial ic, 3)) (d9 : decode Y.2.1 (pc + 9) = .ok (.athrow, 1))
    (hRf : names.length + 3 < R.frames) (hRl : (st.map fun v => v.category).sum + (13 * (names.length + 1) + 43) ≤ R.locals) (hRc : k + 1 ≤ R.cells) (hRs : n + 6 ≤ R.slots) : sx_AtZ D b K Y R (sx_ZX D b R Q (sx_XC D b σ cls)) pc lv st σ k n := by
  intro p l e s m args below meth c H locs ls C V S hl
  have hts := C.2.2.2.2.1
  have hKE := hE _ _ C.2.2.2.2.2.2.2.2.2.1
  obtain ⟨hz, cA, hP, hT⟩ := id V
  refine vx_throwS C.1 C.2.1 C.2.2.2.2.2.2.2.2.2.2.2.1 C.2.2.2.1 hcls hnames (hts _ hk) (hts _ hini) (hstr _ _ C.2.2.2.2.2.2.2.2.2.1) (fun w hw => ?_) hgood hKE.2.2.2.2.1 hKE.2.2.2.2.2 S (hl.1.trans C.2.2.1.symm) d0 d3 d4 d6 d9 (fun x hx => ?_) hRf hRl hRc hRs C.2.2.2.2.2.2.1 (fun t hal hsz hold => ⟨rfl, by rw [← hz]; exact hsz, ⟨cA, fun j x hj => (hP j x hj).kept (hold _ (hP j x hj).lt), hT.moved hal C.2.2.2.2.2.2.2.2.1⟩, Nat.le_trans S.1 hsz, fun q h1 h2 => (hold q (Nat.lt_of_lt_of_le h1 S.1)).trans (S.2.1 q h1 h2)⟩) S.2.2 hRc hRs
  · obtain ⟨h1, h2⟩ := hat w hw
    by_cases h3 : sx_okw w = true
    · exact hts _ (sx_in h1 h3)
    · have h4 : sx_kx w = true := by cases hh : sx_okw w <;> simp_all
      exact sx_kx_use h4 (hKE.2.1 w h1 h4)
  · rw [C.2.2.2.2.2.2.2.2.2.2.2.2, htb] at hx
    cases hx
theorem at_throwSX {ix : Nat} {rx : ByteArray} (x0 : decode rx 0 = .ok (.aload_n 0, 1)) (x1 : decode rx 1 = .ok (.aload_n 1, 1)) (x2 : decode rx 2 = .ok (.invokespecial ix, 3)) (x5 : decode rx 5 = .ok (.return_, 1)) {cls text : String} {names : List String} {ik is ic q : Nat} (hE : ∀ (U : State) (H : Heap), K U H → sx_KE b sa U H) (hcls : Bundle.fit cls = true) (hnames : ∀ n ∈ names, Bundle.fit n = true) (hk : Cond.classLink Y.1 ik cls ∈ sx_tb) (hini : Cond.initialized cls ∈ sx_tb) (hstr : ∀ (U : State) (H : Heap), K U H → vk_R Y.1 is text q U) (hat : ∀ w ∈ vx_atSX Y.1 ic cls ix rx names, w ∈ lw_tbl ∧ (sx_okw w || sx_kx w) = true) (hgood : ∀ w ∈ Cond.classLink Y.1 ik cls :: Cond.initialized cls :: vx_atSX Y.1 ic cls ix rx names, vx_ot w = true) (htb : sx_tabOf Y = [])
    (d0 : decode Y.2.1 pc = .ok (.new ik, 3)) (d3 : decode Y.2.1 (pc + 3) = .ok (.dup, 1)) (d4 : decode Y.2.1 (pc + 4) = .ok (.ldc is, 2)) (d6 : decode Y.2.1 (pc + 6) = .ok (.invokespecial ic, 3)) (d9 : decode Y.2.1 (pc + 9) = .ok (.athrow, 1))
    (hRf : names.length + 3 < R.frames) (hRl : (st.map fun v => v.category).sum + (13 * (names.length + 1) + 43) ≤ R.locals) (hRc : k + 1 ≤ R.cells) (hRs : n + 6 ≤ R.slots) : sx_AtZ D b K Y R (sx_ZX D b R Q (sx_XC D b σ cls)) pc lv st σ k n := by
  intro p l e s m args below meth c H locs ls C V S hl
  have hts := C.2.2.2.2.1
  have hKE := hE _ _ C.2.2.2.2.2.2.2.2.2.1
  obtain ⟨hz, cA, hP, hT⟩ := id V
  refine vx_throwSX x0 x1 x2 x5 C.1 C.2.1 C.2.2.2.2.2.2.2.2.2.2.2.1 C.2.2.2.1 hcls hnames (hts _ hk) (hts _ hini) (hstr _ _ C.2.2.2.2.2.2.2.2.2.1) (fun w hw => ?_) hgood hKE.2.2.2.2.1 hKE.2.2.2.2.2 S (hl.1.trans C.2.2.1.symm) d0 d3 d4 d6 d9 (fun x hx => ?_) hRf hRl hRc hRs C.2.2.2.2.2.2.1 (fun t hal hsz hold => ⟨rfl, by rw [← hz]; exact hsz, ⟨cA, fun j x hj => (hP j x hj).kept (hold _ (hP j x hj).lt), hT.moved hal C.2.2.2.2.2.2.2.2.1⟩, Nat.le_trans S.1 hsz, fun q h1 h2 => (hold q (Nat.lt_of_lt_of_le h1 S.1)).trans (S.2.1 q h1 h2)⟩) S.2.2 hRc hRs
  · obtain ⟨h1, h2⟩ := hat w hw
    by_cases h3 : sx_okw w = true
    · exact hts _ (sx_in h1 h3)
    · have h4 : sx_kx w = true := by cases hh : sx_okw w <;> simp_all
      exact sx_kx_use h4 (hKE.2.1 w h1 h4)
  · rw [C.2.2.2.2.2.2.2.2.2.2.2.2, htb] at hx
    cases hx
/-- a call that throws, out of a method that has made no cell yet: its handler goes on -/
theorem at_callVX {y : MethodName} {Y1 : sx_Y} {np idx i ci : Nat} {R1 : Room} {E nm : String} {As : List Value} {fs : List Value} {T : u_T} {N : Nat} {ty : Nat → FieldType} {st0 : List Value} (hK : sx_Ks b K) (hm : sx_M y Y1 np ∧ sx_MI y ∧ Cond.selects y.cls y y ∈ sx_tb) (hml : Cond.methodLink Y.1 idx y ∈ sx_tb) (hc : sx_CL ci y.cls T N ty) (hi : σ[i]? = some (.inr (ci, fs)))
    (hM : sx_RunsX D b K y Y1 R1 (.ref (b + i) :: As) σ (fun _ _ => False) (sx_XC D b σ E)) (hn : As.length = np) (hst : st0 = As.reverse ++ .ref (b + i) :: st) (hW : (st.map fun v => v.category).sum ≤ 8) (hR : R1.frames + 1 ≤ R.frames ∧ 8 + (Y1.2.2.1 + 11) + R1.locals ≤ R.locals) (hR1 : R1.cells = 1) (hf : 0 + R1.cells ≤ R.cells ∧ n + R1.slots ≤ R.slots) (hd : decode Y.2.1 pc = .ok (.invokevirtual idx, 3))
    (pre : List ExceptionTableEntry) (x : ExceptionTableEntry) (suf : List ExceptionTableEntry) (hsplit : sx_tabOf Y = pre ++ x :: suf) (hpass : ∀ z ∈ pre, covers z pc = false ∨ (z.catchType ≠ 0 ∧ ∃ nm : String, Cond.classLink Y.1 z.catchType nm ∈ sx_tb ∧ ∀ (U : State) (H : Heap), K U H → va_Nc E nm U)) (hx : covers x pc = true) (h0 : x.catchType ≠ 0) (hlink : Cond.classLink Y.1 x.catchType nm ∈ sx_tb) (hcast : ∀ (U : State) (H : Heap), K U H → (Cond.castable E nm).before #[] U = true)
    (kk : ∀ (q : Nat) (σ1 : sx_H), σ1 = σ ∨ σ1 = σ ++ [sx_hole] → sx_AtZ D b K Y R Z x.handlerPc lv [.ref q] σ1 (0 + R1.cells) (n + R1.slots)) : sx_AtZ D b K Y R Z pc lv st0 σ 0 n := by
  intro p l e s m args below meth c H locs ls C V S hl
  have hp : PreV s H y.cls (b + i) (sx_Pc D b K (.ref (b + i) :: As) σ) As := by
    obtain ⟨hz, cA, hP, hT⟩ := id V
    exact ⟨sx_blind D b K _ σ hK (fun U h => sx_Vsz h), va_recv C.2.2.2.2.2.2.2.2.1 (sx_P1 (hP.obj hi)) hc.1 (q0 := 0) rfl, sx_pre hK C V S⟩
  have hrun := vx_runV (As := As) (rest := st) (g := F0 m pc ls st0) (locs := locs) (cells := 0) (slots := n) (e := e) (below := below) (meth := meth) ⟨C.1, C.2.1, C.2.2.1, C.2.2.2.1, C.2.2.2.2.1⟩ (hM l C.2.2.2.2.2.2.2.2.2.2.2.1) ⟨sx_callB (R1 := R1) hm.1 C hR hml, C.2.2.2.2.1 _ hm.2.1, C.2.2.2.2.1 _ hm.2.2⟩ hp rfl hn hl.1 hst (lv_room hW) hd hf
  intro T0 hT0 X0
  have hsz0 : H.size = s.heap.size := by
    have h8 := X0.heapSize
    rw [hT0] at h8
    have := S.1
    omega
  rcases hrun T0 hT0 X0 with ⟨v, st₀, t, T', L, g0, X', hL, e1, e2, ⟨⟨v1, σ1, hv, hq, hV1⟩, -⟩, sg⟩ | ⟨q, st₀, t, T', L, E9, ce, g0, X', hL, e1, e2, ⟨rfl, hsz, ⟨cA, hP, hT⟩, hF⟩, hce, hcv, hcl, sg⟩
  · exact hq.elim
  · have hz := V.1
    have hz1 : T'.heap.size ≤ s.heap.size + (0 + R1.cells) := X'.heapSize
    rw [hR1] at hz1
    rw [← e1] at hsz hP hce
    unfold va_F at hF
    rw [← e1] at hF
    have hal : s.vm.Alike T'.vm := X'.warmed.alike
    have hKt : va_K D vwCl [] t := by
      have h := va_K.moved hal C.2.2.2.2.2.2.2.2.1
      exact va_K.moved (u := T') (U := t) (by rw [e2]; exact Vm.Alike.refl t.vm) h
    have hT9 : sx_T s b cA σ := hT.moved (s := t) (t := s) (by rw [← e2]; exact hal.symm) hKt
    have hV9 : ∃ σ1 : sx_H, (σ1 = σ ∨ σ1 = σ ++ [sx_hole]) ∧ sx_V D b σ1 s T'.heap := by
      rcases Nat.lt_or_ge T'.heap.size (b + σ.length + 1) with h | h
      · exact ⟨σ, Or.inl rfl, by omega, cA, hP, hT9⟩
      · refine ⟨σ ++ [sx_hole], Or.inr rfl, ?_, cA, fun j x9 hj => ?_, fun j ty a hj hs => ?_⟩
        · rw [List.length_append]
          show T'.heap.size = b + (σ.length + 1)
          omega
        · by_cases hl9 : j < σ.length
          · rw [List.getElem?_append_left hl9] at hj
            exact hP j x9 hj
          · have hj2 : j < (σ ++ [sx_hole]).length := (List.getElem?_eq_some_iff.mp hj).1
            rw [List.length_append] at hj2
            have ej : j = σ.length := by
              have : j < σ.length + 1 := hj2
              omega
            subst ej
            rw [List.getElem?_append_right (Nat.le_refl _), Nat.sub_self] at hj
            cases hj
            have hlt9 : b + σ.length < T'.heap.size := by omega
            exact Or.inl ⟨rfl, _, Array.getElem?_eq_getElem hlt9⟩
        · by_cases hl9 : j < σ.length
          · rw [List.getElem?_append_left hl9] at hj
            exact hT9 j ty a hj hs
          · have hj2 : j < (σ ++ [sx_hole]).length := (List.getElem?_eq_some_iff.mp hj).1
            rw [List.length_append] at hj2
            have ej : j = σ.length := by
              have : j < σ.length + 1 := hj2
              omega
            subst ej
            rw [List.getElem?_append_right (Nat.le_refl _), Nat.sub_self] at hj
            cases hj
            exact absurd rfl hs
    obtain ⟨σ1, hσ, hV1⟩ := hV9
    have S1 : va_S (fun q : Nat => b ≤ q) s.heap T'.heap (locs ++ L) := by
      have hF1 := hF.1
      have hF2 := hF.2
      rw [g0] at hF1 hF2
      exact ⟨Nat.le_trans S.1 hF1, fun q h1 h2 => by rw [hF2 q (Nat.lt_of_lt_of_le h1 S.1) h2]; exact S.2.1 q h1 h2, fun q hq => by
        rcases List.mem_append.mp hq with h | h
        · exact S.2.2 q h
        · exact hL q h⟩
    have hKK := C.2.2.2.2.2.2.2.2.2.1
    have hc9 : vx_W p l e R s m args below meth c T'.heap (locs ++ L) (0 + R1.cells) (n + R1.slots) (Z below args s) (F0 m pc ls st) q := by
      refine vx_catch (rest := st) C.2.2.2.1 pre x suf (C.2.2.2.2.2.2.2.2.2.2.2.2.trans hsplit) (fun z hz => ?_) hx h0 (C.2.2.2.2.1 _ hlink) (sx_kx_use rfl (hcast _ _ hKK)) hce hcv hcl (kk q σ1 hσ p l e s m args below meth c T'.heap (locs ++ L) ls C hV1 S1 hl)
      rcases hpass z hz with h | ⟨h1, nm, h2, h3⟩
      · exact Or.inl h
      · exact Or.inr ⟨h1, nm, C.2.2.2.2.1 _ h2, h3 _ _ hKK⟩
    obtain ⟨t2, a1, b1⟩ := hc9 T' rfl X'
    exact ⟨t2, sg.trans a1, b1⟩
end
/-! ===== SwitchGame.line ===== -/
def f_X11_line (uG : sx_C) (uN : sx_C) (v1 : Int32) (v2 : Int32) : Option (Nat × Int32) := Option.bind (f_X6_isLine uN v1) (fun q1 => (if q1 = true then (if v2 = 0 then Option.bind (sp_rd (ga uN 0) 14 v1) (fun w => some (0, w)) else (if v2 = 1 then Option.bind (sp_rd (ga uN 1) 14 v1) (fun w => some (0, w)) else (if v2 = 2 then Option.bind (f_X11_stateOf uG uN v1) (fun w => some (0, w)) else some (2, 0)))) else some (1, 0)))
section
variable {D : va_G} {b : Nat} {K : State → Heap → Prop} {sa : Nat → Nat} {uG uN uD uR uF uP uL uT uA uM uH xA xB xC xD xE xF xG xH xI xJ xK xL uO : sx_C} {G : sx_H} {v1 v2 : Int32}
set_option maxRecDepth 100000 in
theorem t_X11_line_ok (hK : sx_Kk b K sa) {w : Int32} (h : f_X11_line uG uN v1 v2 = some (0, w)) : sx_Runs D b K yX11_line YX11_line (sx_rm 6) [.ref (b + 0), .int v1, .int v2] (sx_hp b uG uN uD uR uF uP uL uT uA uM uH xA xB xC xD xE xF xG xH xI xJ xK xL uO G) (sx_Ex (some (.int w)) (sx_hp b uG uN uD uR uF uP uL uT uA uM uH xA xB xC xD xE xF xG xH xI xJ xK xL uO G)) := by
  rw [f_X11_line] at h
  obtain ⟨q1, hq1, h⟩ := sp_bind h
  refine sx_run (by decide +kernel) rfl rfl (Nat.le_of_ble_eq_true rfl) ?_
  refine at_aload_n 0 dX11_line_0 rfl ?_
  refine at_getf cl_X11 (by decide) fl_X11_16 hg_0 rfl dX11_line_1 ?_
  refine at_iload_n 1 dX11_line_4 rfl ?_
  refine at_callVi (st := []) hK mt_X6_isLine ml_X11_122 cl_X6 hg_2 (t_X6_isLine hK hq1) rfl rfl (Nat.le_of_ble_eq_true rfl) ⟨Nat.le_of_ble_eq_true rfl, Nat.le_of_ble_eq_true rfl⟩ ⟨Nat.le_refl _, Nat.le_refl _⟩ dX11_line_5 ?_
  refine at_zne 21 dX11_line_8 (by decide) (fun c1 => ?_) (fun c1 => ?_)
  · rw [if_pos c1] at h
    refine at_iload_n 2 dX11_line_21 rfl ?_
    by_cases c2 : v2 = 0
    · rw [if_pos c2] at h
      refine at_tbC c2 48 dX11_line_22 (by decide) (by decide) rfl (by decide) ?_
      obtain ⟨w1, hw1, h⟩ := sp_bind h
      refine at_aload_n 0 dX11_line_48 rfl ?_
      refine at_getf cl_X11 (by decide) fl_X11_16 hg_0 rfl dX11_line_49 ?_
      refine at_getf cl_X6 (by decide) fl_X11_132 hg_2 rfl dX11_line_52 ?_
      refine at_iload_n 1 dX11_line_55 rfl ?_
      refine at_iald hg_3 hw1 dX11_line_56 ?_
      cases h
      exact at_iret rfl (Nat.le_refl _) (Nat.le_refl _) ⟨rfl, rfl⟩ dX11_line_57
    · rw [if_neg c2] at h
      by_cases c3 : v2 = 1
      · rw [if_pos c3] at h
        refine at_tbC c3 58 dX11_line_22 (by decide) (by decide) rfl (by decide) ?_
        obtain ⟨w1, hw1, h⟩ := sp_bind h
        refine at_aload_n 0 dX11_line_58 rfl ?_
        refine at_getf cl_X11 (by decide) fl_X11_16 hg_0 rfl dX11_line_59 ?_
        refine at_getf cl_X6 (by decide) fl_X11_136 hg_2 rfl dX11_line_62 ?_
        refine at_iload_n 1 dX11_line_65 rfl ?_
        refine at_iald hg_4 hw1 dX11_line_66 ?_
        cases h
        exact at_iret rfl (Nat.le_refl _) (Nat.le_refl _) ⟨rfl, rfl⟩ dX11_line_67
      · rw [if_neg c3] at h
        by_cases c4 : v2 = 2
        · rw [if_pos c4] at h
          refine at_tbC c4 68 dX11_line_22 (by decide) (by decide) rfl (by decide) ?_
          obtain ⟨w1, hw1, h⟩ := sp_bind h
          refine at_aload_n 0 dX11_line_68 rfl ?_
          refine at_iload_n 1 dX11_line_69 rfl ?_
          refine at_callVi (st := []) hK mt_X11_stateOf ml_X11_139 cl_X11 hg_0 (t_X11_stateOf hK hw1) rfl rfl (Nat.le_of_ble_eq_true rfl) ⟨Nat.le_of_ble_eq_true rfl, Nat.le_of_ble_eq_true rfl⟩ ⟨Nat.le_refl _, Nat.le_refl _⟩ dX11_line_70 ?_
          cases h
          exact at_iret rfl (Nat.le_refl _) (Nat.le_refl _) ⟨rfl, rfl⟩ dX11_line_73
        · rw [if_neg c4] at h
          cases h
  · rw [if_neg c1] at h
    cases h
theorem vx_at1 : ∀ w ∈ vx_atS RX11 129 "java/lang/IndexOutOfBoundsException" ["java/lang/RuntimeException", "java/lang/Exception"], w ∈ lw_tbl ∧ (sx_okw w || sx_kx w) = true := by decide +kernel
theorem vx_at2c : ∀ w ∈ vx_atSX RX11 147 "java/util/NoSuchElementException" 13 prog_31_method_4_code ["java/lang/RuntimeException", "java/lang/Exception"], w ∈ tables_1_1 ∨ w ∈ tables_1_6 ∨ w ∈ tables_1_7 := by decide +kernel
theorem vx_at2a : ∀ w ∈ vx_atSX RX11 147 "java/util/NoSuchElementException" 13 prog_31_method_4_code ["java/lang/RuntimeException", "java/lang/Exception"], w ∈ lw_tbl := fun w h => List.mem_append_right _ (by
  show w ∈ tables_1_1 ++ (tables_1_2 ++ (tables_1_3 ++ (tables_1_4 ++ (tables_1_5 ++ (tables_1_6 ++ (tables_1_7 ++ (tables_1_8 ++ tables_1_9)))))))
  rcases vx_at2c w h with h | h | h
  · exact List.mem_append_left _ h
  · exact List.mem_append_right _ (List.mem_append_right _ (List.mem_append_right _ (List.mem_append_right _ (List.mem_append_right _ (List.mem_append_left _ h)))))
  · exact List.mem_append_right _ (List.mem_append_right _ (List.mem_append_right _ (List.mem_append_right _ (List.mem_append_right _ (List.mem_append_right _ (List.mem_append_left _ h)))))))
theorem vx_at2b : ∀ w ∈ vx_atSX RX11 147 "java/util/NoSuchElementException" 13 prog_31_method_4_code ["java/lang/RuntimeException", "java/lang/Exception"], (sx_okw w || sx_kx w) = true := by decide +kernel
theorem vx_at2 : ∀ w ∈ vx_atSX RX11 147 "java/util/NoSuchElementException" 13 prog_31_method_4_code ["java/lang/RuntimeException", "java/lang/Exception"], w ∈ lw_tbl ∧ (sx_okw w || sx_kx w) = true := fun w h => ⟨vx_at2a w h, vx_at2b w h⟩
theorem vx_go1 : ∀ w ∈ Cond.classLink RX11 125 "java/lang/IndexOutOfBoundsException" :: Cond.initialized "java/lang/IndexOutOfBoundsException" :: vx_atS RX11 129 "java/lang/IndexOutOfBoundsException" ["java/lang/RuntimeException", "java/lang/Exception"], vx_ot w = true := by decide +kernel
theorem vx_go2 : ∀ w ∈ Cond.classLink RX11 143 "java/util/NoSuchElementException" :: Cond.initialized "java/util/NoSuchElementException" :: vx_atSX RX11 147 "java/util/NoSuchElementException" 13 prog_31_method_4_code ["java/lang/RuntimeException", "java/lang/Exception"], vx_ot w = true := by decide +kernel
set_option maxRecDepth 100000 in
theorem t_X11_line_x1 (hK : sx_Kk b K sa) (hE : ∀ (U : State) (H : Heap), K U H → sx_KE b sa U H) {w : Int32} (h : f_X11_line uG uN v1 v2 = some (1, w)) : sx_RunsX D b K yX11_line YX11_line (⟨8, 1, 6, 800⟩ : Room) [.ref (b + 0), .int v1, .int v2] (sx_hp b uG uN uD uR uF uP uL uT uA uM uH xA xB xC xD xE xF xG xH xI xJ xK xL uO G) (fun _ _ => False) (sx_XC D b (sx_hp b uG uN uD uR uF uP uL uT uA uM uH xA xB xC xD xE xF xG xH xI xJ xK xL uO G) "java/lang/IndexOutOfBoundsException") := by
  rw [f_X11_line] at h
  obtain ⟨q1, hq1, h⟩ := sp_bind h
  refine sx_runX (by decide +kernel) rfl rfl (Nat.le_of_ble_eq_true rfl) ?_ rfl
  refine at_aload_n 0 dX11_line_0 rfl ?_
  refine at_getf cl_X11 (by decide) fl_X11_16 hg_0 rfl dX11_line_1 ?_
  refine at_iload_n 1 dX11_line_4 rfl ?_
  refine at_callVi (st := []) hK mt_X6_isLine ml_X11_122 cl_X6 hg_2 (t_X6_isLine hK hq1) rfl rfl (Nat.le_of_ble_eq_true rfl) ⟨Nat.le_of_ble_eq_true rfl, Nat.le_of_ble_eq_true rfl⟩ ⟨Nat.le_of_ble_eq_true rfl, Nat.le_of_ble_eq_true rfl⟩ dX11_line_5 ?_
  refine at_zne 21 dX11_line_8 (by decide) (fun c1 => ?_) (fun c1 => ?_)
  · rw [if_pos c1] at h
    by_cases c2 : v2 = 0
    · rw [if_pos c2] at h; obtain ⟨_, _, h⟩ := sp_bind h; cases h
    · rw [if_neg c2] at h
      by_cases c3 : v2 = 1
      · rw [if_pos c3] at h; obtain ⟨_, _, h⟩ := sp_bind h; cases h
      · rw [if_neg c3] at h
        by_cases c4 : v2 = 2
        · rw [if_pos c4] at h; obtain ⟨_, _, h⟩ := sp_bind h; cases h
        · rw [if_neg c4] at h; cases h
  · exact at_throwS (names := ["java/lang/RuntimeException", "java/lang/Exception"]) (text := "no such line") hE (by decide +kernel) (by decide +kernel) (sx_in (List.mem_of_getElem? (i := 1389) (by decide +kernel)) rfl) (sx_in (List.mem_of_getElem? (i := 194) (by decide +kernel)) rfl) (fun U H h9 => (hE U H h9).2.2.2.1.1) vx_at1 vx_go1 rfl dX11_line_11 dX11_line_14 dX11_line_15 dX11_line_17 dX11_line_20 (Nat.le_of_ble_eq_true rfl) (Nat.le_of_ble_eq_true rfl) (Nat.le_of_ble_eq_true rfl) (Nat.le_of_ble_eq_true rfl)
set_option maxRecDepth 100000 in
theorem t_X11_line_x2 (hK : sx_Kk b K sa) (hE : ∀ (U : State) (H : Heap), K U H → sx_KE b sa U H) {w : Int32} (h : f_X11_line uG uN v1 v2 = some (2, w)) : sx_RunsX D b K yX11_line YX11_line (⟨8, 1, 6, 800⟩ : Room) [.ref (b + 0), .int v1, .int v2] (sx_hp b uG uN uD uR uF uP uL uT uA uM uH xA xB xC xD xE xF xG xH xI xJ xK xL uO G) (fun _ _ => False) (sx_XC D b (sx_hp b uG uN uD uR uF uP uL uT uA uM uH xA xB xC xD xE xF xG xH xI xJ xK xL uO G) "java/util/NoSuchElementException") := by
  rw [f_X11_line] at h
  obtain ⟨q1, hq1, h⟩ := sp_bind h
  refine sx_runX (by decide +kernel) rfl rfl (Nat.le_of_ble_eq_true rfl) ?_ rfl
  refine at_aload_n 0 dX11_line_0 rfl ?_
  refine at_getf cl_X11 (by decide) fl_X11_16 hg_0 rfl dX11_line_1 ?_
  refine at_iload_n 1 dX11_line_4 rfl ?_
  refine at_callVi (st := []) hK mt_X6_isLine ml_X11_122 cl_X6 hg_2 (t_X6_isLine hK hq1) rfl rfl (Nat.le_of_ble_eq_true rfl) ⟨Nat.le_of_ble_eq_true rfl, Nat.le_of_ble_eq_true rfl⟩ ⟨Nat.le_of_ble_eq_true rfl, Nat.le_of_ble_eq_true rfl⟩ dX11_line_5 ?_
  refine at_zne 21 dX11_line_8 (by decide) (fun c1 => ?_) (fun c1 => ?_)
  · rw [if_pos c1] at h
    by_cases c2 : v2 = 0
    · rw [if_pos c2] at h; obtain ⟨_, _, h⟩ := sp_bind h; cases h
    · rw [if_neg c2] at h
      by_cases c3 : v2 = 1
      · rw [if_pos c3] at h; obtain ⟨_, _, h⟩ := sp_bind h; cases h
      · rw [if_neg c3] at h
        by_cases c4 : v2 = 2
        · rw [if_pos c4] at h; obtain ⟨_, _, h⟩ := sp_bind h; cases h
        · refine at_iload_n 2 dX11_line_21 rfl ?_
          refine at_tbOut 74 dX11_line_22 (by have e0 := sp_ne (0) (by decide) c2; have e1 := sp_ne (1) (by decide) c3; have e2 := sp_ne (2) (by decide) c4; omega) (by decide) ?_
          exact at_throwSX (ix := 13) (rx := prog_31_method_4_code) (by decide +kernel) (by decide +kernel) (by decide +kernel) (by decide +kernel) (names := ["java/lang/RuntimeException", "java/lang/Exception"]) (text := "no such what") hE (by decide +kernel) (by decide +kernel) (sx_in (List.mem_of_getElem? (i := 1459) (by decide +kernel)) rfl) (sx_in (List.mem_of_getElem? (i := 195) (by decide +kernel)) rfl) (fun U H h9 => (hE U H h9).2.2.2.1.2) vx_at2 vx_go2 rfl dX11_line_74 dX11_line_77 dX11_line_78 dX11_line_80 dX11_line_83 (Nat.le_of_ble_eq_true rfl) (Nat.le_of_ble_eq_true rfl) (Nat.le_of_ble_eq_true rfl) (Nat.le_of_ble_eq_true rfl)
  · rw [if_neg c1] at h; cases h
end
