/-! ===== the law's line ===== -/
def YL_line : sx_Y := (RL, cL_line, 5, some .int, "line")
def sx_RunsW (D : va_G) (b : Nat) (K : State → Heap → Prop) (y : MethodName) (Y : sx_Y) (hh : List (Nat × Nat × Nat × Nat)) (R : Room) (as : List Value) (σ : sx_H) (Q : Option Value → sx_H → Prop) : Prop :=
  ∀ l : Launch, l.stackTraces = false → Met l y [Cond.codeWith y Y.2.1 Y.2.2.1 Y.2.2.2.1 hh] R (sx_Pc D b K as σ) (sx_Q D b Q) R.cells R.slots (fun q : Nat => b ≤ q)
theorem sx_runW {D : va_G} {b : Nat} {K : State → Heap → Prop} {y : MethodName} {Y : sx_Y} {hh : List (Nat × Nat × Nat × Nat)} {R : Room} {Q : Option Value → sx_H → Prop} {as : List Value} {σ : sx_H} (hy : plainName y.cls = true) (hY1 : Y.1 = y.cls) (hY2 : Y.2.2.2.2 = y.name) (hlen : (lg_sl as).length ≤ Y.2.2.1) (h : sx_At D b K Y R Q 0 (lv_args 0 as) [] σ 0 0) (htb : sx_tabOf Y = tableOf hh) : sx_RunsW D b K y Y hh R as σ Q := by
  intro l hlt
  refine va_MetW (cc := Y.2.1) (maxL := Y.2.2.1) (ret := Y.2.2.2.1) (hh := hh) hy rfl ?_
  intro p e s m args below meth c s₁ B hml hv
  obtain ⟨rfl, hV, hK, hts, hKK⟩ := hv
  have hown : s.vm.findClass Y.1 = some m.cls := by rw [hY1]; exact findClass_of_methodNamed B.named
  have hnm : meth.name = Y.2.2.2.2 := by rw [hY2]; exact (name_of_methodNamed B.named B.method).1
  have ht : c.exceptionTable.toList = sx_tabOf Y := by
    rw [htb]
    exact vx_table (x := y) B (atoms_spec (ws := [Cond.codeWith y Y.2.1 Y.2.2.1 Y.2.2.2.1 hh]) B.pre _ List.mem_cons_self)
  have hl := lv_entry as hlen
  rw [lg_entry_eq]
  refine h p l e s m as.toArray below meth c s.heap [] _ ⟨B.exec, B.bytes, hml, hown, fun w hw => sx_okw_warm (sx_okt hw) (args := #[]) (State.WarmedH.refl s) (hts w hw), B.returns, B.notSynchronized, hnm, hK, hKK, sx_Vsz hV, hlt, ht⟩ hV va_S.rf hl
section
variable {D : va_G} {b : Nat} {K : State → Heap → Prop} {Y : sx_Y} {R : Room} {Z : List Frame → Array Value → State → State → Prop} {pc : Nat} {lv : List (Nat × Value)} {st : List Value} {σ : sx_H} {k n : Nat}
theorem at_callSW {y : MethodName} {Y1 : sx_Y} {hh : List (Nat × Nat × Nat × Nat)} {np idx : Nat} {R1 : Room} {Q1 : Option Value → sx_H → Prop} {As : List Value} {st0 : List Value} (hK : sx_Ks b K) (hcd : Cond.codeWith y Y1.2.1 Y1.2.2.1 Y1.2.2.2.1 hh ∈ sx_tb) (hini : Cond.initialized y.cls ∈ sx_tb) (hd12 : y.cls ≠ "java/lang/invoke/MethodHandle" ∧ y.cls ≠ "java/lang/invoke/VarHandle") (hd3 : (parseMethodDescriptor y.desc).map (fun d => d.parameters.length) = some np) (hmi : Cond.static y ∈ sx_tb) (hml : Cond.methodLink Y.1 idx y ∈ sx_tb)
    (hM : sx_RunsW D b K y Y1 hh R1 As σ Q1) (hn : As.length = np) (hst : st0 = As.reverse ++ st) (hW : (st.map fun v => v.category).sum ≤ 8) (hR : R1.frames + 1 ≤ R.frames ∧ 8 + (Y1.2.2.1 + 11) + R1.locals ≤ R.locals) (hf : k + R1.cells ≤ R.cells ∧ n + R1.slots ≤ R.slots) (hd : decode Y.2.1 pc = .ok (.invokestatic idx, 3))
    (kk : ∀ (v : Option Value) (σ1 : sx_H), Q1 v σ1 → sx_AtZ D b K Y R Z (pc + 3) lv (v.toList ++ st) σ1 (k + R1.cells) (n + R1.slots)) : sx_AtZ D b K Y R Z pc lv st0 σ k n := by
  intro p l e s m args below meth c H locs ls C V S hl
  have hts := C.2.2.2.2.1
  have hp : PreS s H (sx_Pc D b K As σ) As := ⟨sx_blind D b K _ σ hK (fun U h => sx_Vsz h), sx_pre hK C V S⟩
  refine sx_back C V S hl (vx_runSW (As := As) (rest := st) ⟨C.1, C.2.1, C.2.2.1, C.2.2.2.1, C.2.2.2.2.1⟩ (hM l C.2.2.2.2.2.2.2.2.2.2.2.1) ⟨⟨rfl, rfl, hR.1, hR.2, fun w hw a' U hW => ?_, List.mem_singleton.mpr rfl⟩, hts _ hcd, hts _ hini, hd12, fun sig hs => ?_, hts _ hml, hts _ hmi⟩ hp rfl hn hl.1 hst (lv_room hW) hd hf) kk
  · rw [List.mem_singleton.mp hw]
    exact sx_okw_warm (sx_okt hcd) hW (hts _ hcd)
  · rw [hs] at hd3
    exact (Option.some.inj hd3).symm
end
def f_L_line (uG : sx_C) (uN : sx_C) (v1 : Int32) (v2 : Int32) (uO : sx_C) : Option (Int32 × sx_C) := Option.bind (f_X11_line uG uN v1 v2) (fun q => some (if q.1 = 0 then (0, sm uO 0 0 q.2.toInt64) else if q.1 = 1 then (1, uO) else (2, uO)))
theorem f_X11_line_cs {uG uN : sx_C} {v1 v2 : Int32} {q : Nat × Int32} (h : f_X11_line uG uN v1 v2 = some q) : q.1 = 0 ∨ q.1 = 1 ∨ q.1 = 2 := by
  rw [f_X11_line] at h
  obtain ⟨q1, -, h⟩ := sp_bind h
  by_cases c1 : q1 = true
  · rw [if_pos c1] at h
    by_cases c2 : v2 = 0
    · rw [if_pos c2] at h; obtain ⟨w, -, h⟩ := sp_bind h; cases h; exact Or.inl rfl
    · rw [if_neg c2] at h
      by_cases c3 : v2 = 1
      · rw [if_pos c3] at h; obtain ⟨w, -, h⟩ := sp_bind h; cases h; exact Or.inl rfl
      · rw [if_neg c3] at h
        by_cases c4 : v2 = 2
        · rw [if_pos c4] at h; obtain ⟨w, -, h⟩ := sp_bind h; cases h; exact Or.inl rfl
        · rw [if_neg c4] at h; cases h; exact Or.inr (Or.inr rfl)
  · rw [if_neg c1] at h; cases h; exact Or.inr (Or.inl rfl)
theorem tab_line : sx_tabOf YL_line = tableOf sx_hh := if_pos ⟨rfl, rfl⟩
section
variable {D : va_G} {b : Nat} {K : State → Heap → Prop} {sa : Nat → Nat} {uG uN uD uR uF uP uL uT uA uM uH xA xB xC xD xE xF xG xH xI xJ xK xL uO : sx_C} {G : sx_H} {v1 v2 : Int32}
set_option maxRecDepth 100000 in
theorem t_L_line (hK : sx_Kk b K sa) (hE : ∀ (U : State) (H : Heap), K U H → sx_KE b sa U H) {res : Int32 × sx_C} (h : f_L_line uG uN v1 v2 uO = some res) : sx_RunsW D b K yL_line YL_line sx_hh (⟨10, 1, 6, 1000⟩ : Room) [.ref (b + 0), .int v1, .int v2, .ref (b + 55)] (sx_hp b uG uN uD uR uF uP uL uT uA uM uH xA xB xC xD xE xF xG xH xI xJ xK xL uO G) (sx_Eg (some (.int res.1)) (fun G => (sx_hp b uG uN uD uR uF uP uL uT uA uM uH xA xB xC xD xE xF xG xH xI xJ xK xL res.2 G))) := by
  rw [f_L_line] at h
  obtain ⟨⟨q, w⟩, hq, h⟩ := sp_bind h
  refine sx_runW (by decide +kernel) rfl rfl (Nat.le_of_ble_eq_true rfl) ?_ tab_line
  refine at_aload_n 3 dL_line_0 rfl ?_
  refine at_iconst 0 dL_line_1 rfl ?_
  refine at_aload_n 0 dL_line_2 rfl ?_
  refine at_iload_n 1 dL_line_3 rfl ?_
  refine at_iload_n 2 dL_line_4 rfl ?_
  rcases f_X11_line_cs hq with e | e | e
  · have e : q = 0 := e
    subst e
    refine at_callVi (st := [.int 0, .ref (b + 55)]) hK mt_X11_line ml_L_7 cl_X11 hg_0 (t_X11_line_ok hK hq) rfl rfl (Nat.le_of_ble_eq_true rfl) ⟨Nat.le_of_ble_eq_true rfl, Nat.le_of_ble_eq_true rfl⟩ ⟨Nat.le_of_ble_eq_true rfl, Nat.le_of_ble_eq_true rfl⟩ dL_line_5 ?_
    refine at_i2l dL_line_8 ?_
    refine at_last hg_55 rfl hs_55 dL_line_9 ?_
    refine at_goto 21 dL_line_10 rfl ?_
    refine at_iconst 0 dL_line_21 rfl ?_
    cases h
    exact at_iret rfl (Nat.le_of_ble_eq_true rfl) (Nat.le_of_ble_eq_true rfl) ⟨rfl, G, rfl⟩ dL_line_22
  · have e : q = 1 := e
    subst e
    refine at_callVX (st := [.int 0, .ref (b + 55)]) hK.1 mt_X11_line (sx_in (List.mem_of_getElem? (i := 1385) (by decide +kernel)) rfl) cl_X11 hg_0 (t_X11_line_x1 hK hE hq) rfl rfl (Nat.le_of_ble_eq_true rfl) ⟨Nat.le_of_ble_eq_true rfl, Nat.le_of_ble_eq_true rfl⟩ rfl ⟨Nat.le_of_ble_eq_true rfl, Nat.le_of_ble_eq_true rfl⟩ dL_line_5 [] _ _ tab_line (fun z hz => nomatch hz) rfl (by decide) (nm := "java/lang/IndexOutOfBoundsException") (sx_in (List.mem_of_getElem? (i := 1383) (by decide +kernel)) rfl) (fun U H h9 => (hE U H h9).2.1 _ (List.mem_of_getElem? (i := 1391) (by decide +kernel)) rfl) (fun q σ1 hσ => ?_)
    refine at_astore _ dL_line_13 (Nat.le_of_ble_eq_true rfl) rfl ?_
    refine at_iconst 1 dL_line_15 rfl ?_
    cases h
    refine at_iret rfl (Nat.le_of_ble_eq_true rfl) (Nat.le_of_ble_eq_true rfl) ⟨rfl, ?_⟩ dL_line_16
    rcases hσ with rfl | rfl
    · exact ⟨G, rfl⟩
    · exact ⟨G ++ [sx_hole], hp_app _⟩
  · have e : q = 2 := e
    subst e
    refine at_callVX (st := [.int 0, .ref (b + 55)]) hK.1 mt_X11_line (sx_in (List.mem_of_getElem? (i := 1385) (by decide +kernel)) rfl) cl_X11 hg_0 (t_X11_line_x2 hK hE hq) rfl rfl (Nat.le_of_ble_eq_true rfl) ⟨Nat.le_of_ble_eq_true rfl, Nat.le_of_ble_eq_true rfl⟩ rfl ⟨Nat.le_of_ble_eq_true rfl, Nat.le_of_ble_eq_true rfl⟩ dL_line_5 [⟨0, 10, 13, 13⟩] _ _ tab_line (fun z hz => ?_) rfl (by decide) (nm := "java/util/NoSuchElementException") (sx_in (List.mem_of_getElem? (i := 1384) (by decide +kernel)) rfl) (fun U H h9 => (hE U H h9).2.1 _ (List.mem_of_getElem? (i := 1461) (by decide +kernel)) rfl) (fun q σ1 hσ => ?_)
    · rw [List.mem_singleton.mp hz]
      exact Or.inr ⟨by decide, "java/lang/IndexOutOfBoundsException", sx_in (List.mem_of_getElem? (i := 1383) (by decide +kernel)) rfl, fun U H h9 => (hE U H h9).2.2.1⟩
    refine at_astore _ dL_line_17 (Nat.le_of_ble_eq_true rfl) rfl ?_
    refine at_iconst 2 dL_line_19 rfl ?_
    cases h
    refine at_iret rfl (Nat.le_of_ble_eq_true rfl) (Nat.le_of_ble_eq_true rfl) ⟨rfl, ?_⟩ dL_line_20
    rcases hσ with rfl | rfl
    · exact ⟨G, rfl⟩
    · exact ⟨G ++ [sx_hole], hp_app _⟩
end
