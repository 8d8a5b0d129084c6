/-! ===== calls ===== -/
theorem sx_blind (D : va_G) (b : Nat) (K : State → Heap → Prop) (as : List Value) (σ : sx_H) (hK : sx_Ks b K) (hsz : ∀ U : State, sx_V D b σ U U.heap → b ≤ U.heap.size) : FrameBlind (sx_Pc D b K as σ) := by
  intro a U g mk h
  obtain ⟨h1, h2, h3, h4, h5⟩ := h
  exact ⟨h1, sx_V.moved (t := U.calling g mk a) (Vm.Alike.refl U.vm) h3 h2, va_K.moved (u := U) (U := U.calling g mk a) (Vm.Alike.refl U.vm) h3, fun w hw => sx_okw_warm (sx_okt hw) (args := #[]) (s := U) (State.WarmedH.refl U) (h4 w hw), hK U (U.calling g mk a) U.heap U.heap (State.WarmedH.refl U) (hsz U h2) (fun _ _ => rfl) h5⟩
theorem sx_Vsz {D : va_G} {b : Nat} {σ : sx_H} {U : State} {H : Heap} (h : sx_V D b σ U H) : b ≤ H.size := by rw [h.1]; exact Nat.le_add_right _ _
section
variable {D : va_G} {b : Nat} {K : State → Heap → Prop} {Y : sx_Y} {R : Room} {Q : Option Value → sx_H → Prop} {Z : List Frame → Array Value → State → State → Prop} {pc : Nat} {lv : List (Nat × Value)} {st : List Value} {σ : sx_H} {k n : Nat}
/-- the start of a call out of the caller's own state -/
theorem sx_pre {p : Program} {l : Launch} {s : State} {m : MethodId} {args : Array Value} {meth : Method} {c : Code} {H : Heap} {locs : List Loc} {as : List Value} (hK : sx_Ks b K) (C : sx_Cx D b K Y p l s m args meth c) (V : sx_V D b σ s H) (S : va_S (fun q : Nat => b ≤ q) s.heap H locs) : ∀ U : State, U.heap = H → s.WarmedH U.vm → sx_Pc D b K as σ as.toArray U := by
  intro U hU hW
  subst hU
  refine ⟨rfl, sx_V.moved hW.alike C.2.2.2.2.2.2.2.2.1 V, va_K.moved hW.alike C.2.2.2.2.2.2.2.2.1, sx_tb_warm hW C.2.2.2.2.1, hK s U s.heap U.heap hW C.2.2.2.2.2.2.2.2.2.2.1 (fun q hq => ?_) C.2.2.2.2.2.2.2.2.2.1⟩
  exact S.2.1 q (Nat.lt_of_lt_of_le hq C.2.2.2.2.2.2.2.2.2.2.1) (Nat.not_le.mpr hq)
/-- behind a call -/
theorem sx_back {p : Program} {l : Launch} {e : Env} {s : State} {m : MethodId} {args : Array Value} {below : List Frame} {meth : Method} {c : Code} {H : Heap} {locs : List Loc} {ls : Array Slot} {R1 : Room} {Q1 : Option Value → sx_H → Prop} {a : Array Value} {st0 : List Value} (C : sx_Cx D b K Y p l s m args meth c) (V : sx_V D b σ s H) (S : va_S (fun q : Nat => b ≤ q) s.heap H locs) (hl : lv_has ls Y.2.2.1 lv)
    (hr : va_Run p l e R s m args below meth c H locs k n R1.cells R1.slots (F0 m pc ls st0) st (sx_Q D b Q1 a) (fun q : Nat => b ≤ q))
    (kk : ∀ (v : Option Value) (σ1 : sx_H), Q1 v σ1 → sx_AtZ D b K Y R Z (pc + 3) lv (v.toList ++ st) σ1 (k + R1.cells) (n + R1.slots)) : W p l e R s m args below meth c H locs k n (Z below args s) (F0 m pc ls st0) := by
  intro T hT X
  obtain ⟨v, st₀, t, T', L, h0, X', hL, e1, e2, ⟨⟨v1, σ1, hv, hq, hV1⟩, hz, hk⟩, sg⟩ := hr T hT X
  cases hv
  rw [h0] at hz hk
  have hal : s.vm.Alike T'.vm := X'.warmed.alike
  have hKt : va_K D vwCl [] t := by
    have h := va_K.moved hal C.2.2.2.2.2.2.2.2.1
    exact va_K.moved (u := T') (U := t) (by rw [e2]; exact Vm.Alike.refl t.vm) h
  have hV2 : sx_V D b σ1 s T'.heap := by
    rw [e1]
    exact sx_V.moved (s := t) (t := s) (by rw [← e2]; exact hal.symm) hKt hV1
  obtain ⟨t2, a1, b1⟩ := kk v σ1 hq p l e s m args below meth c T'.heap (locs ++ L) ls C hV2
    ⟨Nat.le_trans S.1 (by rw [e1]; exact hz), fun q h1 h2 => by rw [e1, hk q (Nat.lt_of_lt_of_le h1 S.1) h2]; exact S.2.1 q h1 h2, fun q hq => by
      rcases List.mem_append.mp hq with h | h
      · exact S.2.2 q h
      · exact hL q h⟩ hl T' rfl X'
  exact ⟨t2, sg t2 a1, b1⟩
theorem sx_callB {s : State} {p : Program} {l : Launch} {m : MethodId} {args : Array Value} {meth : Method} {c : Code} {y : MethodName} {Y1 : sx_Y} {np idx : Nat} {R1 : Room} (hm : sx_M y Y1 np) (C : sx_Cx D b K Y p l s m args meth c) (hR : R1.frames + 1 ≤ R.frames ∧ 8 + (Y1.2.2.1 + 11) + R1.locals ≤ R.locals) (h : Cond.methodLink Y.1 idx y ∈ sx_tb) : CallB R s args Y.1 idx y Y1.2.1 Y1.2.2.1 Y1.2.2.2.1 [Cond.code y Y1.2.1 Y1.2.2.1 Y1.2.2.2.1] R1 R1.cells R1.slots np := by
  obtain ⟨-, -, hcd, hini, hd1, hd2, hd3⟩ := hm
  have hts := C.2.2.2.2.1
  refine ⟨rfl, rfl, hR.1, hR.2, fun w hw a' U hW => ?_, List.mem_singleton.mpr rfl, hts _ hcd, hts _ hini, ⟨hd1, hd2⟩, fun sig hs => ?_, hts _ h⟩
  · rw [List.mem_singleton.mp hw]
    exact sx_okw_warm (sx_okt hcd) hW (hts _ hcd)
  · rw [hs] at hd3
    exact (Option.some.inj hd3).symm
theorem sx_callN {s : State} {p : Program} {l : Launch} {m : MethodId} {args : Array Value} {meth : Method} {c : Code} {y : MethodName} {Y1 : sx_Y} {np idx : Nat} {R1 : Room} {host : String} (hm : sx_M y Y1 np) (C : sx_Cx D b K Y p l s m args meth c) (hR : R1.frames + 1 ≤ R.frames ∧ 8 + (Y1.2.2.1 + 11) + R1.locals ≤ R.locals) (h : Cond.methodLinkNest Y.1 idx y host ∈ sx_tb) : va_CN R s args Y.1 idx y host Y1.2.1 Y1.2.2.1 Y1.2.2.2.1 [Cond.code y Y1.2.1 Y1.2.2.1 Y1.2.2.2.1] R1 R1.cells R1.slots np := by
  obtain ⟨-, -, hcd, hini, hd1, hd2, hd3⟩ := hm
  have hts := C.2.2.2.2.1
  refine ⟨⟨rfl, rfl, hR.1, hR.2, fun w hw a' U hW => ?_, List.mem_singleton.mpr rfl⟩, hts _ hcd, hts _ hini, ⟨hd1, hd2⟩, fun sig hs => ?_, hts _ h⟩
  · rw [List.mem_singleton.mp hw]
    exact sx_okw_warm (sx_okt hcd) hW (hts _ hcd)
  · rw [hs] at hd3
    exact (Option.some.inj hd3).symm
/-- invokevirtual of a method of the receiver's own class, any contract -/
theorem at_callVQ {y : MethodName} {Y1 : sx_Y} {np idx i ci : Nat} {R1 : Room} {Q1 : Option Value → sx_H → Prop} {As : List Value} {fs : List Value} {T : u_T} {N : Nat} {ty : Nat → FieldType} {st0 : List Value} (hK : sx_Ks b K) (hm : sx_M y Y1 np) (hmi : sx_MI y) (hsel : Cond.selects y.cls y y ∈ sx_tb) (hml : sx_ML Y.1 idx y) (hc : sx_CL ci y.cls T N ty) (hi : σ[i]? = some (.inr (ci, fs)))
    (hM : sx_Runs D b K y Y1 R1 (.ref (b + i) :: As) σ Q1) (hn : As.length = np) (hst : st0 = As.reverse ++ .ref (b + i) :: st) (hW : (st.map fun v => v.category).sum ≤ 8) (hR : R1.frames + 1 ≤ R.frames ∧ 8 + (Y1.2.2.1 + 11) + R1.locals ≤ R.locals) (hf : k + R1.cells ≤ R.cells ∧ n + R1.slots ≤ R.slots) (hd : decode Y.2.1 pc = .ok (.invokevirtual idx, 3))
    (kk : ∀ (v : Option Value) (σ1 : sx_H), Q1 v σ1 → sx_AtZ D b K Y R Z (pc + 3) lv (v.toList ++ st) σ1 (k + R1.cells) (n + R1.slots)) : sx_AtZ D b K Y R Z pc lv st0 σ k n := by
  intro p l e s m args below meth c H locs ls C V S hl
  have hp : PreV s H y.cls (b + i) (sx_Pc D b K (.ref (b + i) :: As) σ) As := by
    obtain ⟨hz, cA, hP, hT⟩ := id V
    exact ⟨sx_blind D b K _ σ hK (fun U h => sx_Vsz h), va_recv C.2.2.2.2.2.2.2.2.1 (sx_P1 (hP.obj hi)) hc.1 (q0 := 0) rfl, sx_pre hK C V S⟩
  rcases hml with h | ⟨host, h⟩
  · exact sx_back C V S hl (va_runV (As := As) (rest := st) ⟨C.1, C.2.1, C.2.2.1, C.2.2.2.1, C.2.2.2.2.1⟩ (hM l C.2.2.2.2.2.2.2.2.2.2.2.1) ⟨sx_callB hm C hR h, C.2.2.2.2.1 _ hmi, C.2.2.2.2.1 _ hsel⟩ hp rfl hn hl.1 hst (lv_room hW) hd hf) kk
  · exact sx_back C V S hl (va_runVN (As := As) (rest := st) (C := y.cls) ⟨C.1, C.2.1, C.2.2.1, C.2.2.2.1, C.2.2.2.2.1⟩ (hM l C.2.2.2.2.2.2.2.2.2.2.2.1) ⟨sx_callN hm C hR h, C.2.2.2.2.1 _ hmi, C.2.2.2.2.1 _ hsel⟩ hp rfl hn hl.1 hst (lv_room hW) hd hf) kk
/-- invokestatic -/
theorem at_callSQ {y : MethodName} {Y1 : sx_Y} {np idx : Nat} {R1 : Room} {Q1 : Option Value → sx_H → Prop} {As : List Value} {st0 : List Value} (hK : sx_Ks b K) (hm : sx_M y Y1 np) (hmi : Cond.static y ∈ sx_tb) (hml : sx_ML Y.1 idx y)
    (hM : sx_Runs D b K y Y1 R1 As σ Q1) (hn : As.length = np) (hst : st0 = As.reverse ++ st) (hW : (st.map fun v => v.category).sum ≤ 8) (hR : R1.frames + 1 ≤ R.frames ∧ 8 + (Y1.2.2.1 + 11) + R1.locals ≤ R.locals) (hf : k + R1.cells ≤ R.cells ∧ n + R1.slots ≤ R.slots) (hd : decode Y.2.1 pc = .ok (.invokestatic idx, 3))
    (kk : ∀ (v : Option Value) (σ1 : sx_H), Q1 v σ1 → sx_AtZ D b K Y R Z (pc + 3) lv (v.toList ++ st) σ1 (k + R1.cells) (n + R1.slots)) : sx_AtZ D b K Y R Z pc lv st0 σ k n := by
  intro p l e s m args below meth c H locs ls C V S hl
  have hp : PreS s H (sx_Pc D b K As σ) As := ⟨sx_blind D b K _ σ hK (fun U h => sx_Vsz h), sx_pre hK C V S⟩
  rcases hml with h | ⟨host, h⟩
  · exact sx_back C V S hl (va_runS (As := As) (rest := st) ⟨C.1, C.2.1, C.2.2.1, C.2.2.2.1, C.2.2.2.2.1⟩ (hM l C.2.2.2.2.2.2.2.2.2.2.2.1) ⟨sx_callB hm C hR h, C.2.2.2.2.1 _ hmi⟩ hp rfl hn hl.1 hst (lv_room hW) hd hf) kk
  · exact sx_back C V S hl (va_runSN (As := As) (rest := st) ⟨C.1, C.2.1, C.2.2.1, C.2.2.2.1, C.2.2.2.2.1⟩ (hM l C.2.2.2.2.2.2.2.2.2.2.2.1) ⟨sx_callN hm C hR h, C.2.2.2.2.1 _ hmi, trivial⟩ hp rfl hn hl.1 hst (lv_room hW) hd hf) kk
/-- invokespecial of a constructor -/
theorem at_callIQ {y : MethodName} {Y1 : sx_Y} {np idx a : Nat} {R1 : Room} {Q1 : Option Value → sx_H → Prop} {As : List Value} {st0 : List Value} (hK : sx_Ks b K) (hm : sx_M y Y1 np) (hin : y.name = "<init>") (hrt : Y1.2.2.2.1 = none) (hmi : sx_MI y) (hml : sx_ML Y.1 idx y)
    (hM : sx_Runs D b K y Y1 R1 (.ref a :: As) σ Q1) (hn : As.length = np) (hst : st0 = As.reverse ++ .ref a :: st) (hW : (st.map fun v => v.category).sum ≤ 8) (hR : R1.frames + 1 ≤ R.frames ∧ 8 + (Y1.2.2.1 + 11) + R1.locals ≤ R.locals) (hf : k + R1.cells ≤ R.cells ∧ n + R1.slots ≤ R.slots) (hd : decode Y.2.1 pc = .ok (.invokespecial idx, 3))
    (kk : ∀ (v : Option Value) (σ1 : sx_H), Q1 v σ1 → sx_AtZ D b K Y R Z (pc + 3) lv (v.toList ++ st) σ1 (k + R1.cells) (n + R1.slots)) : sx_AtZ D b K Y R Z pc lv st0 σ k n := by
  intro p l e s m args below meth c H locs ls C V S hl
  have hp : PreS s H (sx_Pc D b K (.ref a :: As) σ) (.ref a :: As) := ⟨sx_blind D b K _ σ hK (fun U h => sx_Vsz h), sx_pre hK C V S⟩
  obtain ⟨o1, c1, n1, r1, m1⟩ := Y1
  dsimp only at hrt
  subst hrt
  rcases hml with h | ⟨host, h⟩
  · exact sx_back C V S hl (va_runI (As := As) (rest := st) ⟨C.1, C.2.1, C.2.2.1, C.2.2.2.1, C.2.2.2.2.1⟩ (hM l C.2.2.2.2.2.2.2.2.2.2.2.1) ⟨sx_callB hm C hR h, hin, C.2.2.2.2.1 _ hmi⟩ hp rfl hn hl.1 hst (lv_room hW) hd hf) kk
  · exact sx_back C V S hl (va_runIN (As := As) (rest := st) ⟨C.1, C.2.1, C.2.2.1, C.2.2.2.1, C.2.2.2.2.1⟩ (hM l C.2.2.2.2.2.2.2.2.2.2.2.1) ⟨sx_callN hm C hR h, hin, C.2.2.2.2.1 _ hmi⟩ hp rfl hn hl.1 hst (lv_room hW) hd hf) kk
end
/-- a contract out of the walk of the body -/
theorem sx_run {D : va_G} {b : Nat} {K : State → Heap → Prop} {y : MethodName} {Y : sx_Y} {R : Room} {Q : Option Value → sx_H → Prop} {as : List Value} {σ : sx_H} (hy : plainFor y = true) (hY1 : Y.1 = y.cls) (hY2 : Y.2.2.2.2 = y.name) (hlen : (lg_sl as).length ≤ Y.2.2.1) (h : sx_At D b K Y R Q 0 (lv_args 0 as) [] σ 0 0) (htb : sx_tabOf Y = [] := by first | rfl | exact if_neg (by decide) | exact if_neg (by decide +kernel)) : sx_Runs D b K y Y R as σ Q := by
  intro l hlt
  refine va_MetF (cc := Y.2.1) (maxL := Y.2.2.1) (ret := Y.2.2.2.1) hy rfl ?_
  intro p e s m args below meth c s₁ B hml hv
  obtain ⟨rfl, hV, hK, hts, hKK⟩ := hv
  have hown : s.vm.findClass Y.1 = some m.cls := by rw [hY1]; exact findClass_of_methodNamed B.named
  have hnm : meth.name = Y.2.2.2.2 := by rw [hY2]; exact (name_of_methodNamed B.named B.method).1
  have ht : c.exceptionTable.toList = sx_tabOf Y := by
    rw [htb]
    obtain ⟨meth9, c9, h1, h2, -, -, -, -, h7, -⟩ := Cond.code_spec B.named (atoms_spec (ws := [Cond.code y Y.2.1 Y.2.2.1 Y.2.2.2.1]) B.pre _ List.mem_cons_self)
    cases Option.some.inj (h1.symm.trans B.method)
    cases Option.some.inj (h2.symm.trans (Stand.of_body B).code)
    rw [Array.isEmpty_iff.mp h7]
  have hl := lv_entry as hlen
  rw [lg_entry_eq]
  refine h p l e s m as.toArray below meth c s.heap [] _ ⟨B.exec, B.bytes, hml, hown, fun w hw => sx_okw_warm (sx_okt hw) (args := #[]) (State.WarmedH.refl s) (hts w hw), B.returns, B.notSynchronized, hnm, hK, hKK, sx_Vsz hV, hlt, ht⟩ hV va_S.rf hl
