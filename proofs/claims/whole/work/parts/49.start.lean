/-! ===== the old heap and the tables, as every call needs them ===== -/
def sx_KK (b bb L : Nat) (xs : Nat → Int32) (sa : Nat → Nat) : State → Heap → Prop := fun U H => sx_KF b sa U H ∧ sx_KE b sa U H ∧ va_X bb L xs U H
theorem sx_KK_s {b bb L : Nat} {xs : Nat → Int32} {sa : Nat → Nat} (hbb : bb < b) : sx_Ks b (sx_KK b bb L xs sa) := by
  intro s t H H1 hW hb hq h
  obtain ⟨⟨k1, k2, k3, k4, k5, k6⟩, ⟨e1, e2, e3, ⟨e4, e5⟩, e6, e7⟩, x1⟩ := h
  have hal : s.vm.Alike t.vm := hW.alike
  have hq' : ∀ a : Nat, a < H.size → ¬ (fun q : Nat => b ≤ q) a → H1[a]? = H[a]? := fun a _ h2 => hq a (Nat.not_le.mp h2)
  refine ⟨⟨vk_S.moved hal (k1.kept hq'), fun q h => vk_R.warm hW (k2 q h), va_Z.moved hal (k3.kept hq'), va_Z.moved hal (k4.kept hq'), va_Z.moved hal (k5.kept hq'), va_T.moved hal (k6.kept hq')⟩, ⟨?_, ?_, va_Nc.moved hal e3, ⟨vk_R.warm hW e4, vk_R.warm hW e5⟩, vx_Zq.moved hal (e6.kept hq'), vx_Zq.moved hal (e7.kept hq')⟩, va_X.moved hal (x1.kept (hq bb hbb))⟩
  · exact Stand.arrayOver_alikeB hal e1
  · intro w hw hk
    have h := e2 w hw hk
    cases w <;> simp [sx_kx] at hk
    · first | exact va_Nw.warmC hW h | exact va_Nw.warmD hW h
    · first | exact va_Nw.warmC hW h | exact va_Nw.warmD hW h
def sx_tmS (i : Nat) : Term := ([.string RX9 157, .string RX9 162, .string RX9 164, .string RX9 166, .string RX9 168, .string RX9 170, .string RX9 172, .string RX9 174, .string RX12 108] : List Term).getD i (.string "" 0)
def sx_tmE (i : Nat) : Term := ([.string RX11 127, .string RX11 145] : List Term).getD i (.string "" 0)
def sx_byE : List (List Int32) := [[110, 111, 32, 115, 117, 99, 104, 32, 108, 105, 110, 101], [110, 111, 32, 115, 117, 99, 104, 32, 119, 104, 97, 116]]
abbrev sx_nar : Cond := Jvm.Cond.and given_1 narrow_1
section
variable {args : Array Value} {s : State}
theorem sx_KK_0 (hgv : sx_nar.before args s = true) (hts : ∀ w ∈ lw_tbl, w.before args s = true) : ∃ sa : Nat → Nat, sx_KF s.heap.size sa s s.heap ∧ sx_KE s.heap.size sa s s.heap := by
  have hs := flat_of_before _ hgv
  have hA : ∀ a : Nat, a < s.heap.size → ¬ (fun q : Nat => s.heap.size ≤ q) a := fun a h => Nat.not_le.mpr h
  obtain ⟨adK, adV, hS, hev⟩ := vk_Sof (args := args) (s := s) (N := 9) (tm := sx_tmS) (len := sp_lens) (byt := sp_byts) (A := fun q : Nat => s.heap.size ≤ q) (by decide +kernel)
    (fun i hi => hs _ ((by decide +kernel : ∀ i, i < 9 → Cond.exactly (sx_tmS i) "java/lang/String" ∈ _) i hi))
    (fun i hi => hs _ ((by decide +kernel : ∀ i, i < 9 → Cond.eq (.field (sx_tmS i) "java/lang/String" "coder" "B") (.int 0) ∈ _) i hi))
    (fun i hi => hs _ ((by decide +kernel : ∀ i, i < 9 → Cond.arrayOf (.field (sx_tmS i) "java/lang/String" "value" "[B") .byte ∈ _) i hi))
    (fun i hi => hs _ ((by decide +kernel : ∀ i, i < 9 → Cond.eq (.length (.field (sx_tmS i) "java/lang/String" "value" "[B")) (.int (Int32.ofNat (sp_lens.getD i 0))) ∈ _) i hi))
    (fun i hi j hj => hs _ ((by decide +kernel : ∀ i, i < 9 → ∀ j, j < sp_lens.getD i 0 → Cond.eq (.elem (.field (sx_tmS i) "java/lang/String" "value" "[B") (.int (Int32.ofNat j))) (.int ((sp_byts.getD i []).getD j 0)) ∈ _) i hi j hj))
    (fun i j hi hj hne => by
      rcases (by decide +kernel : ∀ i, i < 9 → ∀ j, j < 9 → i ≠ j → Cond.not (Cond.eq (sx_tmS i) (sx_tmS j)) ∈ flatC sx_nar ∨ Cond.not (Cond.eq (sx_tmS j) (sx_tmS i)) ∈ flatC sx_nar) i hi j hj hne with h | h
      · exact Or.inl (hs _ h)
      · exact Or.inr (hs _ h)) hA
  obtain ⟨eK, eV, hSE, hevE⟩ := vk_Sof (args := args) (s := s) (N := 2) (tm := sx_tmE) (len := [12, 12]) (byt := sx_byE) (A := fun q : Nat => s.heap.size ≤ q) (by decide +kernel)
    (fun i hi => hs _ ((by decide +kernel : ∀ i, i < 2 → Cond.exactly (sx_tmE i) "java/lang/String" ∈ _) i hi))
    (fun i hi => hs _ ((by decide +kernel : ∀ i, i < 2 → Cond.eq (.field (sx_tmE i) "java/lang/String" "coder" "B") (.int 0) ∈ _) i hi))
    (fun i hi => hs _ ((by decide +kernel : ∀ i, i < 2 → Cond.arrayOf (.field (sx_tmE i) "java/lang/String" "value" "[B") .byte ∈ _) i hi))
    (fun i hi => hs _ ((by decide +kernel : ∀ i, i < 2 → Cond.eq (.length (.field (sx_tmE i) "java/lang/String" "value" "[B")) (.int (Int32.ofNat ([12, 12].getD i 0))) ∈ _) i hi))
    (fun i hi j hj => hs _ ((by decide +kernel : ∀ i, i < 2 → ∀ j, j < [12, 12].getD i 0 → Cond.eq (.elem (.field (sx_tmE i) "java/lang/String" "value" "[B") (.int (Int32.ofNat j))) (.int ((sx_byE.getD i []).getD j 0)) ∈ _) i hi j hj))
    (fun i j hi hj hne => by
      rcases (by decide +kernel : ∀ i, i < 2 → ∀ j, j < 2 → i ≠ j → Cond.not (Cond.eq (sx_tmE i) (sx_tmE j)) ∈ flatC sx_nar ∨ Cond.not (Cond.eq (sx_tmE j) (sx_tmE i)) ∈ flatC sx_nar) i hi j hj hne with h | h
      · exact Or.inl (hs _ h)
      · exact Or.inr (hs _ h)) hA
  have hcs : (Term.static "java/lang/String" "COMPACT_STRINGS" "Z").eval args s none [] s = some (.int 1) := va_eqv (hs (Cond.eq (.static "java/lang/String" "COMPACT_STRINGS" "Z") (.int 1)) (by decide +kernel)) rfl
  have hfr : (Cond.isRef (.static "jdk/internal/util/Preconditions" "SIOOBE_FORMATTER" "Ljava/util/function/BiFunction;")).before args s = true := hs _ (by decide +kernel)
  obtain ⟨vf, hvf, hvr⟩ := Cond.isRef_spec hfr
  obtain ⟨f1, f2, hfv⟩ : ∃ f1 f2 : Nat, vf = (if f1 = 0 then .null else .ref f2) := by
    cases vf with
    | null => exact ⟨0, 0, rfl⟩
    | ref a => exact ⟨1, a, rfl⟩
    | _ => cases hvr
  have hoT : ∃ t : Nat, (Term.static "SwitchGame$LuckySets" "OF_SIZE" "[I").eval args s none [] s = some (.ref t) ∧ va_T .int t 6 (fun j => .int (sp_ofs j)) (fun q : Nat => s.heap.size ≤ q) s s.heap :=
    va_Tof (by decide) (hs _ (by decide +kernel)) (va_eqv (hs (Cond.eq (.length (.static "SwitchGame$LuckySets" "OF_SIZE" "[I")) (.int 6)) (by decide +kernel)) rfl)
      (fun j hj => va_eqv (hs _ ((by decide +kernel : ∀ j, j < 6 → Cond.eq (.elem (.static "SwitchGame$LuckySets" "OF_SIZE" "[I") (.int (Int32.ofNat j))) (.int (sp_ofs j)) ∈ _) j hj)) rfl) hA
  obtain ⟨t0, ht0, hT⟩ := hoT
  refine ⟨fun i => if i < 9 then adK i else if i = 9 then eK 0 else if i = 10 then eK 1 else if i = 50 then t0 else if i = 51 then f1 else if i = 52 then f2 else adV (i - 20), ?_, ?_⟩
  · refine ⟨⟨fun i hi => ?_, fun i j hi hj => ?_⟩, fun q hq => ?_, va_Zof (hts _ (List.mem_of_getElem? (i := 632) (by decide +kernel))) (hts _ (List.mem_of_getElem? (i := 186) (by decide +kernel))) hcs hA, va_Zof (hts _ (List.mem_of_getElem? (i := 648) (by decide +kernel))) (hts _ (List.mem_of_getElem? (i := 188) (by decide +kernel))) ?_ hA, va_Zof (hts _ (List.mem_of_getElem? (i := 1125) (by decide +kernel))) (hts _ (List.mem_of_getElem? (i := 179) (by decide +kernel))) ht0 hA, hT⟩
    · have h := hS.1 i hi
      have e1 : (if i < 9 then adK i else if i = 9 then eK 0 else if i = 10 then eK 1 else if i = 50 then t0 else if i = 51 then f1 else if i = 52 then f2 else adV (i - 20)) = adK i := if_pos hi
      have e2 : (if 20 + i < 9 then adK (20 + i) else if 20 + i = 9 then eK 0 else if 20 + i = 10 then eK 1 else if 20 + i = 50 then t0 else if 20 + i = 51 then f1 else if 20 + i = 52 then f2 else adV (20 + i - 20)) = adV i := by
        rw [if_neg (by omega), if_neg (by omega), if_neg (by omega), if_neg (by omega), if_neg (by omega), if_neg (by omega), Nat.add_sub_cancel_left]
      simp only [e1, e2]
      exact h
    · intro he
      dsimp only at he
      rw [if_pos hi, if_pos hj] at he
      exact hS.2 i j hi hj he
    · have hall : ∀ i, i < 9 → vk_R (sp_strs.getD i ("", 0, "", 0)).1 (sp_strs.getD i ("", 0, "", 0)).2.1 (sp_strs.getD i ("", 0, "", 0)).2.2.1 (adK i) s := by
        intro i hi
        match i, hi with
        | 0, h => exact vk_R.of (A := args) (hts _ (List.mem_of_getElem? (i := 618) (by decide +kernel))) (hev 0 h)
        | 1, h => exact vk_R.of (A := args) (hts _ (List.mem_of_getElem? (i := 671) (by decide +kernel))) (hev 1 h)
        | 2, h => exact vk_R.of (A := args) (hts _ (List.mem_of_getElem? (i := 672) (by decide +kernel))) (hev 2 h)
        | 3, h => exact vk_R.of (A := args) (hts _ (List.mem_of_getElem? (i := 673) (by decide +kernel))) (hev 3 h)
        | 4, h => exact vk_R.of (A := args) (hts _ (List.mem_of_getElem? (i := 674) (by decide +kernel))) (hev 4 h)
        | 5, h => exact vk_R.of (A := args) (hts _ (List.mem_of_getElem? (i := 675) (by decide +kernel))) (hev 5 h)
        | 6, h => exact vk_R.of (A := args) (hts _ (List.mem_of_getElem? (i := 676) (by decide +kernel))) (hev 6 h)
        | 7, h => exact vk_R.of (A := args) (hts _ (List.mem_of_getElem? (i := 677) (by decide +kernel))) (hev 7 h)
        | 8, h => exact vk_R.of (A := args) (hts _ (List.mem_of_getElem? (i := 1673) (by decide +kernel))) (hev 8 h)
        | i + 9, h => exact absurd h (by omega)
      simp only [sp_strs, List.mem_cons, List.not_mem_nil, or_false] at hq
      rcases hq with rfl | rfl | rfl | rfl | rfl | rfl | rfl | rfl | rfl
      · exact hall 0 (by decide)
      · exact hall 1 (by decide)
      · exact hall 2 (by decide)
      · exact hall 3 (by decide)
      · exact hall 4 (by decide)
      · exact hall 5 (by decide)
      · exact hall 6 (by decide)
      · exact hall 7 (by decide)
      · exact hall 8 (by decide)
    · rw [hvf, hfv]
      rfl
  · refine ⟨(hts (Cond.arrayOver (.array .long)) (List.mem_of_getElem? (i := 449) (by decide +kernel)) : (Cond.arrayOver (.array .long)).before args s = true), fun w hw hk => ?_, va_Nc.of (hs _ (by decide +kernel)), ⟨vk_R.of (A := args) (hts _ (List.mem_of_getElem? (i := 1429) (by decide +kernel))) (hevE 0 (by decide)), vk_R.of (A := args) (hts _ (List.mem_of_getElem? (i := 1468) (by decide +kernel))) (hevE 1 (by decide))⟩, vx_Zqof (hts _ (List.mem_of_getElem? (i := 1416) (by decide +kernel))) (hts _ (List.mem_of_getElem? (i := 191) (by decide +kernel))) (hs _ (by decide +kernel)) hA, vx_Zqof (hts _ (List.mem_of_getElem? (i := 1418) (by decide +kernel))) (hts _ (List.mem_of_getElem? (i := 191) (by decide +kernel))) (hs _ (by decide +kernel)) hA⟩
    have h := hts w hw
    cases w <;> simp [sx_kx] at hk <;> exact va_Nw.of rfl h
theorem sx_allq : ∀ q ∈ vwCl, (∀ w ∈ u_ws q.1 q.2.1 q.2.2, w ∈ sx_tb) ∧ Cond.instantiable q.1 q.2.2 ∈ sx_tb := List.forall_mem_cons.mpr ⟨⟨in_X0, it_X0⟩, List.forall_mem_cons.mpr ⟨⟨in_X1, it_X1⟩, List.forall_mem_cons.mpr ⟨⟨in_X2, it_X2⟩, List.forall_mem_cons.mpr ⟨⟨in_X3, it_X3⟩, List.forall_mem_cons.mpr ⟨⟨in_X4, it_X4⟩, List.forall_mem_cons.mpr ⟨⟨in_X5, it_X5⟩, List.forall_mem_cons.mpr ⟨⟨in_X6, it_X6⟩, List.forall_mem_cons.mpr ⟨⟨in_X7, it_X7⟩, List.forall_mem_cons.mpr ⟨⟨in_X9, it_X9⟩, List.forall_mem_cons.mpr ⟨⟨in_X10, it_X10⟩, List.forall_mem_cons.mpr ⟨⟨in_X11, it_X11⟩, List.forall_mem_cons.mpr ⟨⟨in_X12, it_X12⟩, fun _ h => absurd h List.not_mem_nil⟩⟩⟩⟩⟩⟩⟩⟩⟩⟩⟩⟩
theorem sx_D0 (hts : ∀ w ∈ sx_tb, w.before args s = true) : ∃ D : va_G, va_K D vwCl [] s := by
  have h : ∀ c : Nat, ∃ (cC : ClassId) (iS : Nat → Nat), ∀ q : vw_C, vwCl[c]? = some q → u_Kn s q.1 q.2.1 q.2.2 cC iS := by
    intro c
    cases hq : vwCl[c]? with
    | none => exact ⟨default, fun _ => 0, fun q h => nomatch h⟩
    | some q =>
      obtain ⟨h1, h2⟩ := sx_allq q (List.mem_of_getElem? hq)
      obtain ⟨cC, iS, h3⟩ := u_known hts h1 (hts _ h2)
      exact ⟨cC, iS, fun q' h => by cases h; exact h3⟩
  exact ⟨(fun c => (h c).choose, fun c => (h c).choose_spec.choose), fun c q hq => (h c).choose_spec.choose_spec q hq, fun k q hk => by simp at hk⟩
end
def R_law : String := "SwitchGameLaw"
def lw_P (b : Addr) (xs : List Int32) (args : Array Value) (s : State) : Prop := args = #[.ref b] ∧ s.IntsAt b xs ∧ xs.length ≤ 3072 ∧ (Jvm.Cond.and given_1 narrow_1).before args s = true
def lw_Q (_ : Array Value) (s : State) (o : Outcome) (t : State) : Prop := o = .returned (some (.int 1)) ∧ Framed s o t [] 601024 7293034
def lw_Z (below : List Frame) (a : Array Value) (s : State) : State → Prop := fun t => ∃ o, t.status = .running ∧ Ended t below o ∧ lw_Q a s o t
/-- the law's own end, with 1 on the stack, nothing written that was there before, its room as the claim has it -/
theorem lw_ret {p : Program} {l : Launch} {e : Env} {s : State} {m : MethodId} {below : List Frame} {meth : Method} {c : Code} {b : Nat} (hx : p.tables.exec = Jvm.exec) (hb : c.code = code) (hr : meth.sig.returnType = ret) (hlocks : meth.locks = false) {pc : Nat} {H : Heap} {ls : Array Slot} (hdg : decode code pc = .ok (.ireturn, 1)) : W p l e room_1 s m #[Value.ref b] below meth c H [] 601024 7293034 (lw_Z below #[Value.ref b] s) (F0 m pc ls [.int 1]) := by
  intro T hT X
  obtain ⟨fs, hret, hrun, hended, hW, hframe⟩ := X.leave (v := some (.int 1)) (hlocks := hlocks) (fun h => by rw [hr] at h; cases h)
  have hmeth' : T.vm.method? m = some meth := X.method'
  refine ⟨T.setFrames fs, ?_, .returned (some (.int 1)), hrun, hended, rfl, ⟨_, rfl⟩, hW, hframe⟩
  jvm_step X.here [X.here.top, hx, hb, hdg, hmeth', hr, ret, narrow_b1]
  (try refine ⟨rfl, ?_⟩); (try refine ⟨rfl, ?_⟩)
  first | (intro acts; rw [hret _ acts rfl rfl rfl]) | rw [hret _ _ rfl rfl rfl]
  exact Steps.refl _
/-- what holds at the law's entry: the machine, the code, the tables' words (any of lw_tbl by 'hts w (by decide +kernel)'), the script of L ints xs at the cell b, what the Statement gives of the start (any of its parts by flat_of_before) -/
def lw_At (p : Program) (s : State) (m : MethodId) (meth : Method) (c : Code) (b L : Nat) (xs : Nat → Int32) : Prop :=
  p.tables.exec = Jvm.exec ∧ c.code = code ∧ meth.sig.returnType = ret ∧ c.maxLocals = 7 ∧ s.vm.findClass R_law = some m.cls ∧ (∀ w ∈ lw_tbl, w.before #[Value.ref b] s = true) ∧ va_X b L xs s s.heap ∧ b < s.heap.size ∧ meth.locks = false ∧ (Jvm.Cond.and given_1 narrow_1).before #[Value.ref b] s = true

theorem whole_of {N : Nat} {I : sx_I} (ho : LO N I) (hI : I z_uG z_uN z_uD z_uR z_0 z_0 z_0 z_0 z_0 z_0 z_0 z_x z_x z_x z_x z_x z_x z_x z_x z_x z_x z_x z_x) {p : Program} {e : Env} {s : State} {m : MethodId} {below : List Frame} {meth : Method} {c : Code} (l : Launch) (hflags : l.flags = flags0) {b L : Nat} {xs : Nat → Int32} (hL : L ≤ 3072) (C0 : lw_At p s m meth c b L xs) (hnm : meth.name = "law") (htab : c.exceptionTable.toList = []) : W p l e room_1 s m #[Value.ref b] below meth c s.heap [] 0 0 (lw_Z below #[Value.ref b] s) (entryFrame m ([Value.ref b] : List Value).toArray 7) := by
  obtain ⟨hx, hb, hr, hml, hown, hts, hX, hbl, hlk, hgv⟩ := C0
  have hts' : ∀ w ∈ sx_tb, w.before #[Value.ref b] s = true := fun w hw => hts w (List.mem_filter.mp hw).1
  obtain ⟨D, hD⟩ := sx_D0 hts'
  obtain ⟨sa, hKF, hKE⟩ := sx_KK_0 hgv hts
  have hst : l.stackTraces = false := by rw [Launch.stackTraces, hflags]; decide +kernel
  have hall := t_law_all (D := D) (b := s.heap.size) (K := sx_KK s.heap.size b L xs sa) (sa := sa) (bb := b) (L := L) (xs := xs) ⟨sx_KK_s hbl, fun U H h => h.1⟩ (fun U H h => h.2.1) ho hI (fun U H h => h.2.2) hbl hL
  have hV : sx_V D s.heap.size [] s s.heap := ⟨rfl, fun _ => default, fun j x hj => by simp at hj, fun j ty a hj => by simp at hj⟩
  have hl := lv_entry [Value.ref b] (n := 7) (Nat.le_of_ble_eq_true rfl)
  rw [lg_entry_eq]
  have hw := hall p l e s m #[Value.ref b] below meth c s.heap [] _ ⟨hx, hb, hml, hown, hts', hr, hlk, hnm, hD, ⟨hKF, hKE, hX⟩, Nat.le_refl _, hst, htab⟩ hV va_S.rf hl
  intro T hT X
  obtain ⟨t, a1, o, b1, b2, b3⟩ := hw T hT X
  obtain ⟨⟨⟨v, σ, ho1, hq, -⟩, -⟩, Lc, hfe, hLc⟩ := b3
  refine ⟨t, a1, o, b1, b2, ?_, hfe.1, hfe.2.1, ?_⟩
  · rw [ho1, hq]
  · exact hfe.2.2.weaken (fun x hx hlt => absurd hlt (Nat.not_lt.mpr (hLc x hx))) (Nat.le_refl _) (Nat.le_refl _)
