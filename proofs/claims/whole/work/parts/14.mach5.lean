/-! ===== new cells, copies, calls with an exact answer ===== -/
section
variable {D : va_G} {b : Nat} {K : State → Heap → Prop} {Y : sx_Y} {R : Room} {Q : Option Value → sx_H → Prop} {Z : List Frame → Array Value → State → State → Prop} {pc : Nat} {lv : List (Nat × Value)} {st : List Value} {σ : sx_H} {k n : Nat}
/-- new cells behind the list -/
theorem sx_V.app {s : State} {H H1 : Heap} {cA cB : Nat → ClassId} {τ : sx_H} (hz : H.size = b + σ.length) (hP : sx_P D b cA σ H) (hT : sx_T s b cA σ) (hc : ∀ q, q < b + σ.length → cB q = cA q) (h1 : ∀ (j : Nat) (x : sx_E), τ[j]? = some x → sx_at D (b + σ.length + j) (cB (b + σ.length + j)) x H1) (hT1 : ∀ (k : Nat) (ty : FieldType) (a : vp_A), τ[k]? = some (.inl (ty, a)) → ¬ ty = .short → ArrOfT s (cB (b + σ.length + k)) ty ∧ va_RA s (cB (b + σ.length + k)) ty) (e2 : H1.size = H.size + τ.length) (e3 : ∀ q : Nat, q < H.size → H1[q]? = H[q]?) : sx_V D b (σ ++ τ) s H1 := by
  refine ⟨by rw [e2, hz, List.length_append]; omega, cB, fun j x hj => ?_, fun j ty a hj hs => ?_⟩
  · by_cases hl : j < σ.length
    · rw [List.getElem?_append_left hl] at hj
      rw [hc _ (by omega)]
      exact (hP j x hj).kept (e3 _ (hP j x hj).lt)
    · rw [List.getElem?_append_right (by omega)] at hj
      have := h1 (j - σ.length) x hj
      rw [show b + σ.length + (j - σ.length) = b + j by omega] at this
      exact this
  · by_cases hl : j < σ.length
    · rw [List.getElem?_append_left hl] at hj
      rw [hc _ (by omega)]
      exact hT j ty a hj hs
    · rw [List.getElem?_append_right (by omega)] at hj
      have := hT1 (j - σ.length) ty a hj hs
      rw [show b + σ.length + (j - σ.length) = b + j by omega] at this
      exact this
theorem at_new {ci N idx : Nat} {C : String} {T : u_T} {ty : Nat → FieldType} {fs : List Value} (hc : sx_CL ci C T N ty) (hcl : Cond.classLink Y.1 idx C ∈ sx_tb) (hinst : Cond.instantiable C N ∈ sx_tb) (hini : Cond.initialized C ∈ sx_tb) (hfs : ∀ j, j < N → defaultValue (ty j) = vp_V fs j) (hk : k + 1 ≤ R.cells) (hn : n + N ≤ R.slots) (hd : decode Y.2.1 pc = .ok (.new idx, 3))
    (kk : sx_AtZ D b K Y R Z (pc + 3) lv (.ref (b + σ.length) :: st) (σ ++ [.inr (ci, fs)]) (k + 1) (n + N)) : sx_AtZ D b K Y R Z pc lv st σ k n := by
  intro p l e s m args below meth c H locs ls C0 V S hl
  obtain ⟨hz, cA, hP, hT⟩ := id V
  have hts := C0.2.2.2.2.1
  have hKn := C0.2.2.2.2.2.2.2.2.1.1 ci _ hc.1
  refine W.newcK C0.1 C0.2.1 C0.2.2.2.1 (hts _ hcl) (hts _ hinst) (hts _ hini) rfl hd hk hn hKn.2.1 hz fun H1 kC hkC e1 z1 o1 => ?_
  refine kk p l e s m args below meth c H1 locs ls C0 ?_ ⟨Nat.le_trans S.1 (by omega), fun x h1 h2 => (o1 x (by have := S.1; omega)).trans (S.2.1 x h1 h2), S.2.2⟩ hl
  refine sx_V.app (cB := cA) hz hP hT (fun _ _ => rfl) ?_ (fun j ty a hj hs => ?_) (by rw [z1, hz]; rfl) (fun q hq => o1 q (by omega))
  · intro j x hx
    match j, hx with
    | 0, hx =>
      cases hx
      exact ⟨_, hc.1, (u_born ty hts hc.2.1 hKn hkC e1 hc.2.2.1).to hfs⟩
    | j + 1, hx => simp at hx
  · match j, hj with
    | 0, hj => cases hj
    | j + 1, hj => simp at hj
theorem at_newa {at_ : ArrayType} {ty : FieldType} {x : Int32} {N : Nat} {a0 : vp_A} (harr : Cond.arrayClass (newarray.typeOf at_) ∈ sx_tb) (hty : newarray.typeOf at_ = ty) (ha : ∀ cA : ClassId, vp_cell cA a0 = arrV cA N (fun _ => defaultValue ty)) (hx : ¬ x < 0) (hN : x.toNatClampNeg = N) (hb : N * componentBytes ty ≤ 536870912) (hk : k + 1 ≤ R.cells) (hn : n + N ≤ R.slots) (hd : decode Y.2.1 pc = .ok (.newarray at_, 2))
    (kk : sx_AtZ D b K Y R Z (pc + 2) lv (.ref (b + σ.length) :: st) (σ ++ [.inl (ty, a0)]) (k + 1) (n + N)) (hns : ¬ ty = .short := by decide) : sx_AtZ D b K Y R Z pc lv (.int x :: st) σ k n := by
  intro p l e s m args below meth c H locs ls C0 V S hl
  obtain ⟨hz, cA, hP, hT⟩ := id V
  subst hty
  refine va_newaK C0.1 C0.2.1 (C0.2.2.2.2.1 _ harr) rfl hd rfl hx hN hb hk hn hz fun H1 cB e1 z1 o1 hAr hNm => ?_
  refine kk p l e s m args below meth c H1 locs ls C0 ?_ ⟨Nat.le_trans S.1 (by omega), fun x h1 h2 => (o1 x (by have := S.1; omega)).trans (S.2.1 x h1 h2), S.2.2⟩ hl
  refine sx_V.app (cB := fun q => if q = b + σ.length then cB else cA q) hz hP hT (fun q hq => if_neg (by omega)) ?_ (fun j ty a hj hs => ?_) (by rw [z1, hz]; rfl) (fun q hq => o1 q (by omega))
  · intro j x hx
    match j, hx with
    | 0, hx =>
      cases hx
      refine Or.inr ⟨hns, ?_⟩
      show H1[b + σ.length + 0]? = some (vp_cell _ a0)
      rw [Nat.add_zero, if_pos rfl, ha]
      exact e1
    | j + 1, hx => simp at hx
  · match j, hj with
    | 0, hj =>
      cases hj
      rw [Nat.add_zero, if_pos rfl]
      exact ⟨hAr, by cases at_ <;> exact hNm⟩
    | j + 1, hj => simp at hj
theorem at_objInit {idx a : Nat} (hlk : Cond.methodLink Y.1 idx Lib.objectInit ∈ sx_tb) (hin : Cond.instanceMethod Lib.objectInit ∈ sx_tb) (hcd : Cond.code Lib.objectInit ⟨#[0xb1]⟩ 1 none ∈ sx_tb) (hf : 1 ≤ R.frames) (hlo : (st.map fun v => v.category).sum + 12 ≤ R.locals) (hd : decode Y.2.1 pc = .ok (.invokespecial idx, 3))
    (kk : sx_AtZ D b K Y R Z (pc + 3) lv st σ k n) : sx_AtZ D b K Y R Z pc lv (.ref a :: st) σ k n := by
  intro p l e s m args below meth c H locs ls C0 V S hl
  have hts := C0.2.2.2.2.1
  refine W.objInit C0.1 C0.2.1 C0.2.2.2.1 (hts _ hlk) (hts _ hin) (hts _ hcd) rfl (by rw [C0.2.2.1]; exact hl.1) rfl hd hf (by simpa [JFrame.monitorRoom] using hlo) ?_
  exact W.eq (g2 := F0 m (pc + 3) ls st) rfl (kk p l e s m args below meth c H locs ls C0 V S hl)
/-- System.arraycopy of int rows -/
theorem at_copyi {idx i j N0 N1 : Nat} {f g : Nat → Int32} {sp dp len : Int32} {σ1 : sx_H} (hlk : Cond.methodLink Y.1 idx arraycopyName ∈ sx_tb) (hnat : Cond.native arraycopyName ∈ sx_tb) (hstat : Cond.static arraycopyName ∈ sx_tb) (hini : Cond.initialized "java/lang/System" ∈ sx_tb) (hi : σ[i]? = some (.inl (.int, N0, .inl f))) (hj : σ[j]? = some (.inl (.int, N1, .inl g))) (h1 : ¬ sp < 0) (h2 : ¬ dp < 0) (h3 : ¬ len < 0) (h4 : sp.toNatClampNeg + len.toNatClampNeg ≤ N0) (h5 : dp.toNatClampNeg + len.toNatClampNeg ≤ N1) (hf : 1 ≤ R.frames) (hlo : (st.map fun v => v.category).sum + (nativeFrameWords "java/lang/System" "arraycopy" 5 + 11) ≤ R.locals) (hs : σ.set j (.inl (.int, N1, .inl (va_cpy f g sp.toNatClampNeg dp.toNatClampNeg len.toNatClampNeg))) = σ1) (hd : decode Y.2.1 pc = .ok (.invokestatic idx, 3))
    (kk : sx_AtZ D b K Y R Z (pc + 3) lv st σ1 k n) : sx_AtZ D b K Y R Z pc lv (.int len :: .int dp :: .ref (b + j) :: .int sp :: .ref (b + i) :: st) σ k n := by
  intro p l e s m args below meth c H locs ls C0 V S hl
  obtain ⟨hz, cA, hP, hT⟩ := id V
  have hts := C0.2.2.2.2.1
  have nn : ∀ z : Int32, ¬ z < 0 → z.toInt = (z.toNatClampNeg : Int) := by
    intro z hz
    have hz0 : (0 : Int) ≤ z.toInt := by
      have := Int32.not_lt.mp hz
      simpa using Int32.le_iff_toInt_le.mp this
    show z.toInt = ((z.toInt.toNat : Nat) : Int)
    omega
  intro T hT0 X
  have hc0 := hP.arr hi (by decide)
  have hc1 := hP.arr hj (by decide)
  obtain ⟨-, k0, hk0, cm0, hkk0⟩ := (hT i _ _ hi (by decide)).1 N0 (fun j => .int (f j))
  obtain ⟨-, k1, hk1, cm1, hkk1⟩ := (hT j _ _ hj (by decide)).1 N1 (fun j => .int (g j))
  obtain ⟨vm', X', step⟩ := X.arraycopy C0.1 C0.2.2.2.1 (hts _ hlk) (hts _ hnat) (hts _ hstat) (hts _ hini) (src := b + i) (dst := b + j) (cs := vp_cell (cA (b + i)) (N0, .inl f)) (cd := vp_cell (cA (b + j)) (N1, .inl g)) (srcPos := sp) (destPos := dp) (n := len) (by rw [hT0]; exact hc0) (by rw [hT0]; exact hc1)
    (fun _ h => by cases h) (fun _ h => by cases h) (fun h => by cases h) (fun h => by cases h) hk0 hk1 hkk0 hkk1 (by simp) h1 h2 h3
    (by rw [nn sp h1, nn len h3]; show ¬ _ > ((arrV _ N0 (fun j => .int (f j))).slots.size : Int); rw [arrV_size]; omega)
    (by rw [nn dp h2, nn len h3]; show ¬ _ > ((arrV _ N1 (fun j => .int (g j))).slots.size : Int); rw [arrV_size]; omega)
    (fun vm₁ _ q hq => by
      have e : (vp_cell (cA (b + i)) (N0, .inl f)).slots.getD (sp.toNatClampNeg + q) .null = .int (f (sp.toNatClampNeg + q)) := by
        show (arrV _ N0 (fun j => .int (f j))).slots.getD _ _ = _
        rw [Array.getD_eq_getD_getElem?, arrV_read _ _ (by omega)]
        rfl
      refine ⟨?_, ?_⟩
      · rw [e]; rfl
      · rw [e]; exact trivial)
    (g := F0 m pc ls (.int len :: .int dp :: .ref (b + j) :: .int sp :: .ref (b + i) :: st)) rfl (by rw [C0.2.2.1]; exact hl.1) (rest := st) rfl (by rw [C0.2.1]; exact hd) hf (by show 2 * 0 + _ + _ ≤ _; omega)
  have e1 : copied (vp_cell (cA (b + i)) (N0, .inl f)) (vp_cell (cA (b + j)) (N1, .inl g)) sp dp len = vp_cell (cA (b + j)) (N1, .inl (va_cpy f g sp.toNatClampNeg dp.toNatClampNeg len.toNatClampNeg)) := va_copied (fun z => .int z) _ _ f g h4
  rw [e1] at X' step
  have hlt : b + j < H.size := (Array.getElem?_eq_some_iff.mp hc1).1
  generalize hce : vp_cell (cA (b + j)) (N1, .inl (va_cpy f g sp.toNatClampNeg dp.toNatClampNeg len.toNatClampNeg)) = ce at X' step
  have hheap : ((T.setVm vm').setCell (b + j) ce).heap = H.setIfInBounds (b + j) ce := by rw [← hT0]; rfl
  have oq : ∀ q : Nat, q ≠ b + j → (H.setIfInBounds (b + j) ce)[q]? = H[q]? := fun q hq => by simp [Array.getElem?_setIfInBounds, Ne.symm hq]
  have hV : sx_V D b σ1 s (H.setIfInBounds (b + j) ce) := by
    rw [← hs]
    exact sx_V.arr hz hP hT hj (by decide) (by rw [hce]; simp [Array.getElem?_setIfInBounds, hlt]) (by simp) oq
  obtain ⟨t, a1, b1⟩ := kk p l e s m args below meth c _ _ ls C0 hV ⟨by simp; exact S.1, fun q g1 g2 => by
      rw [oq q (fun e => g2 (by rw [e]; exact Nat.le_add_right b j))]
      exact S.2.1 q g1 g2, fun q hq => by
      rcases List.mem_append.mp hq with h | h
      · exact S.2.2 q h
      · obtain ⟨z, -, hz⟩ := List.mem_map.mp h
        rw [← hz]
        exact Nat.le_add_right b j⟩ hl _ hheap X'
  exact ⟨t, step t a1, b1⟩
theorem at_callV {y : MethodName} {Y1 : sx_Y} {np idx i ci d : Nat} {v : Option Value} {σ1 : sx_H} {As : List Value} {fs : List Value} {T : u_T} {N : Nat} {ty : Nat → FieldType} {st0 : List Value} (hK : sx_Ks b K) (hm : sx_M y Y1 np ∧ sx_MI y ∧ Cond.selects y.cls y y ∈ sx_tb) (hml : sx_ML Y.1 idx y) (hc : sx_CL ci y.cls T N ty) (hi : σ[i]? = some (.inr (ci, fs)))
    (hM : sx_Runs D b K y Y1 (sx_rm d) (.ref (b + i) :: As) σ (sx_Ex v σ1)) (hn : As.length = np) (hst : st0 = As.reverse ++ .ref (b + i) :: st) (hW : (st.map fun v => v.category).sum ≤ 8) (hR : d + 1 ≤ R.frames ∧ 8 + (Y1.2.2.1 + 11) + 100 * d ≤ R.locals) (hf : k ≤ R.cells ∧ n ≤ R.slots) (hd : decode Y.2.1 pc = .ok (.invokevirtual idx, 3))
    (kk : sx_AtZ D b K Y R Z (pc + 3) lv (v.toList ++ st) σ1 k n) : sx_AtZ D b K Y R Z pc lv st0 σ k n :=
  at_callVQ hK hm.1 hm.2.1 hm.2.2 hml hc hi hM hn hst hW hR hf hd (fun v' σ' h => by obtain ⟨rfl, rfl⟩ := h; exact kk)
theorem at_callS {y : MethodName} {Y1 : sx_Y} {np idx d : Nat} {v : Option Value} {σ1 : sx_H} {As : List Value} {st0 : List Value} (hK : sx_Ks b K) (hm : sx_M y Y1 np ∧ Cond.static y ∈ sx_tb) (hml : sx_ML Y.1 idx y)
    (hM : sx_Runs D b K y Y1 (sx_rm d) As σ (sx_Ex v σ1)) (hn : As.length = np) (hst : st0 = As.reverse ++ st) (hW : (st.map fun v => v.category).sum ≤ 8) (hR : d + 1 ≤ R.frames ∧ 8 + (Y1.2.2.1 + 11) + 100 * d ≤ R.locals) (hf : k ≤ R.cells ∧ n ≤ R.slots) (hd : decode Y.2.1 pc = .ok (.invokestatic idx, 3))
    (kk : sx_AtZ D b K Y R Z (pc + 3) lv (v.toList ++ st) σ1 k n) : sx_AtZ D b K Y R Z pc lv st0 σ k n :=
  at_callSQ hK hm.1 hm.2 hml hM hn hst hW hR hf hd (fun v' σ' h => by obtain ⟨rfl, rfl⟩ := h; exact kk)
theorem at_callI {y : MethodName} {Y1 : sx_Y} {np idx a : Nat} {R1 : Room} {v : Option Value} {σ1 : sx_H} {As : List Value} {st0 : List Value} (hK : sx_Ks b K) (hm : sx_M y Y1 np ∧ sx_MI y) (hin : y.name = "<init>") (hrt : Y1.2.2.2.1 = none) (hml : sx_ML Y.1 idx y)
    (hM : sx_Runs D b K y Y1 R1 (.ref a :: As) σ (sx_Ex v σ1)) (hn : As.length = np) (hst : st0 = As.reverse ++ .ref a :: st) (hW : (st.map fun v => v.category).sum ≤ 8) (hR : R1.frames + 1 ≤ R.frames ∧ 8 + (Y1.2.2.1 + 11) + R1.locals ≤ R.locals) (hf : k + R1.cells ≤ R.cells ∧ n + R1.slots ≤ R.slots) (hd : decode Y.2.1 pc = .ok (.invokespecial idx, 3))
    (kk : sx_AtZ D b K Y R Z (pc + 3) lv (v.toList ++ st) σ1 (k + R1.cells) (n + R1.slots)) : sx_AtZ D b K Y R Z pc lv st0 σ k n :=
  at_callIQ hK hm.1 hin hrt hm.2 hml hM hn hst hW hR hf hd (fun v' σ' h => by obtain ⟨rfl, rfl⟩ := h; exact kk)
end
