/-! ===== new long[7][7], with its addresses ===== -/
def sx_row0 : sx_E := .inl (.long, 7, .inr (.inl (fun _ => 0)))
def sx_out0 (a : Nat) : sx_E := .inl (.array .long, 7, .inr (.inr (.inr (.inr (fun i => if i < 7 then some (a + i) else none)))))
theorem sx_row0_ok (c : ClassId) : Jvm.Free.Multi.innerC c 7 (defaultValue .long) = vp_cell c (7, .inr (.inl (fun _ => 0))) := by
  rw [vp_cell_l, ← arrV_new]; rfl
theorem at_mna7 {D : va_G} {b : Nat} {K : State → Heap → Prop} {Y : sx_Y} {R : Room} {Z : List Frame → Array Value → State → State → Prop} {pc : Nat} {lv : List (Nat × Value)} {st : List Value} {σ : sx_H} {k n idx : Nat} (hclk : Cond.classLink Y.1 idx "[[J" ∈ sx_tb) (hAO : ∀ (U : State) (H : Heap), K U H → va_AOA .long U) (harr : Cond.arrayClass .long ∈ sx_tb) (hk : k + (1 + 7) ≤ R.cells) (hn : n + (7 + 7 * 7) ≤ R.slots) (hd : decode Y.2.1 pc = .ok (.multianewarray idx 2, 4))
    (kk : sx_AtZ D b K Y R Z (pc + 4) lv (.ref (b + σ.length) :: st) (σ ++ (sx_out0 (b + σ.length + 1) :: List.replicate 7 sx_row0)) (k + 1 + 7) (n + 7 + 7 * 7)) : sx_AtZ D b K Y R Z pc lv (.int 7 :: .int 7 :: st) σ k n := by
  intro p l e s m args below meth c H locs ls C0 V S hl
  obtain ⟨hz, cA0, hP, hT0⟩ := id V
  intro T hT Xs
  have hts := C0.2.2.2.2.1
  have e7 : (7 : Int32).toNatClampNeg = 7 := by decide
  obtain ⟨vm₁, cA, cy, hW1, fA, fC, hO, hI, X', step⟩ := Xs.multianewarray2F C0.1 C0.2.2.2.1 (ty := .long) (hts _ hclk) (va_AOA.use (hAO _ _ C0.2.2.2.2.2.2.2.2.2.1)) (hts _ harr) (g := F0 m pc ls (.int 7 :: .int 7 :: st)) rfl (by rw [C0.2.1]; exact hd) rfl (by decide) (by decide) (by decide) (by decide) (by decide) (by decide) (by decide) (by rw [e7]; exact hk) (by rw [e7]; exact hn)
  rw [e7] at X' step
  generalize hF : Jvm.Free.Multi.fill (T.setVm vm₁) cA cy 7 7 (defaultValue .long) 7 = F at X' step
  have hTh : (T.setVm vm₁).heap = H := hT
  obtain ⟨f1, f2, -, -⟩ := Jvm.Free.Multi.fill_facts (T.setVm vm₁) cA cy 7 7 (defaultValue .long) 7
  rw [hF, hTh] at f1 f2
  have hold : ∀ x : Nat, x < H.size → F.heap[x]? = H[x]? := fun x hx => by
    have := Jvm.Free.Multi.fill_old (T.setVm vm₁) cA cy 7 7 (defaultValue .long) (a := x) (by rw [hTh]; exact hx) 7
    rw [hF, hTh] at this
    exact this
  have hrow : ∀ j : Nat, j < 7 → F.heap[H.size + 1 + j]? = some (vp_cell cy (7, .inr (.inl (fun _ => 0)))) := fun j hj => by
    have := Jvm.Free.Multi.fill_inner (T.setVm vm₁) cA cy 7 7 (defaultValue .long) 7 j hj
    rw [hF, hTh, sx_row0_ok] at this
    exact this
  rw [vr_outer cA 7 H.size 7] at f2
  have hAr : ArrOfT s cA (.array .long) := fun N9 z9 => by
    obtain ⟨-, k9, hk9, cm9, hkk9⟩ := (hO 0 0 0).1
    exact ⟨(fun q hq => by cases hq), k9, hk9, cm9, hkk9⟩
  have hAi : ArrOfT s cy .long := fun N9 z9 => by
    obtain ⟨-, k9, hk9, cm9, hkk9⟩ := (hI 0 .null).1
    exact ⟨(fun q hq => by cases hq), k9, hk9, cm9, hkk9⟩
  have hV : sx_V D b (σ ++ (sx_out0 (b + σ.length + 1) :: List.replicate 7 sx_row0)) s F.heap := by
    refine sx_V.app (cB := fun q => if q < b + σ.length then cA0 q else if q = b + σ.length then cA else cy) hz hP hT0 (fun q hq => if_pos hq) ?_ ?_ (by rw [f1]; rfl) hold
    · intro j x hx
      have hj : j < 8 := (List.getElem?_eq_some_iff.mp hx).1
      match j, hj, hx with
      | 0, _, hx =>
        cases hx
        refine Or.inr ⟨(by show ¬ _ = FieldType.short; exact fun h => by cases h), ?_⟩
        show F.heap[b + σ.length + 0]? = some (vp_cell _ _)
        rw [Nat.add_zero, if_neg (Nat.lt_irrefl _), if_pos rfl, vp_cell_q, ← hz, f2]
      | j + 1, hj, hx =>
        have e1 : (sx_out0 (b + σ.length + 1) :: List.replicate 7 sx_row0)[j + 1]? = some sx_row0 := by
          rw [List.getElem?_cons_succ, List.getElem?_replicate, if_pos (by omega)]
        rw [e1] at hx
        cases hx
        refine Or.inr ⟨(by show ¬ _ = FieldType.short; exact fun h => by cases h), ?_⟩
        show F.heap[b + σ.length + (j + 1)]? = some (vp_cell _ _)
        rw [if_neg (by omega), if_neg (by omega), show b + σ.length + (j + 1) = H.size + 1 + j by omega]
        exact hrow j (by omega)
    · intro j ty a hj hns
      have hj8 : j < 8 := (List.getElem?_eq_some_iff.mp hj).1
      match j, hj8, hj with
      | 0, _, hj =>
        cases hj
        show ArrOfT s _ _ ∧ va_RA s _ _
        rw [Nat.add_zero, if_neg (Nat.lt_irrefl _), if_pos rfl]
        exact ⟨hAr, fA⟩
      | j + 1, hj8, hj =>
        have e1 : (sx_out0 (b + σ.length + 1) :: List.replicate 7 sx_row0)[j + 1]? = some sx_row0 := by
          rw [List.getElem?_cons_succ, List.getElem?_replicate, if_pos (by omega)]
        rw [e1] at hj
        cases hj
        show ArrOfT s _ _ ∧ va_RA s _ _
        rw [if_neg (by omega), if_neg (by omega)]
        exact ⟨hAi, fC⟩
  obtain ⟨t, a1, b1⟩ := kk p l e s m args below meth c F.heap locs ls C0 hV ⟨by rw [f1]; have := S.1; omega, fun x h1 h2 => (hold x (Nat.lt_of_lt_of_le h1 S.1)).trans (S.2.1 x h1 h2), S.2.2⟩ hl F rfl X'
  refine ⟨t, step t ?_, b1⟩
  have e : T.heap.size = b + σ.length := by rw [hT]; exact hz
  rw [e]
  exact a1
