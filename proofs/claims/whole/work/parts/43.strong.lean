def sx_Eg (v : Option Value) (f : sx_H → sx_H) : Option Value → sx_H → Prop := fun v' σ' => v' = v ∧ ∃ G : sx_H, σ' = f G
section
variable {b : Nat} {uG uN uD uR uF uP uL uT uA uM uH xA xB xC xD xE xF xG xH xI xJ xK xL uO : sx_C} {G : sx_H} {f : Nat → Int32}
theorem hp_len : (sx_hp b uG uN uD uR uF uP uL uT uA uM uH xA xB xC xD xE xF xG xH xI xJ xK xL uO G).length = 56 + G.length := by
  unfold sx_hp
  rw [List.length_append]
  rfl
theorem hp_app (τ : sx_H) : (sx_hp b uG uN uD uR uF uP uL uT uA uM uH xA xB xC xD xE xF xG xH xI xJ xK xL uO G) ++ τ = sx_hp b uG uN uD uR uF uP uL uT uA uM uH xA xB xC xD xE xF xG xH xI xJ xK xL uO (G ++ τ) := by
  unfold sx_hp
  rw [List.append_assoc]
theorem hg_tmp : (sx_hp b uG uN uD uR uF uP uL uT uA uM uH xA xB xC xD xE xF xG xH xI xJ xK xL uO (G ++ [.inl (.int, 14, .inl f)]))[56 + G.length]? = some (.inl (.int, 14, .inl f)) := by
  rw [← hp_app, ← hp_len, List.getElem?_append_right (Nat.le_refl _), Nat.sub_self]
  rfl
theorem hs_tmp {j : Nat} {v : Int32} : (sx_hp b uG uN uD uR uF uP uL uT uA uM uH xA xB xC xD xE xF xG xH xI xJ xK xL uO (G ++ [.inl (.int, 14, .inl f)])).set (56 + G.length) (.inl (.int, 14, .inl (upd f j v))) = sx_hp b uG uN uD uR uF uP uL uT uA uM uH xA xB xC xD xE xF xG xH xI xJ xK xL uO (G ++ [.inl (.int, 14, .inl (upd f j v))]) := by
  rw [← hp_app, ← hp_len, List.set_append_right _ _ (Nat.le_refl _), Nat.sub_self, ← hp_app]
  rfl
end
theorem hp_tmp {D : va_G} {b : Nat} {K : State → Heap → Prop} {Y : sx_Y} {R : Room} {Z : List Frame → Array Value → State → State → Prop} {pc : Nat} {lv : List (Nat × Value)} {st : List Value} {k n : Nat} {uG uN uD uR uF uP uL uT uA uM uH xA xB xC xD xE xF xG xH xI xJ xK xL uO : sx_C} {G : sx_H} {f : Nat → Int32} (h : sx_AtZ D b K Y R Z pc lv (.ref (b + (56 + G.length)) :: st) (sx_hp b uG uN uD uR uF uP uL uT uA uM uH xA xB xC xD xE xF xG xH xI xJ xK xL uO (G ++ [.inl (.int, 14, .inl f)])) k n) : sx_AtZ D b K Y R Z pc lv (.ref (b + (sx_hp b uG uN uD uR uF uP uL uT uA uM uH xA xB xC xD xE xF xG xH xI xJ xK xL uO G).length) :: st) (sx_hp b uG uN uD uR uF uP uL uT uA uM uH xA xB xC xD xE xF xG xH xI xJ xK xL uO G ++ [.inl (.int, 14, .inl f)]) k n := by
  rw [hp_len, hp_app]
  exact h
def f_X12_strong_152 (N : Nat) (k66 : Int32 → Int32 → sx_C → sx_C → (Nat → Int32) → Option (Int32 × sx_C × sx_C)) (xA : sx_C) (v1 : Int32) (v4 : Int32) (xB : sx_C) (xD : sx_C) (tb : (Nat → Int32)) : Option (Int32 × sx_C × sx_C) := k66 v1 (v4 + 1) xB xD tb
def f_X12_strong_126 (N : Nat) (k66 : Int32 → Int32 → sx_C → sx_C → (Nat → Int32) → Option (Int32 × sx_C × sx_C)) (k81 : Int32 → Int32 → Int32 → Int32 → sx_C → sx_C → (Nat → Int32) → Option (Int32 × sx_C × sx_C)) (xA : sx_C) (v1 : Int32) (v4 : Int32) (v6 : Int32) (s0 : Int32) (s1 : Int32) (xB : sx_C) (xD : sx_C) (tb : (Nat → Int32)) : Option (Int32 × sx_C × sx_C) := k81 v1 v4 (s0 + s1) (v6 + 1) xB xD tb
def f_X12_strong_121 (N : Nat) (k66 : Int32 → Int32 → sx_C → sx_C → (Nat → Int32) → Option (Int32 × sx_C × sx_C)) (k81 : Int32 → Int32 → Int32 → Int32 → sx_C → sx_C → (Nat → Int32) → Option (Int32 × sx_C × sx_C)) (xA : sx_C) (v1 : Int32) (v4 : Int32) (v6 : Int32) (s0 : Int32) (xB : sx_C) (xD : sx_C) (tb : (Nat → Int32)) : Option (Int32 × sx_C × sx_C) := f_X12_strong_126 N k66 k81 xA v1 v4 v6 s0 1 xB xD tb
def f_X12_strong_125 (N : Nat) (k66 : Int32 → Int32 → sx_C → sx_C → (Nat → Int32) → Option (Int32 × sx_C × sx_C)) (k81 : Int32 → Int32 → Int32 → Int32 → sx_C → sx_C → (Nat → Int32) → Option (Int32 × sx_C × sx_C)) (xA : sx_C) (v1 : Int32) (v4 : Int32) (v6 : Int32) (s0 : Int32) (xB : sx_C) (xD : sx_C) (tb : (Nat → Int32)) : Option (Int32 × sx_C × sx_C) := f_X12_strong_126 N k66 k81 xA v1 v4 v6 s0 0 xB xD tb
def f_X12_strong_81 (N : Nat) (k66 : Int32 → Int32 → sx_C → sx_C → (Nat → Int32) → Option (Int32 × sx_C × sx_C)) (xA : sx_C) : Nat → Int32 → Int32 → Int32 → Int32 → sx_C → sx_C → (Nat → Int32) → Option (Int32 × sx_C × sx_C)
  | 0, _, _, _, _, _, _, _ => none
  | n0 + 1, v1, v4, v5, v6, xB, xD, tb => (if (gi xA 4) ≤ v6 then Option.bind (sp_rd tb 14 v4) (fun w7 => (if w7 = (-1) then f_X12_strong_152 N k66 xA v1 v4 xB xD tb else (if v5 = v1 then some (v4, xB, xD) else f_X12_strong_152 N k66 xA v1 v4 xB xD tb))) else Option.bind (sp_rd tb 14 v6) (fun w10 => Option.bind (sp_rd tb 14 v4) (fun w11 => (if w11 < w10 then f_X12_strong_121 N k66 (f_X12_strong_81 N k66 xA n0) xA v1 v4 v6 v5 xB xD tb else Option.bind (sp_rd tb 14 v6) (fun w13 => Option.bind (sp_rd tb 14 v4) (fun w14 => (if w13 = w14 then (if v4 ≤ v6 then f_X12_strong_125 N k66 (f_X12_strong_81 N k66 xA n0) xA v1 v4 v6 v5 xB xD tb else f_X12_strong_121 N k66 (f_X12_strong_81 N k66 xA n0) xA v1 v4 v6 v5 xB xD tb) else f_X12_strong_125 N k66 (f_X12_strong_81 N k66 xA n0) xA v1 v4 v6 v5 xB xD tb)))))))
def f_X12_strong_66 (N : Nat) (xA : sx_C) : Nat → Int32 → Int32 → sx_C → sx_C → (Nat → Int32) → Option (Int32 × sx_C × sx_C)
  | 0, _, _, _, _, _ => none
  | n0 + 1, v1, v4, xB, xD, tb => (if (gi xA 4) ≤ v4 then some ((-2), xB, xD) else f_X12_strong_81 N (f_X12_strong_66 N xA n0) xA N v1 v4 0 0 xB xD tb)
def f_X12_strong_56 (N : Nat) (k24 : Int32 → Int32 → Int32 → sx_C → sx_C → (Nat → Int32) → Option (Int32 × sx_C × sx_C)) (xA : sx_C) (v1 : Int32) (v3 : Int32) (v4 : Int32) (s1 : Int32) (s2 : Int32) (xB : sx_C) (xD : sx_C) (tb : (Nat → Int32)) : Option (Int32 × sx_C × sx_C) := (if sp_in s1 14 = true then k24 v1 v3 (v4 + 1) xB xD (upd tb (Int32.toNatClampNeg s1) s2) else none)
def f_X12_strong_24 (N : Nat) (xA : sx_C) : Nat → Int32 → Int32 → Int32 → sx_C → sx_C → (Nat → Int32) → Option (Int32 × sx_C × sx_C)
  | 0, _, _, _, _, _, _ => none
  | n0 + 1, v1, v3, v4, xB, xD, tb => (if (gi xA 4) ≤ v4 then f_X12_strong_66 N xA N v1 0 xB xD tb else (if ((sp_shr v3 v4) &&& 1) = 1 then Option.bind (f_X12_pivotsOf N xA v4 xD) (fun q3 => f_X12_strong_56 N (f_X12_strong_24 N xA n0) xA v1 v3 v4 v4 (q3.1) xB (q3.2) tb) else f_X12_strong_56 N (f_X12_strong_24 N xA n0) xA v1 v3 v4 v4 (-1) xB xD tb))
def f_X12_strong (N : Nat) (xA : sx_C) (v1 : Int32) (xB : sx_C) (xD : sx_C) : Option (Int32 × sx_C × sx_C) := (if 0 ≤ v1 then Option.bind (f_X12_openNow xA) (fun q18 => f_X12_strong_24 N xA N v1 q18 0 (si xB 0 0) xD (fun _ => 0)) else some ((-1), (si xB 0 0), xD))
set_option maxRecDepth 100000 in
theorem t_X12_strong_152 {D : va_G} {b : Nat} {K : State → Heap → Prop} {sa : Nat → Nat} (hK : sx_Kk b K sa) (N : Nat) {k66 : Int32 → Int32 → sx_C → sx_C → (Nat → Int32) → Option (Int32 × sx_C × sx_C)} {uG uN uD uR uF uP uL uT uA uM uH xA xC xE xF xG xH xI xJ xK xL uO : sx_C} {G : sx_H} (res : Int32 × sx_C × sx_C) (hk66 : ∀ (v1 : Int32) (v4 : Int32) (xB : sx_C) (xD : sx_C) (tb : (Nat → Int32)), k66 v1 v4 xB xD tb = some res → sx_At D b K YX12_strong (⟨4, 1, 14, 100 * 4⟩ : Room) (sx_Eg (some (.int res.1)) (fun G => (sx_hp b uG uN uD uR uF uP uL uT uA uM uH xA (res.2.1) xC (res.2.2) xE xF xG xH xI xJ xK xL uO G))) 66 [(0, .ref (b + 38)), (1, .int v1), (2, .ref (b + (56 + G.length))), (4, .int v4)] [] (sx_hp b uG uN uD uR uF uP uL uT uA uM uH xA xB xC xD xE xF xG xH xI xJ xK xL uO (G ++ [.inl (.int, 14, .inl tb)])) 1 14) : ∀ (v1 : Int32) (v4 : Int32) (xB : sx_C) (xD : sx_C) (tb : (Nat → Int32)), f_X12_strong_152 N k66 xA v1 v4 xB xD tb = some res → sx_At D b K YX12_strong (⟨4, 1, 14, 100 * 4⟩ : Room) (sx_Eg (some (.int res.1)) (fun G => (sx_hp b uG uN uD uR uF uP uL uT uA uM uH xA (res.2.1) xC (res.2.2) xE xF xG xH xI xJ xK xL uO G))) 152 [(0, .ref (b + 38)), (1, .int v1), (2, .ref (b + (56 + G.length))), (4, .int v4)] [] (sx_hp b uG uN uD uR uF uP uL uT uA uM uH xA xB xC xD xE xF xG xH xI xJ xK xL uO (G ++ [.inl (.int, 14, .inl tb)])) 1 14 := by
  intro v1 v4 xB xD tb h
  rw [f_X12_strong_152] at h
  refine at_iinc 3 1 [(0, .ref (b + 38)), (1, .int v1), (2, .ref (b + (56 + G.length))), (4, .int (v4 + 1))] dX12_strong_152 rfl ic_1 (Nat.le_of_ble_eq_true rfl) rfl ?_
  refine at_goto 66 dX12_strong_155 (by decide) ?_
  exact hk66 _ _ _ _ _ h
set_option maxRecDepth 100000 in
theorem t_X12_strong_126 {D : va_G} {b : Nat} {K : State → Heap → Prop} {sa : Nat → Nat} (hK : sx_Kk b K sa) (N : Nat) {k66 : Int32 → Int32 → sx_C → sx_C → (Nat → Int32) → Option (Int32 × sx_C × sx_C)} {k81 : Int32 → Int32 → Int32 → Int32 → sx_C → sx_C → (Nat → Int32) → Option (Int32 × sx_C × sx_C)} {uG uN uD uR uF uP uL uT uA uM uH xA xC xE xF xG xH xI xJ xK xL uO : sx_C} {G : sx_H} (res : Int32 × sx_C × sx_C) (hk66 : ∀ (v1 : Int32) (v4 : Int32) (xB : sx_C) (xD : sx_C) (tb : (Nat → Int32)), k66 v1 v4 xB xD tb = some res → sx_At D b K YX12_strong (⟨4, 1, 14, 100 * 4⟩ : Room) (sx_Eg (some (.int res.1)) (fun G => (sx_hp b uG uN uD uR uF uP uL uT uA uM uH xA (res.2.1) xC (res.2.2) xE xF xG xH xI xJ xK xL uO G))) 66 [(0, .ref (b + 38)), (1, .int v1), (2, .ref (b + (56 + G.length))), (4, .int v4)] [] (sx_hp b uG uN uD uR uF uP uL uT uA uM uH xA xB xC xD xE xF xG xH xI xJ xK xL uO (G ++ [.inl (.int, 14, .inl tb)])) 1 14) (hk81 : ∀ (v1 : Int32) (v4 : Int32) (v5 : Int32) (v6 : Int32) (xB : sx_C) (xD : sx_C) (tb : (Nat → Int32)), k81 v1 v4 v5 v6 xB xD tb = some res → sx_At D b K YX12_strong (⟨4, 1, 14, 100 * 4⟩ : Room) (sx_Eg (some (.int res.1)) (fun G => (sx_hp b uG uN uD uR uF uP uL uT uA uM uH xA (res.2.1) xC (res.2.2) xE xF xG xH xI xJ xK xL uO G))) 81 [(0, .ref (b + 38)), (1, .int v1), (2, .ref (b + (56 + G.length))), (4, .int v4), (5, .int v5), (6, .int v6)] [] (sx_hp b uG uN uD uR uF uP uL uT uA uM uH xA xB xC xD xE xF xG xH xI xJ xK xL uO (G ++ [.inl (.int, 14, .inl tb)])) 1 14) : ∀ (v1 : Int32) (v4 : Int32) (v6 : Int32) (s0 : Int32) (s1 : Int32) (xB : sx_C) (xD : sx_C) (tb : (Nat → Int32)), f_X12_strong_126 N k66 k81 xA v1 v4 v6 s0 s1 xB xD tb = some res → sx_At D b K YX12_strong (⟨4, 1, 14, 100 * 4⟩ : Room) (sx_Eg (some (.int res.1)) (fun G => (sx_hp b uG uN uD uR uF uP uL uT uA uM uH xA (res.2.1) xC (res.2.2) xE xF xG xH xI xJ xK xL uO G))) 126 [(0, .ref (b + 38)), (1, .int v1), (2, .ref (b + (56 + G.length))), (4, .int v4), (6, .int v6)] [.int s1, .int s0] (sx_hp b uG uN uD uR uF uP uL uT uA uM uH xA xB xC xD xE xF xG xH xI xJ xK xL uO (G ++ [.inl (.int, 14, .inl tb)])) 1 14 := by
  intro v1 v4 v6 s0 s1 xB xD tb h
  rw [f_X12_strong_126] at h
  refine at_iadd dX12_strong_126 ?_
  refine at_istore [(0, .ref (b + 38)), (1, .int v1), (2, .ref (b + (56 + G.length))), (4, .int v4), (5, .int (s0 + s1)), (6, .int v6)] dX12_strong_127 (Nat.le_of_ble_eq_true rfl) rfl ?_
  refine at_iinc 5 1 [(0, .ref (b + 38)), (1, .int v1), (2, .ref (b + (56 + G.length))), (4, .int v4), (5, .int (s0 + s1)), (6, .int (v6 + 1))] dX12_strong_129 rfl ic_1 (Nat.le_of_ble_eq_true rfl) rfl ?_
  refine at_goto 81 dX12_strong_132 (by decide) ?_
  exact hk81 _ _ _ _ _ _ _ h
set_option maxRecDepth 100000 in
theorem t_X12_strong_121 {D : va_G} {b : Nat} {K : State → Heap → Prop} {sa : Nat → Nat} (hK : sx_Kk b K sa) (N : Nat) {k66 : Int32 → Int32 → sx_C → sx_C → (Nat → Int32) → Option (Int32 × sx_C × sx_C)} {k81 : Int32 → Int32 → Int32 → Int32 → sx_C → sx_C → (Nat → Int32) → Option (Int32 × sx_C × sx_C)} {uG uN uD uR uF uP uL uT uA uM uH xA xC xE xF xG xH xI xJ xK xL uO : sx_C} {G : sx_H} (res : Int32 × sx_C × sx_C) (hk66 : ∀ (v1 : Int32) (v4 : Int32) (xB : sx_C) (xD : sx_C) (tb : (Nat → Int32)), k66 v1 v4 xB xD tb = some res → sx_At D b K YX12_strong (⟨4, 1, 14, 100 * 4⟩ : Room) (sx_Eg (some (.int res.1)) (fun G => (sx_hp b uG uN uD uR uF uP uL uT uA uM uH xA (res.2.1) xC (res.2.2) xE xF xG xH xI xJ xK xL uO G))) 66 [(0, .ref (b + 38)), (1, .int v1), (2, .ref (b + (56 + G.length))), (4, .int v4)] [] (sx_hp b uG uN uD uR uF uP uL uT uA uM uH xA xB xC xD xE xF xG xH xI xJ xK xL uO (G ++ [.inl (.int, 14, .inl tb)])) 1 14) (hk81 : ∀ (v1 : Int32) (v4 : Int32) (v5 : Int32) (v6 : Int32) (xB : sx_C) (xD : sx_C) (tb : (Nat → Int32)), k81 v1 v4 v5 v6 xB xD tb = some res → sx_At D b K YX12_strong (⟨4, 1, 14, 100 * 4⟩ : Room) (sx_Eg (some (.int res.1)) (fun G => (sx_hp b uG uN uD uR uF uP uL uT uA uM uH xA (res.2.1) xC (res.2.2) xE xF xG xH xI xJ xK xL uO G))) 81 [(0, .ref (b + 38)), (1, .int v1), (2, .ref (b + (56 + G.length))), (4, .int v4), (5, .int v5), (6, .int v6)] [] (sx_hp b uG uN uD uR uF uP uL uT uA uM uH xA xB xC xD xE xF xG xH xI xJ xK xL uO (G ++ [.inl (.int, 14, .inl tb)])) 1 14) : ∀ (v1 : Int32) (v4 : Int32) (v6 : Int32) (s0 : Int32) (xB : sx_C) (xD : sx_C) (tb : (Nat → Int32)), f_X12_strong_121 N k66 k81 xA v1 v4 v6 s0 xB xD tb = some res → sx_At D b K YX12_strong (⟨4, 1, 14, 100 * 4⟩ : Room) (sx_Eg (some (.int res.1)) (fun G => (sx_hp b uG uN uD uR uF uP uL uT uA uM uH xA (res.2.1) xC (res.2.2) xE xF xG xH xI xJ xK xL uO G))) 121 [(0, .ref (b + 38)), (1, .int v1), (2, .ref (b + (56 + G.length))), (4, .int v4), (6, .int v6)] [.int s0] (sx_hp b uG uN uD uR uF uP uL uT uA uM uH xA xB xC xD xE xF xG xH xI xJ xK xL uO (G ++ [.inl (.int, 14, .inl tb)])) 1 14 := by
  intro v1 v4 v6 s0 xB xD tb h
  rw [f_X12_strong_121] at h
  refine at_iconst 1 dX12_strong_121 ic_1 ?_
  refine at_goto 126 dX12_strong_122 (by decide) ?_
  exact t_X12_strong_126 hK N _ hk66 hk81 _ _ _ _ _ _ _ _ h
set_option maxRecDepth 100000 in
theorem t_X12_strong_125 {D : va_G} {b : Nat} {K : State → Heap → Prop} {sa : Nat → Nat} (hK : sx_Kk b K sa) (N : Nat) {k66 : Int32 → Int32 → sx_C → sx_C → (Nat → Int32) → Option (Int32 × sx_C × sx_C)} {k81 : Int32 → Int32 → Int32 → Int32 → sx_C → sx_C → (Nat → Int32) → Option (Int32 × sx_C × sx_C)} {uG uN uD uR uF uP uL uT uA uM uH xA xC xE xF xG xH xI xJ xK xL uO : sx_C} {G : sx_H} (res : Int32 × sx_C × sx_C) (hk66 : ∀ (v1 : Int32) (v4 : Int32) (xB : sx_C) (xD : sx_C) (tb : (Nat → Int32)), k66 v1 v4 xB xD tb = some res → sx_At D b K YX12_strong (⟨4, 1, 14, 100 * 4⟩ : Room) (sx_Eg (some (.int res.1)) (fun G => (sx_hp b uG uN uD uR uF uP uL uT uA uM uH xA (res.2.1) xC (res.2.2) xE xF xG xH xI xJ xK xL uO G))) 66 [(0, .ref (b + 38)), (1, .int v1), (2, .ref (b + (56 + G.length))), (4, .int v4)] [] (sx_hp b uG uN uD uR uF uP uL uT uA uM uH xA xB xC xD xE xF xG xH xI xJ xK xL uO (G ++ [.inl (.int, 14, .inl tb)])) 1 14) (hk81 : ∀ (v1 : Int32) (v4 : Int32) (v5 : Int32) (v6 : Int32) (xB : sx_C) (xD : sx_C) (tb : (Nat → Int32)), k81 v1 v4 v5 v6 xB xD tb = some res → sx_At D b K YX12_strong (⟨4, 1, 14, 100 * 4⟩ : Room) (sx_Eg (some (.int res.1)) (fun G => (sx_hp b uG uN uD uR uF uP uL uT uA uM uH xA (res.2.1) xC (res.2.2) xE xF xG xH xI xJ xK xL uO G))) 81 [(0, .ref (b + 38)), (1, .int v1), (2, .ref (b + (56 + G.length))), (4, .int v4), (5, .int v5), (6, .int v6)] [] (sx_hp b uG uN uD uR uF uP uL uT uA uM uH xA xB xC xD xE xF xG xH xI xJ xK xL uO (G ++ [.inl (.int, 14, .inl tb)])) 1 14) : ∀ (v1 : Int32) (v4 : Int32) (v6 : Int32) (s0 : Int32) (xB : sx_C) (xD : sx_C) (tb : (Nat → Int32)), f_X12_strong_125 N k66 k81 xA v1 v4 v6 s0 xB xD tb = some res → sx_At D b K YX12_strong (⟨4, 1, 14, 100 * 4⟩ : Room) (sx_Eg (some (.int res.1)) (fun G => (sx_hp b uG uN uD uR uF uP uL uT uA uM uH xA (res.2.1) xC (res.2.2) xE xF xG xH xI xJ xK xL uO G))) 125 [(0, .ref (b + 38)), (1, .int v1), (2, .ref (b + (56 + G.length))), (4, .int v4), (6, .int v6)] [.int s0] (sx_hp b uG uN uD uR uF uP uL uT uA uM uH xA xB xC xD xE xF xG xH xI xJ xK xL uO (G ++ [.inl (.int, 14, .inl tb)])) 1 14 := by
  intro v1 v4 v6 s0 xB xD tb h
  rw [f_X12_strong_125] at h
  refine at_iconst 0 dX12_strong_125 ic_0 ?_
  exact t_X12_strong_126 hK N _ hk66 hk81 _ _ _ _ _ _ _ _ h
set_option maxRecDepth 100000 in
theorem t_X12_strong_81 {D : va_G} {b : Nat} {K : State → Heap → Prop} {sa : Nat → Nat} (hK : sx_Kk b K sa) (N : Nat) {k66 : Int32 → Int32 → sx_C → sx_C → (Nat → Int32) → Option (Int32 × sx_C × sx_C)} {uG uN uD uR uF uP uL uT uA uM uH xA xC xE xF xG xH xI xJ xK xL uO : sx_C} {G : sx_H} (res : Int32 × sx_C × sx_C) (hk66 : ∀ (v1 : Int32) (v4 : Int32) (xB : sx_C) (xD : sx_C) (tb : (Nat → Int32)), k66 v1 v4 xB xD tb = some res → sx_At D b K YX12_strong (⟨4, 1, 14, 100 * 4⟩ : Room) (sx_Eg (some (.int res.1)) (fun G => (sx_hp b uG uN uD uR uF uP uL uT uA uM uH xA (res.2.1) xC (res.2.2) xE xF xG xH xI xJ xK xL uO G))) 66 [(0, .ref (b + 38)), (1, .int v1), (2, .ref (b + (56 + G.length))), (4, .int v4)] [] (sx_hp b uG uN uD uR uF uP uL uT uA uM uH xA xB xC xD xE xF xG xH xI xJ xK xL uO (G ++ [.inl (.int, 14, .inl tb)])) 1 14) : ∀ (n0 : Nat) (v1 : Int32) (v4 : Int32) (v5 : Int32) (v6 : Int32) (xB : sx_C) (xD : sx_C) (tb : (Nat → Int32)), f_X12_strong_81 N k66 xA n0 v1 v4 v5 v6 xB xD tb = some res → sx_At D b K YX12_strong (⟨4, 1, 14, 100 * 4⟩ : Room) (sx_Eg (some (.int res.1)) (fun G => (sx_hp b uG uN uD uR uF uP uL uT uA uM uH xA (res.2.1) xC (res.2.2) xE xF xG xH xI xJ xK xL uO G))) 81 [(0, .ref (b + 38)), (1, .int v1), (2, .ref (b + (56 + G.length))), (4, .int v4), (5, .int v5), (6, .int v6)] [] (sx_hp b uG uN uD uR uF uP uL uT uA uM uH xA xB xC xD xE xF xG xH xI xJ xK xL uO (G ++ [.inl (.int, 14, .inl tb)])) 1 14 := by
  intro n0
  induction n0 with
  | zero => intro _ _ _ _ _ _ _ h; cases h
  | succ n0 ih =>
    intro v1 v4 v5 v6 xB xD tb h
    rw [f_X12_strong_81] at h
    refine at_iload 5 dX12_strong_81 rfl ?_
    refine at_aload_n 0 dX12_strong_83 rfl ?_
    refine at_getf cl_X12 (by decide) fl_X12_198 hg_38 rfl dX12_strong_84 ?_
    refine at_icmp_ge 135 dX12_strong_87 (by decide) (fun c6 => ?_) (fun c6 => ?_)
    · rw [if_pos c6] at h
      refine at_aload_n 2 dX12_strong_135 rfl ?_
      refine at_iload 3 dX12_strong_136 rfl ?_
      obtain ⟨w7, hw7, h⟩ := sp_bind h
      refine at_iald hg_tmp hw7 dX12_strong_138 ?_
      refine at_iconst (-1) dX12_strong_139 ic_m1 ?_
      refine at_icmp_eq 152 dX12_strong_140 (by decide) (fun c8 => ?_) (fun c8 => ?_)
      · rw [if_pos c8] at h
        refine at_sub [0, 1, 2, 3] [(0, .ref (b + 38)), (1, .int v1), (2, .ref (b + (56 + G.length))), (4, .int v4)] rfl ?_
        exact t_X12_strong_152 hK N _ hk66 _ _ _ _ _ h
      · rw [if_neg c8] at h
        refine at_iload 4 dX12_strong_143 rfl ?_
        refine at_iload_n 1 dX12_strong_145 rfl ?_
        refine at_icmp_ne 152 dX12_strong_146 (by decide) (fun c9 => ?_) (fun c9 => ?_)
        · rw [if_neg c9] at h
          refine at_sub [0, 1, 2, 3] [(0, .ref (b + 38)), (1, .int v1), (2, .ref (b + (56 + G.length))), (4, .int v4)] rfl ?_
          exact t_X12_strong_152 hK N _ hk66 _ _ _ _ _ h
        · rw [if_pos c9] at h
          refine at_iload 3 dX12_strong_149 rfl ?_
          cases h; exact at_iret rfl (Nat.le_of_ble_eq_true rfl) (Nat.le_of_ble_eq_true rfl) ⟨rfl, _, rfl⟩ dX12_strong_151
    · rw [if_neg c6] at h
      refine at_iload 4 dX12_strong_90 rfl ?_
      refine at_aload_n 2 dX12_strong_92 rfl ?_
      refine at_iload 5 dX12_strong_93 rfl ?_
      obtain ⟨w10, hw10, h⟩ := sp_bind h
      refine at_iald hg_tmp hw10 dX12_strong_95 ?_
      refine at_aload_n 2 dX12_strong_96 rfl ?_
      refine at_iload 3 dX12_strong_97 rfl ?_
      obtain ⟨w11, hw11, h⟩ := sp_bind h
      refine at_iald hg_tmp hw11 dX12_strong_99 ?_
      refine at_icmp_gt 121 dX12_strong_100 (by decide) (fun c12 => ?_) (fun c12 => ?_)
      · rw [if_pos c12] at h
        refine at_sub [0, 1, 2, 3, 5] [(0, .ref (b + 38)), (1, .int v1), (2, .ref (b + (56 + G.length))), (4, .int v4), (6, .int v6)] rfl ?_
        exact t_X12_strong_121 hK N _ hk66 ih _ _ _ _ _ _ _ h
      · rw [if_neg c12] at h
        refine at_aload_n 2 dX12_strong_103 rfl ?_
        refine at_iload 5 dX12_strong_104 rfl ?_
        obtain ⟨w13, hw13, h⟩ := sp_bind h
        refine at_iald hg_tmp hw13 dX12_strong_106 ?_
        refine at_aload_n 2 dX12_strong_107 rfl ?_
        refine at_iload 3 dX12_strong_108 rfl ?_
        obtain ⟨w14, hw14, h⟩ := sp_bind h
        refine at_iald hg_tmp hw14 dX12_strong_110 ?_
        refine at_icmp_ne 125 dX12_strong_111 (by decide) (fun c15 => ?_) (fun c15 => ?_)
        · rw [if_neg c15] at h
          refine at_sub [0, 1, 2, 3, 5] [(0, .ref (b + 38)), (1, .int v1), (2, .ref (b + (56 + G.length))), (4, .int v4), (6, .int v6)] rfl ?_
          exact t_X12_strong_125 hK N _ hk66 ih _ _ _ _ _ _ _ h
        · rw [if_pos c15] at h
          refine at_iload 5 dX12_strong_114 rfl ?_
          refine at_iload 3 dX12_strong_116 rfl ?_
          refine at_icmp_ge 125 dX12_strong_118 (by decide) (fun c16 => ?_) (fun c16 => ?_)
          · rw [if_pos c16] at h
            refine at_sub [0, 1, 2, 3, 5] [(0, .ref (b + 38)), (1, .int v1), (2, .ref (b + (56 + G.length))), (4, .int v4), (6, .int v6)] rfl ?_
            exact t_X12_strong_125 hK N _ hk66 ih _ _ _ _ _ _ _ h
          · rw [if_neg c16] at h
            refine at_sub [0, 1, 2, 3, 5] [(0, .ref (b + 38)), (1, .int v1), (2, .ref (b + (56 + G.length))), (4, .int v4), (6, .int v6)] rfl ?_
            exact t_X12_strong_121 hK N _ hk66 ih _ _ _ _ _ _ _ h
set_option maxRecDepth 100000 in
theorem t_X12_strong_66 {D : va_G} {b : Nat} {K : State → Heap → Prop} {sa : Nat → Nat} (hK : sx_Kk b K sa) (N : Nat) {uG uN uD uR uF uP uL uT uA uM uH xA xC xE xF xG xH xI xJ xK xL uO : sx_C} {G : sx_H} (res : Int32 × sx_C × sx_C) : ∀ (n0 : Nat) (v1 : Int32) (v4 : Int32) (xB : sx_C) (xD : sx_C) (tb : (Nat → Int32)), f_X12_strong_66 N xA n0 v1 v4 xB xD tb = some res → sx_At D b K YX12_strong (⟨4, 1, 14, 100 * 4⟩ : Room) (sx_Eg (some (.int res.1)) (fun G => (sx_hp b uG uN uD uR uF uP uL uT uA uM uH xA (res.2.1) xC (res.2.2) xE xF xG xH xI xJ xK xL uO G))) 66 [(0, .ref (b + 38)), (1, .int v1), (2, .ref (b + (56 + G.length))), (4, .int v4)] [] (sx_hp b uG uN uD uR uF uP uL uT uA uM uH xA xB xC xD xE xF xG xH xI xJ xK xL uO (G ++ [.inl (.int, 14, .inl tb)])) 1 14 := by
  intro n0
  induction n0 with
  | zero => intro _ _ _ _ _ h; cases h
  | succ n0 ih =>
    intro v1 v4 xB xD tb h
    rw [f_X12_strong_66] at h
    refine at_iload 3 dX12_strong_66 rfl ?_
    refine at_aload_n 0 dX12_strong_68 rfl ?_
    refine at_getf cl_X12 (by decide) fl_X12_198 hg_38 rfl dX12_strong_69 ?_
    refine at_icmp_ge 158 dX12_strong_72 (by decide) (fun c5 => ?_) (fun c5 => ?_)
    · rw [if_pos c5] at h
      refine at_bipush (-2) dX12_strong_158 bp_m2 ?_
      cases h; exact at_iret rfl (Nat.le_of_ble_eq_true rfl) (Nat.le_of_ble_eq_true rfl) ⟨rfl, _, rfl⟩ dX12_strong_160
    · rw [if_neg c5] at h
      refine at_iconst 0 dX12_strong_75 ic_0 ?_
      refine at_istore [(0, .ref (b + 38)), (1, .int v1), (2, .ref (b + (56 + G.length))), (4, .int v4), (5, .int 0)] dX12_strong_76 (Nat.le_of_ble_eq_true rfl) rfl ?_
      refine at_iconst 0 dX12_strong_78 ic_0 ?_
      refine at_istore [(0, .ref (b + 38)), (1, .int v1), (2, .ref (b + (56 + G.length))), (4, .int v4), (5, .int 0), (6, .int 0)] dX12_strong_79 (Nat.le_of_ble_eq_true rfl) rfl ?_
      exact t_X12_strong_81 hK N _ ih N _ _ _ _ _ _ _ h
set_option maxRecDepth 100000 in
theorem t_X12_strong_56 {D : va_G} {b : Nat} {K : State → Heap → Prop} {sa : Nat → Nat} (hK : sx_Kk b K sa) (N : Nat) {k24 : Int32 → Int32 → Int32 → sx_C → sx_C → (Nat → Int32) → Option (Int32 × sx_C × sx_C)} {uG uN uD uR uF uP uL uT uA uM uH xA xC xE xF xG xH xI xJ xK xL uO : sx_C} {G : sx_H} (res : Int32 × sx_C × sx_C) (hk24 : ∀ (v1 : Int32) (v3 : Int32) (v4 : Int32) (xB : sx_C) (xD : sx_C) (tb : (Nat → Int32)), k24 v1 v3 v4 xB xD tb = some res → sx_At D b K YX12_strong (⟨4, 1, 14, 100 * 4⟩ : Room) (sx_Eg (some (.int res.1)) (fun G => (sx_hp b uG uN uD uR uF uP uL uT uA uM uH xA (res.2.1) xC (res.2.2) xE xF xG xH xI xJ xK xL uO G))) 24 [(0, .ref (b + 38)), (1, .int v1), (2, .ref (b + (56 + G.length))), (3, .int v3), (4, .int v4)] [] (sx_hp b uG uN uD uR uF uP uL uT uA uM uH xA xB xC xD xE xF xG xH xI xJ xK xL uO (G ++ [.inl (.int, 14, .inl tb)])) 1 14) : ∀ (v1 : Int32) (v3 : Int32) (v4 : Int32) (s1 : Int32) (s2 : Int32) (xB : sx_C) (xD : sx_C) (tb : (Nat → Int32)), f_X12_strong_56 N k24 xA v1 v3 v4 s1 s2 xB xD tb = some res → sx_At D b K YX12_strong (⟨4, 1, 14, 100 * 4⟩ : Room) (sx_Eg (some (.int res.1)) (fun G => (sx_hp b uG uN uD uR uF uP uL uT uA uM uH xA (res.2.1) xC (res.2.2) xE xF xG xH xI xJ xK xL uO G))) 56 [(0, .ref (b + 38)), (1, .int v1), (2, .ref (b + (56 + G.length))), (3, .int v3), (4, .int v4)] [.int s2, .int s1, .ref (b + (56 + G.length))] (sx_hp b uG uN uD uR uF uP uL uT uA uM uH xA xB xC xD xE xF xG xH xI xJ xK xL uO (G ++ [.inl (.int, 14, .inl tb)])) 1 14 := by
  intro v1 v3 v4 s1 s2 xB xD tb h
  rw [f_X12_strong_56] at h
  obtain ⟨hi4, h⟩ := sp_chk h
  refine at_iast hg_tmp hi4 hs_tmp dX12_strong_56 ?_
  refine at_iinc 4 1 [(0, .ref (b + 38)), (1, .int v1), (2, .ref (b + (56 + G.length))), (3, .int v3), (4, .int (v4 + 1))] dX12_strong_57 rfl ic_1 (Nat.le_of_ble_eq_true rfl) rfl ?_
  refine at_goto 24 dX12_strong_60 (by decide) ?_
  exact hk24 _ _ _ _ _ _ h
set_option maxRecDepth 100000 in
theorem t_X12_strong_24 {D : va_G} {b : Nat} {K : State → Heap → Prop} {sa : Nat → Nat} (hK : sx_Kk b K sa) (N : Nat) {uG uN uD uR uF uP uL uT uA uM uH xA xC xE xF xG xH xI xJ xK xL uO : sx_C} {G : sx_H} (res : Int32 × sx_C × sx_C) : ∀ (n0 : Nat) (v1 : Int32) (v3 : Int32) (v4 : Int32) (xB : sx_C) (xD : sx_C) (tb : (Nat → Int32)), f_X12_strong_24 N xA n0 v1 v3 v4 xB xD tb = some res → sx_At D b K YX12_strong (⟨4, 1, 14, 100 * 4⟩ : Room) (sx_Eg (some (.int res.1)) (fun G => (sx_hp b uG uN uD uR uF uP uL uT uA uM uH xA (res.2.1) xC (res.2.2) xE xF xG xH xI xJ xK xL uO G))) 24 [(0, .ref (b + 38)), (1, .int v1), (2, .ref (b + (56 + G.length))), (3, .int v3), (4, .int v4)] [] (sx_hp b uG uN uD uR uF uP uL uT uA uM uH xA xB xC xD xE xF xG xH xI xJ xK xL uO (G ++ [.inl (.int, 14, .inl tb)])) 1 14 := by
  intro n0
  induction n0 with
  | zero => intro _ _ _ _ _ _ h; cases h
  | succ n0 ih =>
    intro v1 v3 v4 xB xD tb h
    rw [f_X12_strong_24] at h
    refine at_iload 4 dX12_strong_24 rfl ?_
    refine at_aload_n 0 dX12_strong_26 rfl ?_
    refine at_getf cl_X12 (by decide) fl_X12_198 hg_38 rfl dX12_strong_27 ?_
    refine at_icmp_ge 63 dX12_strong_30 (by decide) (fun c1 => ?_) (fun c1 => ?_)
    · rw [if_pos c1] at h
      refine at_iconst 0 dX12_strong_63 ic_0 ?_
      refine at_istore [(0, .ref (b + 38)), (1, .int v1), (2, .ref (b + (56 + G.length))), (3, .int v3), (4, .int 0)] dX12_strong_64 (Nat.le_of_ble_eq_true rfl) rfl ?_
      refine at_sub [0, 1, 2, 4] [(0, .ref (b + 38)), (1, .int v1), (2, .ref (b + (56 + G.length))), (4, .int 0)] rfl ?_
      exact t_X12_strong_66 hK N _ N _ _ _ _ _ h
    · rw [if_neg c1] at h
      refine at_aload_n 2 dX12_strong_33 rfl ?_
      refine at_iload 4 dX12_strong_34 rfl ?_
      refine at_iload_n 3 dX12_strong_36 rfl ?_
      refine at_iload 4 dX12_strong_37 rfl ?_
      refine at_ishr dX12_strong_39 ?_
      refine at_iconst 1 dX12_strong_40 ic_1 ?_
      refine at_iand dX12_strong_41 ?_
      refine at_iconst 1 dX12_strong_42 ic_1 ?_
      refine at_icmp_ne 55 dX12_strong_43 (by decide) (fun c2 => ?_) (fun c2 => ?_)
      · rw [if_neg c2] at h
        refine at_iconst (-1) dX12_strong_55 ic_m1 ?_
        exact t_X12_strong_56 hK N _ ih _ _ _ _ _ _ _ _ h
      · rw [if_pos c2] at h
        refine at_aload_n 0 dX12_strong_46 rfl ?_
        refine at_iload 4 dX12_strong_47 rfl ?_
        obtain ⟨q3, hq3, h⟩ := sp_bind h
        refine at_callVi (st := [.int v4, .ref (b + (56 + G.length))]) hK mt_X12_pivotsOf ml_X12_382 cl_X12 hg_38 (t_X12_pivotsOf hK hq3) rfl rfl (Nat.le_of_ble_eq_true rfl) ⟨Nat.le_of_ble_eq_true rfl, Nat.le_of_ble_eq_true rfl⟩ ⟨Nat.le_of_ble_eq_true rfl, Nat.le_of_ble_eq_true rfl⟩ dX12_strong_49 ?_
        refine at_goto 56 dX12_strong_52 (by decide) ?_
        exact t_X12_strong_56 hK N _ ih _ _ _ _ _ _ _ _ h
set_option maxRecDepth 100000 in
theorem t_X12_strong {D : va_G} {b : Nat} {K : State → Heap → Prop} {sa : Nat → Nat} (hK : sx_Kk b K sa) {N : Nat} {uG uN uD uR uF uP uL uT uA uM uH xA xC xE xF xG xH xI xJ xK xL uO : sx_C} {G : sx_H} {v1 : Int32} {xB : sx_C} {xD : sx_C} {res : Int32 × sx_C × sx_C} (h : f_X12_strong N xA v1 xB xD = some res) : sx_Runs D b K yX12_strong YX12_strong (⟨4, 1, 14, 100 * 4⟩ : Room) [.ref (b + 38), .int v1] (sx_hp b uG uN uD uR uF uP uL uT uA uM uH xA xB xC xD xE xF xG xH xI xJ xK xL uO G) (sx_Eg (some (.int res.1)) (fun G => (sx_hp b uG uN uD uR uF uP uL uT uA uM uH xA (res.2.1) xC (res.2.2) xE xF xG xH xI xJ xK xL uO G))) := by
  rw [f_X12_strong] at h
  refine sx_run (by decide +kernel) rfl rfl (Nat.le_of_ble_eq_true rfl) ?_
  refine at_aload_n 0 dX12_strong_0 rfl ?_
  refine at_iconst 0 dX12_strong_1 ic_0 ?_
  refine at_putf cl_X12 (by decide) fl_X12_73 rfl hg_38 rfl rfl (Nat.le_of_ble_eq_true rfl) hs_38_0 dX12_strong_2 ?_
  refine at_iload_n 1 dX12_strong_5 rfl ?_
  refine at_if_ge 11 dX12_strong_6 (by decide) (fun c17 => ?_) (fun c17 => ?_)
  · rw [if_pos c17] at h
    refine at_bipush 14 dX12_strong_11 bp_14 ?_
    refine at_newa (at_ := .int) (N := 14) (a0 := (14, .inl (fun _ => 0))) ac_int rfl (fun _ => rfl) (by decide) (by decide) (by decide) (Nat.le_of_ble_eq_true rfl) (Nat.le_of_ble_eq_true rfl) dX12_strong_13 ?_
    refine hp_tmp ?_
    refine at_astore_n [(0, .ref (b + 38)), (1, .int v1), (2, .ref (b + (56 + G.length)))] dX12_strong_15 (Nat.le_of_ble_eq_true rfl) rfl ?_
    refine at_aload_n 0 dX12_strong_16 rfl ?_
    obtain ⟨q18, hq18, h⟩ := sp_bind h
    refine at_callVi (st := []) hK mt_X12_openNow ml_X12_298 cl_X12 hg_38 (t_X12_openNow hK hq18) rfl rfl (Nat.le_of_ble_eq_true rfl) ⟨Nat.le_of_ble_eq_true rfl, Nat.le_of_ble_eq_true rfl⟩ ⟨Nat.le_of_ble_eq_true rfl, Nat.le_of_ble_eq_true rfl⟩ dX12_strong_17 ?_
    refine at_istore_n [(0, .ref (b + 38)), (1, .int v1), (2, .ref (b + (56 + G.length))), (3, .int q18)] dX12_strong_20 (Nat.le_of_ble_eq_true rfl) rfl ?_
    refine at_iconst 0 dX12_strong_21 ic_0 ?_
    refine at_istore [(0, .ref (b + 38)), (1, .int v1), (2, .ref (b + (56 + G.length))), (3, .int q18), (4, .int 0)] dX12_strong_22 (Nat.le_of_ble_eq_true rfl) rfl ?_
    exact t_X12_strong_24 hK N _ N _ _ _ _ _ _ h
  · rw [if_neg c17] at h
    refine at_iconst (-1) dX12_strong_9 ic_m1 ?_
    cases h; exact at_iret rfl (Nat.le_of_ble_eq_true rfl) (Nat.le_of_ble_eq_true rfl) ⟨rfl, _, rfl⟩ dX12_strong_10
