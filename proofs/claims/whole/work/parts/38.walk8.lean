set_option maxRecDepth 100000 in
theorem t_X12_wrongLine {D : va_G} {b : Nat} {K : State → Heap → Prop} {sa : Nat → Nat} (hK : sx_Kk b K sa) {uG uN uD uR uF uP uL uT uA uM uH xA xB xC xD xE xF xG xH xI xJ xK xL uO : sx_C} {G : sx_H} {v1 : Int32} {res : Int32} (h : f_X12_wrongLine xA v1 = some res) : sx_Runs D b K yX12_wrongLine YX12_wrongLine (sx_rm 4) [.ref (b + 38), .int v1] (sx_hp b uG uN uD uR uF uP uL uT uA uM uH xA xB xC xD xE xF xG xH xI xJ xK xL uO G) (sx_Ex (some (.int res)) (sx_hp b uG uN uD uR uF uP uL uT uA uM uH xA xB xC xD xE xF xG xH xI xJ xK xL uO G)) := by
  rw [f_X12_wrongLine] at h
  refine sx_run (by decide +kernel) rfl rfl (Nat.le_of_ble_eq_true rfl) ?_
  refine at_aload_n 0 dX12_wrongLine_0 rfl ?_
  refine at_iload_n 1 dX12_wrongLine_1 rfl ?_
  obtain ⟨q1, hq1, h⟩ := sp_bind h
  refine at_callVi (st := []) hK mt_X12_isLine ml_X12_304 cl_X12 hg_38 (t_X12_isLine hK hq1) rfl rfl (Nat.le_of_ble_eq_true rfl) ⟨Nat.le_of_ble_eq_true rfl, Nat.le_of_ble_eq_true rfl⟩ ⟨Nat.le_refl _, Nat.le_refl _⟩ dX12_wrongLine_2 ?_
  refine at_zne 12 dX12_wrongLine_5 (by decide) (fun c2 => ?_) (fun c2 => ?_)
  · rw [if_pos c2] at h
    refine at_aload_n 0 dX12_wrongLine_12 rfl ?_
    refine at_iload_n 1 dX12_wrongLine_13 rfl ?_
    obtain ⟨q3, hq3, h⟩ := sp_bind h
    refine at_callVi (st := []) hK mt_X12_isOpen ml_X12_310 cl_X12 hg_38 (t_X12_isOpen hK hq3) rfl rfl (Nat.le_of_ble_eq_true rfl) ⟨Nat.le_of_ble_eq_true rfl, Nat.le_of_ble_eq_true rfl⟩ ⟨Nat.le_refl _, Nat.le_refl _⟩ dX12_wrongLine_14 ?_
    refine at_zeq 24 dX12_wrongLine_17 (by decide) (fun c4 => ?_) (fun c4 => ?_)
    · rw [if_neg c4] at h
      refine at_bipush (-2) dX12_wrongLine_24 bp_m2 ?_
      cases h; exact at_iret rfl (Nat.le_refl _) (Nat.le_refl _) ⟨rfl, rfl⟩ dX12_wrongLine_26
    · rw [if_pos c4] at h
      refine at_iconst 0 dX12_wrongLine_20 ic_0 ?_
      refine at_goto 26 dX12_wrongLine_21 (by decide) ?_
      cases h; exact at_iret rfl (Nat.le_refl _) (Nat.le_refl _) ⟨rfl, rfl⟩ dX12_wrongLine_26
  · rw [if_neg c2] at h
    refine at_iconst (-1) dX12_wrongLine_8 ic_m1 ?_
    refine at_goto 26 dX12_wrongLine_9 (by decide) ?_
    cases h; exact at_iret rfl (Nat.le_refl _) (Nat.le_refl _) ⟨rfl, rfl⟩ dX12_wrongLine_26
set_option maxRecDepth 100000 in
theorem t_X12_luckyWith {D : va_G} {b : Nat} {K : State → Heap → Prop} {sa : Nat → Nat} (hK : sx_Kk b K sa) {N : Nat} {uG uN uD uR uF uP uL uT uA uM uH xA xC xG xH xI xJ xK xL uO : sx_C} {G : sx_H} {v1 : Int32} {xB : sx_C} {xD : sx_C} {xE : sx_C} {xF : sx_C} {res : Int32 × sx_C × sx_C × sx_C × sx_C} (h : f_X12_luckyWith N xA v1 xB xD xE xF = some res) : sx_Runs D b K yX12_luckyWith YX12_luckyWith (sx_rm 5) [.ref (b + 38), .int v1] (sx_hp b uG uN uD uR uF uP uL uT uA uM uH xA xB xC xD xE xF xG xH xI xJ xK xL uO G) (sx_Ex (some (.int res.1)) (sx_hp b uG uN uD uR uF uP uL uT uA uM uH xA (res.2.1) xC (res.2.2.1) (res.2.2.2.1) (res.2.2.2.2) xG xH xI xJ xK xL uO G)) := by
  rw [f_X12_luckyWith] at h
  refine sx_run (by decide +kernel) rfl rfl (Nat.le_of_ble_eq_true rfl) ?_
  refine at_aload_n 0 dX12_luckyWith_0 rfl ?_
  refine at_iconst 0 dX12_luckyWith_1 ic_0 ?_
  refine at_putf cl_X12 (by decide) fl_X12_73 rfl hg_38 rfl rfl (Nat.le_of_ble_eq_true rfl) hs_38_0 dX12_luckyWith_2 ?_
  refine at_aload_n 0 dX12_luckyWith_5 rfl ?_
  refine at_iload_n 1 dX12_luckyWith_6 rfl ?_
  obtain ⟨q1, hq1, h⟩ := sp_bind h
  refine at_callVi (st := []) hK mt_X12_wrongLine ml_X12_379 cl_X12 hg_38 (t_X12_wrongLine hK hq1) rfl rfl (Nat.le_of_ble_eq_true rfl) ⟨Nat.le_of_ble_eq_true rfl, Nat.le_of_ble_eq_true rfl⟩ ⟨Nat.le_refl _, Nat.le_refl _⟩ dX12_luckyWith_7 ?_
  refine at_if_ge 21 dX12_luckyWith_10 (by decide) (fun c2 => ?_) (fun c2 => ?_)
  · rw [if_pos c2] at h
    refine at_aload_n 0 dX12_luckyWith_21 rfl ?_
    refine at_iconst 0 dX12_luckyWith_22 ic_0 ?_
    refine at_iconst (-1) dX12_luckyWith_23 ic_m1 ?_
    refine at_iload_n 1 dX12_luckyWith_24 rfl ?_
    obtain ⟨q3, hq3, h⟩ := sp_bind h
    refine at_callVi (st := []) hK mt_X12_manySo ml_X12_376 cl_X12 hg_38 (t_X12_manySo hK hq3) rfl rfl (Nat.le_of_ble_eq_true rfl) ⟨Nat.le_of_ble_eq_true rfl, Nat.le_of_ble_eq_true rfl⟩ ⟨Nat.le_refl _, Nat.le_refl _⟩ dX12_luckyWith_25 ?_
    cases h; exact at_iret rfl (Nat.le_refl _) (Nat.le_refl _) ⟨rfl, rfl⟩ dX12_luckyWith_28
  · rw [if_neg c2] at h
    refine at_aload_n 0 dX12_luckyWith_13 rfl ?_
    refine at_iload_n 1 dX12_luckyWith_14 rfl ?_
    obtain ⟨q4, hq4, h⟩ := sp_bind h
    refine at_callVi (st := []) hK mt_X12_wrongLine ml_X12_379 cl_X12 hg_38 (t_X12_wrongLine hK hq4) rfl rfl (Nat.le_of_ble_eq_true rfl) ⟨Nat.le_of_ble_eq_true rfl, Nat.le_of_ble_eq_true rfl⟩ ⟨Nat.le_refl _, Nat.le_refl _⟩ dX12_luckyWith_15 ?_
    refine at_goto 28 dX12_luckyWith_18 (by decide) ?_
    cases h; exact at_iret rfl (Nat.le_refl _) (Nat.le_refl _) ⟨rfl, rfl⟩ dX12_luckyWith_28
set_option maxRecDepth 100000 in
theorem t_X12_trees {D : va_G} {b : Nat} {K : State → Heap → Prop} {sa : Nat → Nat} (hK : sx_Kk b K sa) {N : Nat} {uG uN uD uR uF uP uL uT uA uM uH xA xC xG xH xI xJ xK xL uO : sx_C} {G : sx_H} {xB : sx_C} {xD : sx_C} {xE : sx_C} {xF : sx_C} {res : Int32 × sx_C × sx_C × sx_C × sx_C} (h : f_X12_trees N xA xB xD xE xF = some res) : sx_Runs D b K yX12_trees YX12_trees (sx_rm 5) [.ref (b + 38)] (sx_hp b uG uN uD uR uF uP uL uT uA uM uH xA xB xC xD xE xF xG xH xI xJ xK xL uO G) (sx_Ex (some (.int res.1)) (sx_hp b uG uN uD uR uF uP uL uT uA uM uH xA (res.2.1) xC (res.2.2.1) (res.2.2.2.1) (res.2.2.2.2) xG xH xI xJ xK xL uO G)) := by
  rw [f_X12_trees] at h
  refine sx_run (by decide +kernel) rfl rfl (Nat.le_of_ble_eq_true rfl) ?_
  refine at_aload_n 0 dX12_trees_0 rfl ?_
  refine at_iconst 0 dX12_trees_1 ic_0 ?_
  refine at_putf cl_X12 (by decide) fl_X12_73 rfl hg_38 rfl rfl (Nat.le_of_ble_eq_true rfl) hs_38_0 dX12_trees_2 ?_
  refine at_aload_n 0 dX12_trees_5 rfl ?_
  refine at_iconst 2 dX12_trees_6 ic_2 ?_
  refine at_iconst (-1) dX12_trees_7 ic_m1 ?_
  refine at_iconst (-1) dX12_trees_8 ic_m1 ?_
  obtain ⟨q1, hq1, h⟩ := sp_bind h
  refine at_callVi (st := []) hK mt_X12_manySo ml_X12_376 cl_X12 hg_38 (t_X12_manySo hK hq1) rfl rfl (Nat.le_of_ble_eq_true rfl) ⟨Nat.le_of_ble_eq_true rfl, Nat.le_of_ble_eq_true rfl⟩ ⟨Nat.le_refl _, Nat.le_refl _⟩ dX12_trees_9 ?_
  cases h; exact at_iret rfl (Nat.le_refl _) (Nat.le_refl _) ⟨rfl, rfl⟩ dX12_trees_12
set_option maxRecDepth 100000 in
theorem t_X12_treesWith {D : va_G} {b : Nat} {K : State → Heap → Prop} {sa : Nat → Nat} (hK : sx_Kk b K sa) {N : Nat} {uG uN uD uR uF uP uL uT uA uM uH xA xC xG xH xI xJ xK xL uO : sx_C} {G : sx_H} {v1 : Int32} {xB : sx_C} {xD : sx_C} {xE : sx_C} {xF : sx_C} {res : Int32 × sx_C × sx_C × sx_C × sx_C} (h : f_X12_treesWith N xA v1 xB xD xE xF = some res) : sx_Runs D b K yX12_treesWith YX12_treesWith (sx_rm 5) [.ref (b + 38), .int v1] (sx_hp b uG uN uD uR uF uP uL uT uA uM uH xA xB xC xD xE xF xG xH xI xJ xK xL uO G) (sx_Ex (some (.int res.1)) (sx_hp b uG uN uD uR uF uP uL uT uA uM uH xA (res.2.1) xC (res.2.2.1) (res.2.2.2.1) (res.2.2.2.2) xG xH xI xJ xK xL uO G)) := by
  rw [f_X12_treesWith] at h
  refine sx_run (by decide +kernel) rfl rfl (Nat.le_of_ble_eq_true rfl) ?_
  refine at_aload_n 0 dX12_treesWith_0 rfl ?_
  refine at_iconst 0 dX12_treesWith_1 ic_0 ?_
  refine at_putf cl_X12 (by decide) fl_X12_73 rfl hg_38 rfl rfl (Nat.le_of_ble_eq_true rfl) hs_38_0 dX12_treesWith_2 ?_
  refine at_aload_n 0 dX12_treesWith_5 rfl ?_
  refine at_iload_n 1 dX12_treesWith_6 rfl ?_
  obtain ⟨q1, hq1, h⟩ := sp_bind h
  refine at_callVi (st := []) hK mt_X12_wrongLine ml_X12_379 cl_X12 hg_38 (t_X12_wrongLine hK hq1) rfl rfl (Nat.le_of_ble_eq_true rfl) ⟨Nat.le_of_ble_eq_true rfl, Nat.le_of_ble_eq_true rfl⟩ ⟨Nat.le_refl _, Nat.le_refl _⟩ dX12_treesWith_7 ?_
  refine at_if_ge 21 dX12_treesWith_10 (by decide) (fun c2 => ?_) (fun c2 => ?_)
  · rw [if_pos c2] at h
    refine at_aload_n 0 dX12_treesWith_21 rfl ?_
    refine at_iconst 2 dX12_treesWith_22 ic_2 ?_
    refine at_iconst (-1) dX12_treesWith_23 ic_m1 ?_
    refine at_iload_n 1 dX12_treesWith_24 rfl ?_
    obtain ⟨q3, hq3, h⟩ := sp_bind h
    refine at_callVi (st := []) hK mt_X12_manySo ml_X12_376 cl_X12 hg_38 (t_X12_manySo hK hq3) rfl rfl (Nat.le_of_ble_eq_true rfl) ⟨Nat.le_of_ble_eq_true rfl, Nat.le_of_ble_eq_true rfl⟩ ⟨Nat.le_refl _, Nat.le_refl _⟩ dX12_treesWith_25 ?_
    cases h; exact at_iret rfl (Nat.le_refl _) (Nat.le_refl _) ⟨rfl, rfl⟩ dX12_treesWith_28
  · rw [if_neg c2] at h
    refine at_aload_n 0 dX12_treesWith_13 rfl ?_
    refine at_iload_n 1 dX12_treesWith_14 rfl ?_
    obtain ⟨q4, hq4, h⟩ := sp_bind h
    refine at_callVi (st := []) hK mt_X12_wrongLine ml_X12_379 cl_X12 hg_38 (t_X12_wrongLine hK hq4) rfl rfl (Nat.le_of_ble_eq_true rfl) ⟨Nat.le_of_ble_eq_true rfl, Nat.le_of_ble_eq_true rfl⟩ ⟨Nat.le_refl _, Nat.le_refl _⟩ dX12_treesWith_15 ?_
    refine at_goto 28 dX12_treesWith_18 (by decide) ?_
    cases h; exact at_iret rfl (Nat.le_refl _) (Nat.le_refl _) ⟨rfl, rfl⟩ dX12_treesWith_28
set_option maxRecDepth 100000 in
theorem t_X12_pivotsOf_54 {D : va_G} {b : Nat} {K : State → Heap → Prop} {sa : Nat → Nat} (hK : sx_Kk b K sa) (N : Nat) {k16 : Int32 → Int32 → Int32 → Int32 → sx_C → Option (Int32 × sx_C)} {uG uN uD uR uF uP uL uT uA uM uH xA xB xC xE xF xG xH xI xJ xK xL uO : sx_C} {G : sx_H} (res : Int32 × sx_C) (hk16 : ∀ (v1 : Int32) (v2 : Int32) (v3 : Int32) (v4 : Int32) (xD : sx_C), k16 v1 v2 v3 v4 xD = some res → sx_At D b K YX12_pivotsOf (sx_rm 3) (sx_Ex (some (.int res.1)) (sx_hp b uG uN uD uR uF uP uL uT uA uM uH xA xB xC (res.2) xE xF xG xH xI xJ xK xL uO G)) 16 [(0, .ref (b + 38)), (1, .int v1), (2, .int v2), (3, .int v3), (4, .int v4)] [] (sx_hp b uG uN uD uR uF uP uL uT uA uM uH xA xB xC xD xE xF xG xH xI xJ xK xL uO G) 0 0) : ∀ (v1 : Int32) (v2 : Int32) (v4 : Int32) (s0 : Int32) (s1 : Int32) (xD : sx_C), f_X12_pivotsOf_54 N k16 xA v1 v2 v4 s0 s1 xD = some res → sx_At D b K YX12_pivotsOf (sx_rm 3) (sx_Ex (some (.int res.1)) (sx_hp b uG uN uD uR uF uP uL uT uA uM uH xA xB xC (res.2) xE xF xG xH xI xJ xK xL uO G)) 54 [(0, .ref (b + 38)), (1, .int v1), (2, .int v2), (4, .int v4)] [.int s1, .int s0] (sx_hp b uG uN uD uR uF uP uL uT uA uM uH xA xB xC xD xE xF xG xH xI xJ xK xL uO G) 0 0 := by
  intro v1 v2 v4 s0 s1 xD h
  rw [f_X12_pivotsOf_54] at h
  refine at_iadd dX12_pivotsOf_54 ?_
  refine at_istore_n [(0, .ref (b + 38)), (1, .int v1), (2, .int v2), (3, .int (s0 + s1)), (4, .int v4)] dX12_pivotsOf_55 (Nat.le_of_ble_eq_true rfl) rfl ?_
  refine at_iload 4 dX12_pivotsOf_56 rfl ?_
  refine at_if_ne 63 dX12_pivotsOf_58 (by decide) (fun c5 => ?_) (fun c5 => ?_)
  · rw [if_neg c5] at h
    refine at_iload 4 dX12_pivotsOf_63 rfl ?_
    refine at_iconst 1 dX12_pivotsOf_65 ic_1 ?_
    refine at_isub dX12_pivotsOf_66 ?_
    refine at_iload_n 2 dX12_pivotsOf_67 rfl ?_
    refine at_iand dX12_pivotsOf_68 ?_
    refine at_istore [(0, .ref (b + 38)), (1, .int v1), (2, .int v2), (3, .int (s0 + s1)), (4, .int ((v4 - 1) &&& v2))] dX12_pivotsOf_69 (Nat.le_of_ble_eq_true rfl) rfl ?_
    refine at_goto 16 dX12_pivotsOf_71 (by decide) ?_
    exact hk16 _ _ _ _ _ h
  · rw [if_pos c5] at h
    refine at_iload_n 3 dX12_pivotsOf_61 rfl ?_
    cases h; exact at_iret rfl (Nat.le_refl _) (Nat.le_refl _) ⟨rfl, rfl⟩ dX12_pivotsOf_62
set_option maxRecDepth 100000 in
theorem t_X12_pivotsOf_53 {D : va_G} {b : Nat} {K : State → Heap → Prop} {sa : Nat → Nat} (hK : sx_Kk b K sa) (N : Nat) {k16 : Int32 → Int32 → Int32 → Int32 → sx_C → Option (Int32 × sx_C)} {uG uN uD uR uF uP uL uT uA uM uH xA xB xC xE xF xG xH xI xJ xK xL uO : sx_C} {G : sx_H} (res : Int32 × sx_C) (hk16 : ∀ (v1 : Int32) (v2 : Int32) (v3 : Int32) (v4 : Int32) (xD : sx_C), k16 v1 v2 v3 v4 xD = some res → sx_At D b K YX12_pivotsOf (sx_rm 3) (sx_Ex (some (.int res.1)) (sx_hp b uG uN uD uR uF uP uL uT uA uM uH xA xB xC (res.2) xE xF xG xH xI xJ xK xL uO G)) 16 [(0, .ref (b + 38)), (1, .int v1), (2, .int v2), (3, .int v3), (4, .int v4)] [] (sx_hp b uG uN uD uR uF uP uL uT uA uM uH xA xB xC xD xE xF xG xH xI xJ xK xL uO G) 0 0) : ∀ (v1 : Int32) (v2 : Int32) (v4 : Int32) (s0 : Int32) (xD : sx_C), f_X12_pivotsOf_53 N k16 xA v1 v2 v4 s0 xD = some res → sx_At D b K YX12_pivotsOf (sx_rm 3) (sx_Ex (some (.int res.1)) (sx_hp b uG uN uD uR uF uP uL uT uA uM uH xA xB xC (res.2) xE xF xG xH xI xJ xK xL uO G)) 53 [(0, .ref (b + 38)), (1, .int v1), (2, .int v2), (4, .int v4)] [.int s0] (sx_hp b uG uN uD uR uF uP uL uT uA uM uH xA xB xC xD xE xF xG xH xI xJ xK xL uO G) 0 0 := by
  intro v1 v2 v4 s0 xD h
  rw [f_X12_pivotsOf_53] at h
  refine at_iconst 0 dX12_pivotsOf_53 ic_0 ?_
  exact t_X12_pivotsOf_54 hK N _ hk16 _ _ _ _ _ _ h
set_option maxRecDepth 100000 in
theorem t_X12_pivotsOf_16 {D : va_G} {b : Nat} {K : State → Heap → Prop} {sa : Nat → Nat} (hK : sx_Kk b K sa) (N : Nat) {uG uN uD uR uF uP uL uT uA uM uH xA xB xC xE xF xG xH xI xJ xK xL uO : sx_C} {G : sx_H} (res : Int32 × sx_C) : ∀ (n0 : Nat) (v1 : Int32) (v2 : Int32) (v3 : Int32) (v4 : Int32) (xD : sx_C), f_X12_pivotsOf_16 N xA n0 v1 v2 v3 v4 xD = some res → sx_At D b K YX12_pivotsOf (sx_rm 3) (sx_Ex (some (.int res.1)) (sx_hp b uG uN uD uR uF uP uL uT uA uM uH xA xB xC (res.2) xE xF xG xH xI xJ xK xL uO G)) 16 [(0, .ref (b + 38)), (1, .int v1), (2, .int v2), (3, .int v3), (4, .int v4)] [] (sx_hp b uG uN uD uR uF uP uL uT uA uM uH xA xB xC xD xE xF xG xH xI xJ xK xL uO G) 0 0 := by
  intro n0
  induction n0 with
  | zero => intro _ _ _ _ _ h; cases h
  | succ n0 ih =>
    intro v1 v2 v3 v4 xD h
    rw [f_X12_pivotsOf_16] at h
    refine at_iload_n 3 dX12_pivotsOf_16 rfl ?_
    refine at_aload_n 0 dX12_pivotsOf_17 rfl ?_
    refine at_aload_n 0 dX12_pivotsOf_18 rfl ?_
    refine at_getf cl_X12 (by decide) fl_X12_201 hg_38 rfl dX12_pivotsOf_19 ?_
    refine at_iload 4 dX12_pivotsOf_22 rfl ?_
    refine at_ior dX12_pivotsOf_24 ?_
    obtain ⟨q1, hq1, h⟩ := sp_bind h
    refine at_callVi (st := [.int v3]) hK mt_X12_hangs ml_X12_230 cl_X12 hg_38 (t_X12_hangs hK hq1) rfl rfl (Nat.le_of_ble_eq_true rfl) ⟨Nat.le_of_ble_eq_true rfl, Nat.le_of_ble_eq_true rfl⟩ ⟨Nat.le_refl _, Nat.le_refl _⟩ dX12_pivotsOf_25 ?_
    refine at_zne 53 dX12_pivotsOf_28 (by decide) (fun c2 => ?_) (fun c2 => ?_)
    · rw [if_pos c2] at h
      refine at_sub [0, 1, 2, 4] [(0, .ref (b + 38)), (1, .int v1), (2, .int v2), (4, .int v4)] rfl ?_
      exact t_X12_pivotsOf_53 hK N _ ih _ _ _ _ _ h
    · rw [if_neg c2] at h
      refine at_aload_n 0 dX12_pivotsOf_31 rfl ?_
      refine at_aload_n 0 dX12_pivotsOf_32 rfl ?_
      refine at_getf cl_X12 (by decide) fl_X12_201 hg_38 rfl dX12_pivotsOf_33 ?_
      refine at_iload 4 dX12_pivotsOf_36 rfl ?_
      refine at_ior dX12_pivotsOf_38 ?_
      refine at_iconst 1 dX12_pivotsOf_39 ic_1 ?_
      refine at_iload_n 1 dX12_pivotsOf_40 rfl ?_
      refine at_ishl dX12_pivotsOf_41 ?_
      refine at_ior dX12_pivotsOf_42 ?_
      obtain ⟨q3, hq3, h⟩ := sp_bind h
      refine at_callVi (st := [.int v3]) hK mt_X12_hangs ml_X12_230 cl_X12 hg_38 (t_X12_hangs hK hq3) rfl rfl (Nat.le_of_ble_eq_true rfl) ⟨Nat.le_of_ble_eq_true rfl, Nat.le_of_ble_eq_true rfl⟩ ⟨Nat.le_refl _, Nat.le_refl _⟩ dX12_pivotsOf_43 ?_
      refine at_zeq 53 dX12_pivotsOf_46 (by decide) (fun c4 => ?_) (fun c4 => ?_)
      · rw [if_neg c4] at h
        refine at_sub [0, 1, 2, 4] [(0, .ref (b + 38)), (1, .int v1), (2, .int v2), (4, .int v4)] rfl ?_
        exact t_X12_pivotsOf_53 hK N _ ih _ _ _ _ _ h
      · rw [if_pos c4] at h
        refine at_iconst 1 dX12_pivotsOf_49 ic_1 ?_
        refine at_goto 54 dX12_pivotsOf_50 (by decide) ?_
        refine at_sub [0, 1, 2, 4] [(0, .ref (b + 38)), (1, .int v1), (2, .int v2), (4, .int v4)] rfl ?_
        exact t_X12_pivotsOf_54 hK N _ ih _ _ _ _ _ _ h
set_option maxRecDepth 100000 in
theorem t_X12_pivotsOf {D : va_G} {b : Nat} {K : State → Heap → Prop} {sa : Nat → Nat} (hK : sx_Kk b K sa) {N : Nat} {uG uN uD uR uF uP uL uT uA uM uH xA xB xC xE xF xG xH xI xJ xK xL uO : sx_C} {G : sx_H} {v1 : Int32} {xD : sx_C} {res : Int32 × sx_C} (h : f_X12_pivotsOf N xA v1 xD = some res) : sx_Runs D b K yX12_pivotsOf YX12_pivotsOf (sx_rm 3) [.ref (b + 38), .int v1] (sx_hp b uG uN uD uR uF uP uL uT uA uM uH xA xB xC xD xE xF xG xH xI xJ xK xL uO G) (sx_Ex (some (.int res.1)) (sx_hp b uG uN uD uR uF uP uL uT uA uM uH xA xB xC (res.2) xE xF xG xH xI xJ xK xL uO G)) := by
  rw [f_X12_pivotsOf] at h
  refine sx_run (by decide +kernel) rfl rfl (Nat.le_of_ble_eq_true rfl) ?_
  refine at_aload_n 0 dX12_pivotsOf_0 rfl ?_
  obtain ⟨q6, hq6, h⟩ := sp_bind h
  refine at_callVi (st := []) hK mt_X12_openNow ml_X12_298 cl_X12 hg_38 (t_X12_openNow hK hq6) rfl rfl (Nat.le_of_ble_eq_true rfl) ⟨Nat.le_of_ble_eq_true rfl, Nat.le_of_ble_eq_true rfl⟩ ⟨Nat.le_refl _, Nat.le_refl _⟩ dX12_pivotsOf_1 ?_
  refine at_iconst 1 dX12_pivotsOf_4 ic_1 ?_
  refine at_iload_n 1 dX12_pivotsOf_5 rfl ?_
  refine at_ishl dX12_pivotsOf_6 ?_
  refine at_iconst (-1) dX12_pivotsOf_7 ic_m1 ?_
  refine at_ixor dX12_pivotsOf_8 ?_
  refine at_iand dX12_pivotsOf_9 ?_
  refine at_istore_n [(0, .ref (b + 38)), (1, .int v1), (2, .int (q6 &&& ((sp_shl 1 v1) ^^^ (-1))))] dX12_pivotsOf_10 (Nat.le_of_ble_eq_true rfl) rfl ?_
  refine at_iconst 0 dX12_pivotsOf_11 ic_0 ?_
  refine at_istore_n [(0, .ref (b + 38)), (1, .int v1), (2, .int (q6 &&& ((sp_shl 1 v1) ^^^ (-1)))), (3, .int 0)] dX12_pivotsOf_12 (Nat.le_of_ble_eq_true rfl) rfl ?_
  refine at_iload_n 2 dX12_pivotsOf_13 rfl ?_
  refine at_istore [(0, .ref (b + 38)), (1, .int v1), (2, .int (q6 &&& ((sp_shl 1 v1) ^^^ (-1)))), (3, .int 0), (4, .int (q6 &&& ((sp_shl 1 v1) ^^^ (-1))))] dX12_pivotsOf_14 (Nat.le_of_ble_eq_true rfl) rfl ?_
  exact t_X12_pivotsOf_16 hK N _ N _ _ _ _ _ h
set_option maxRecDepth 100000 in
theorem t_X12_pivots {D : va_G} {b : Nat} {K : State → Heap → Prop} {sa : Nat → Nat} (hK : sx_Kk b K sa) {N : Nat} {uG uN uD uR uF uP uL uT uA uM uH xA xC xE xF xG xH xI xJ xK xL uO : sx_C} {G : sx_H} {v1 : Int32} {xB : sx_C} {xD : sx_C} {res : Int32 × sx_C × sx_C} (h : f_X12_pivots N xA v1 xB xD = some res) : sx_Runs D b K yX12_pivots YX12_pivots (sx_rm 5) [.ref (b + 38), .int v1] (sx_hp b uG uN uD uR uF uP uL uT uA uM uH xA xB xC xD xE xF xG xH xI xJ xK xL uO G) (sx_Ex (some (.int res.1)) (sx_hp b uG uN uD uR uF uP uL uT uA uM uH xA (res.2.1) xC (res.2.2) xE xF xG xH xI xJ xK xL uO G)) := by
  rw [f_X12_pivots] at h
  refine sx_run (by decide +kernel) rfl rfl (Nat.le_of_ble_eq_true rfl) ?_
  refine at_aload_n 0 dX12_pivots_0 rfl ?_
  refine at_iconst 0 dX12_pivots_1 ic_0 ?_
  refine at_putf cl_X12 (by decide) fl_X12_73 rfl hg_38 rfl rfl (Nat.le_of_ble_eq_true rfl) hs_38_0 dX12_pivots_2 ?_
  refine at_aload_n 0 dX12_pivots_5 rfl ?_
  refine at_iload_n 1 dX12_pivots_6 rfl ?_
  obtain ⟨q1, hq1, h⟩ := sp_bind h
  refine at_callVi (st := []) hK mt_X12_wrongLine ml_X12_379 cl_X12 hg_38 (t_X12_wrongLine hK hq1) rfl rfl (Nat.le_of_ble_eq_true rfl) ⟨Nat.le_of_ble_eq_true rfl, Nat.le_of_ble_eq_true rfl⟩ ⟨Nat.le_refl _, Nat.le_refl _⟩ dX12_pivots_7 ?_
  refine at_if_ge 21 dX12_pivots_10 (by decide) (fun c2 => ?_) (fun c2 => ?_)
  · rw [if_pos c2] at h
    refine at_aload_n 0 dX12_pivots_21 rfl ?_
    refine at_iload_n 1 dX12_pivots_22 rfl ?_
    obtain ⟨q3, hq3, h⟩ := sp_bind h
    refine at_callVi (st := []) hK mt_X12_pivotsOf ml_X12_382 cl_X12 hg_38 (t_X12_pivotsOf hK hq3) rfl rfl (Nat.le_of_ble_eq_true rfl) ⟨Nat.le_of_ble_eq_true rfl, Nat.le_of_ble_eq_true rfl⟩ ⟨Nat.le_refl _, Nat.le_refl _⟩ dX12_pivots_23 ?_
    cases h; exact at_iret rfl (Nat.le_refl _) (Nat.le_refl _) ⟨rfl, rfl⟩ dX12_pivots_26
  · rw [if_neg c2] at h
    refine at_aload_n 0 dX12_pivots_13 rfl ?_
    refine at_iload_n 1 dX12_pivots_14 rfl ?_
    obtain ⟨q4, hq4, h⟩ := sp_bind h
    refine at_callVi (st := []) hK mt_X12_wrongLine ml_X12_379 cl_X12 hg_38 (t_X12_wrongLine hK hq4) rfl rfl (Nat.le_of_ble_eq_true rfl) ⟨Nat.le_of_ble_eq_true rfl, Nat.le_of_ble_eq_true rfl⟩ ⟨Nat.le_refl _, Nat.le_refl _⟩ dX12_pivots_15 ?_
    refine at_goto 26 dX12_pivots_18 (by decide) ?_
    cases h; exact at_iret rfl (Nat.le_refl _) (Nat.le_refl _) ⟨rfl, rfl⟩ dX12_pivots_26
set_option maxRecDepth 100000 in
theorem t_X12_needed_38 {D : va_G} {b : Nat} {K : State → Heap → Prop} {sa : Nat → Nat} (hK : sx_Kk b K sa) (N : Nat) {k17 : Int32 → Int32 → Int32 → Int32 → sx_C → sx_C → Option (Int32 × sx_C × sx_C)} {uG uN uD uR uF uP uL uT uA uM uH xA xC xE xF xG xH xI xJ xK xL uO : sx_C} {G : sx_H} (res : Int32 × sx_C × sx_C) (hk17 : ∀ (v1 : Int32) (v2 : Int32) (v3 : Int32) (v4 : Int32) (xB : sx_C) (xD : sx_C), k17 v1 v2 v3 v4 xB xD = some res → sx_At D b K YX12_needed (sx_rm 3) (sx_Ex (some (.int res.1)) (sx_hp b uG uN uD uR uF uP uL uT uA uM uH xA (res.2.1) xC (res.2.2) xE xF xG xH xI xJ xK xL uO G)) 17 [(0, .ref (b + 38)), (1, .int v1), (2, .int v2), (3, .int v3), (4, .int v4)] [] (sx_hp b uG uN uD uR uF uP uL uT uA uM uH xA xB xC xD xE xF xG xH xI xJ xK xL uO G) 0 0) : ∀ (v1 : Int32) (v2 : Int32) (v3 : Int32) (v4 : Int32) (xB : sx_C) (xD : sx_C), f_X12_needed_38 N k17 xA v1 v2 v3 v4 xB xD = some res → sx_At D b K YX12_needed (sx_rm 3) (sx_Ex (some (.int res.1)) (sx_hp b uG uN uD uR uF uP uL uT uA uM uH xA (res.2.1) xC (res.2.2) xE xF xG xH xI xJ xK xL uO G)) 38 [(0, .ref (b + 38)), (1, .int v1), (2, .int v2), (3, .int v3), (4, .int v4)] [] (sx_hp b uG uN uD uR uF uP uL uT uA uM uH xA xB xC xD xE xF xG xH xI xJ xK xL uO G) 0 0 := by
  intro v1 v2 v3 v4 xB xD h
  rw [f_X12_needed_38] at h
  refine at_iload 4 dX12_needed_38 rfl ?_
  refine at_if_ne 53 dX12_needed_40 (by decide) (fun c3 => ?_) (fun c3 => ?_)
  · rw [if_neg c3] at h
    refine at_iload 4 dX12_needed_53 rfl ?_
    refine at_iconst 1 dX12_needed_55 ic_1 ?_
    refine at_isub dX12_needed_56 ?_
    refine at_iload_n 1 dX12_needed_57 rfl ?_
    refine at_iand dX12_needed_58 ?_
    refine at_istore [(0, .ref (b + 38)), (1, .int v1), (2, .int v2), (3, .int v3), (4, .int ((v4 - 1) &&& v1))] dX12_needed_59 (Nat.le_of_ble_eq_true rfl) rfl ?_
    refine at_goto 17 dX12_needed_61 (by decide) ?_
    exact hk17 _ _ _ _ _ _ h
  · rw [if_pos c3] at h
    refine at_iload_n 3 dX12_needed_43 rfl ?_
    refine at_if_eq 51 dX12_needed_44 (by decide) (fun c4 => ?_) (fun c4 => ?_)
    · rw [if_pos c4] at h
      refine at_iconst 0 dX12_needed_51 ic_0 ?_
      cases h; exact at_iret rfl (Nat.le_refl _) (Nat.le_refl _) ⟨rfl, rfl⟩ dX12_needed_52
    · rw [if_neg c4] at h
      refine at_iload_n 2 dX12_needed_47 rfl ?_
      refine at_goto 52 dX12_needed_48 (by decide) ?_
      cases h; exact at_iret rfl (Nat.le_refl _) (Nat.le_refl _) ⟨rfl, rfl⟩ dX12_needed_52
set_option maxRecDepth 100000 in
theorem t_X12_needed_17 {D : va_G} {b : Nat} {K : State → Heap → Prop} {sa : Nat → Nat} (hK : sx_Kk b K sa) (N : Nat) {uG uN uD uR uF uP uL uT uA uM uH xA xC xE xF xG xH xI xJ xK xL uO : sx_C} {G : sx_H} (res : Int32 × sx_C × sx_C) : ∀ (n0 : Nat) (v1 : Int32) (v2 : Int32) (v3 : Int32) (v4 : Int32) (xB : sx_C) (xD : sx_C), f_X12_needed_17 N xA n0 v1 v2 v3 v4 xB xD = some res → sx_At D b K YX12_needed (sx_rm 3) (sx_Ex (some (.int res.1)) (sx_hp b uG uN uD uR uF uP uL uT uA uM uH xA (res.2.1) xC (res.2.2) xE xF xG xH xI xJ xK xL uO G)) 17 [(0, .ref (b + 38)), (1, .int v1), (2, .int v2), (3, .int v3), (4, .int v4)] [] (sx_hp b uG uN uD uR uF uP uL uT uA uM uH xA xB xC xD xE xF xG xH xI xJ xK xL uO G) 0 0 := by
  intro n0
  induction n0 with
  | zero => intro _ _ _ _ _ _ h; cases h
  | succ n0 ih =>
    intro v1 v2 v3 v4 xB xD h
    rw [f_X12_needed_17] at h
    refine at_aload_n 0 dX12_needed_17 rfl ?_
    refine at_aload_n 0 dX12_needed_18 rfl ?_
    refine at_getf cl_X12 (by decide) fl_X12_201 hg_38 rfl dX12_needed_19 ?_
    refine at_iload 4 dX12_needed_22 rfl ?_
    refine at_ior dX12_needed_24 ?_
    obtain ⟨q1, hq1, h⟩ := sp_bind h
    refine at_callVi (st := []) hK mt_X12_hangs ml_X12_230 cl_X12 hg_38 (t_X12_hangs hK hq1) rfl rfl (Nat.le_of_ble_eq_true rfl) ⟨Nat.le_of_ble_eq_true rfl, Nat.le_of_ble_eq_true rfl⟩ ⟨Nat.le_refl _, Nat.le_refl _⟩ dX12_needed_25 ?_
    refine at_zeq 38 dX12_needed_28 (by decide) (fun c2 => ?_) (fun c2 => ?_)
    · rw [if_neg c2] at h
      exact t_X12_needed_38 hK N _ ih _ _ _ _ _ _ h
    · rw [if_pos c2] at h
      refine at_iload_n 2 dX12_needed_31 rfl ?_
      refine at_iload 4 dX12_needed_32 rfl ?_
      refine at_iand dX12_needed_34 ?_
      refine at_istore_n [(0, .ref (b + 38)), (1, .int v1), (2, .int (v2 &&& v4)), (3, .int v3), (4, .int v4)] dX12_needed_35 (Nat.le_of_ble_eq_true rfl) rfl ?_
      refine at_iconst 1 dX12_needed_36 ic_1 ?_
      refine at_istore_n [(0, .ref (b + 38)), (1, .int v1), (2, .int (v2 &&& v4)), (3, .int 1), (4, .int v4)] dX12_needed_37 (Nat.le_of_ble_eq_true rfl) rfl ?_
      exact t_X12_needed_38 hK N _ ih _ _ _ _ _ _ h
set_option maxRecDepth 100000 in
theorem t_X12_needed {D : va_G} {b : Nat} {K : State → Heap → Prop} {sa : Nat → Nat} (hK : sx_Kk b K sa) {N : Nat} {uG uN uD uR uF uP uL uT uA uM uH xA xC xE xF xG xH xI xJ xK xL uO : sx_C} {G : sx_H} {xB : sx_C} {xD : sx_C} {res : Int32 × sx_C × sx_C} (h : f_X12_needed N xA xB xD = some res) : sx_Runs D b K yX12_needed YX12_needed (sx_rm 3) [.ref (b + 38)] (sx_hp b uG uN uD uR uF uP uL uT uA uM uH xA xB xC xD xE xF xG xH xI xJ xK xL uO G) (sx_Ex (some (.int res.1)) (sx_hp b uG uN uD uR uF uP uL uT uA uM uH xA (res.2.1) xC (res.2.2) xE xF xG xH xI xJ xK xL uO G)) := by
  rw [f_X12_needed] at h
  refine sx_run (by decide +kernel) rfl rfl (Nat.le_of_ble_eq_true rfl) ?_
  refine at_aload_n 0 dX12_needed_0 rfl ?_
  refine at_iconst 0 dX12_needed_1 ic_0 ?_
  refine at_putf cl_X12 (by decide) fl_X12_73 rfl hg_38 rfl rfl (Nat.le_of_ble_eq_true rfl) hs_38_0 dX12_needed_2 ?_
  refine at_aload_n 0 dX12_needed_5 rfl ?_
  obtain ⟨q5, hq5, h⟩ := sp_bind h
  refine at_callVi (st := []) hK mt_X12_openNow ml_X12_298 cl_X12 hg_38 (t_X12_openNow hK hq5) rfl rfl (Nat.le_of_ble_eq_true rfl) ⟨Nat.le_of_ble_eq_true rfl, Nat.le_of_ble_eq_true rfl⟩ ⟨Nat.le_refl _, Nat.le_refl _⟩ dX12_needed_6 ?_
  refine at_istore_n [(0, .ref (b + 38)), (1, .int q5)] dX12_needed_9 (Nat.le_of_ble_eq_true rfl) rfl ?_
  refine at_iload_n 1 dX12_needed_10 rfl ?_
  refine at_istore_n [(0, .ref (b + 38)), (1, .int q5), (2, .int q5)] dX12_needed_11 (Nat.le_of_ble_eq_true rfl) rfl ?_
  refine at_iconst 0 dX12_needed_12 ic_0 ?_
  refine at_istore_n [(0, .ref (b + 38)), (1, .int q5), (2, .int q5), (3, .int 0)] dX12_needed_13 (Nat.le_of_ble_eq_true rfl) rfl ?_
  refine at_iload_n 1 dX12_needed_14 rfl ?_
  refine at_istore [(0, .ref (b + 38)), (1, .int q5), (2, .int q5), (3, .int 0), (4, .int q5)] dX12_needed_15 (Nat.le_of_ble_eq_true rfl) rfl ?_
  exact t_X12_needed_17 hK N _ N _ _ _ _ _ _ h
set_option maxRecDepth 100000 in
theorem t_X12_alike_62 {D : va_G} {b : Nat} {K : State → Heap → Prop} {sa : Nat → Nat} (hK : sx_Kk b K sa) (N : Nat) {uG uN uD uR uF uP uL uT uA uM uH xA xC xE xF xG xH xI xJ xK xL uO : sx_C} {G : sx_H} (res : Int32 × sx_C × sx_C) : ∀ (n0 : Nat) (v1 : Int32) (v2 : Int32) (v3 : Int32) (v4 : Int32) (xB : sx_C) (xD : sx_C), f_X12_alike_62 N xA n0 v1 v2 v3 v4 xB xD = some res → sx_At D b K YX12_alike (sx_rm 4) (sx_Ex (some (.int res.1)) (sx_hp b uG uN uD uR uF uP uL uT uA uM uH xA (res.2.1) xC (res.2.2) xE xF xG xH xI xJ xK xL uO G)) 62 [(0, .ref (b + 38)), (1, .int v1), (2, .int v2), (3, .int v3), (4, .int v4)] [] (sx_hp b uG uN uD uR uF uP uL uT uA uM uH xA xB xC xD xE xF xG xH xI xJ xK xL uO G) 0 0 := by
  intro n0
  induction n0 with
  | zero => intro _ _ _ _ _ _ h; cases h
  | succ n0 ih =>
    intro v1 v2 v3 v4 xB xD h
    rw [f_X12_alike_62] at h
    refine at_aload_n 0 dX12_alike_62 rfl ?_
    refine at_aload_n 0 dX12_alike_63 rfl ?_
    refine at_getf cl_X12 (by decide) fl_X12_201 hg_38 rfl dX12_alike_64 ?_
    refine at_iload 4 dX12_alike_67 rfl ?_
    refine at_ior dX12_alike_69 ?_
    refine at_iconst 1 dX12_alike_70 ic_1 ?_
    refine at_iload_n 1 dX12_alike_71 rfl ?_
    refine at_ishl dX12_alike_72 ?_
    refine at_ior dX12_alike_73 ?_
    obtain ⟨q1, hq1, h⟩ := sp_bind h
    refine at_callVi (st := []) hK mt_X12_hangs ml_X12_230 cl_X12 hg_38 (t_X12_hangs hK hq1) rfl rfl (Nat.le_of_ble_eq_true rfl) ⟨Nat.le_of_ble_eq_true rfl, Nat.le_of_ble_eq_true rfl⟩ ⟨Nat.le_refl _, Nat.le_refl _⟩ dX12_alike_74 ?_
    refine at_aload_n 0 dX12_alike_77 rfl ?_
    refine at_aload_n 0 dX12_alike_78 rfl ?_
    refine at_getf cl_X12 (by decide) fl_X12_201 hg_38 rfl dX12_alike_79 ?_
    refine at_iload 4 dX12_alike_82 rfl ?_
    refine at_ior dX12_alike_84 ?_
    refine at_iconst 1 dX12_alike_85 ic_1 ?_
    refine at_iload_n 2 dX12_alike_86 rfl ?_
    refine at_ishl dX12_alike_87 ?_
    refine at_ior dX12_alike_88 ?_
    obtain ⟨q2, hq2, h⟩ := sp_bind h
    refine at_callVi (st := [.int (sp_b (q1.1))]) hK mt_X12_hangs ml_X12_230 cl_X12 hg_38 (t_X12_hangs hK hq2) rfl rfl (Nat.le_of_ble_eq_true rfl) ⟨Nat.le_of_ble_eq_true rfl, Nat.le_of_ble_eq_true rfl⟩ ⟨Nat.le_refl _, Nat.le_refl _⟩ dX12_alike_89 ?_
    refine at_icmp_eq 97 dX12_alike_92 (by decide) (fun c3 => ?_) (fun c3 => ?_)
    · rw [if_pos c3] at h
      refine at_iload 4 dX12_alike_97 rfl ?_
      refine at_if_ne 104 dX12_alike_99 (by decide) (fun c4 => ?_) (fun c4 => ?_)
      · rw [if_neg c4] at h
        refine at_iload 4 dX12_alike_104 rfl ?_
        refine at_iconst 1 dX12_alike_106 ic_1 ?_
        refine at_isub dX12_alike_107 ?_
        refine at_iload_n 3 dX12_alike_108 rfl ?_
        refine at_iand dX12_alike_109 ?_
        refine at_istore [(0, .ref (b + 38)), (1, .int v1), (2, .int v2), (3, .int v3), (4, .int ((v4 - 1) &&& v3))] dX12_alike_110 (Nat.le_of_ble_eq_true rfl) rfl ?_
        refine at_goto 62 dX12_alike_112 (by decide) ?_
        exact ih _ _ _ _ _ _ h
      · rw [if_pos c4] at h
        refine at_iconst 1 dX12_alike_102 ic_1 ?_
        cases h; exact at_iret rfl (Nat.le_refl _) (Nat.le_refl _) ⟨rfl, rfl⟩ dX12_alike_103
    · rw [if_neg c3] at h
      refine at_iconst 0 dX12_alike_95 ic_0 ?_
      cases h; exact at_iret rfl (Nat.le_refl _) (Nat.le_refl _) ⟨rfl, rfl⟩ dX12_alike_96
set_option maxRecDepth 100000 in
theorem t_X12_alike {D : va_G} {b : Nat} {K : State → Heap → Prop} {sa : Nat → Nat} (hK : sx_Kk b K sa) {N : Nat} {uG uN uD uR uF uP uL uT uA uM uH xA xC xE xF xG xH xI xJ xK xL uO : sx_C} {G : sx_H} {v1 : Int32} {v2 : Int32} {xB : sx_C} {xD : sx_C} {res : Int32 × sx_C × sx_C} (h : f_X12_alike N xA v1 v2 xB xD = some res) : sx_Runs D b K yX12_alike YX12_alike (sx_rm 4) [.ref (b + 38), .int v1, .int v2] (sx_hp b uG uN uD uR uF uP uL uT uA uM uH xA xB xC xD xE xF xG xH xI xJ xK xL uO G) (sx_Ex (some (.int res.1)) (sx_hp b uG uN uD uR uF uP uL uT uA uM uH xA (res.2.1) xC (res.2.2) xE xF xG xH xI xJ xK xL uO G)) := by
  rw [f_X12_alike] at h
  refine sx_run (by decide +kernel) rfl rfl (Nat.le_of_ble_eq_true rfl) ?_
  refine at_aload_n 0 dX12_alike_0 rfl ?_
  refine at_iconst 0 dX12_alike_1 ic_0 ?_
  refine at_putf cl_X12 (by decide) fl_X12_73 rfl hg_38 rfl rfl (Nat.le_of_ble_eq_true rfl) hs_38_0 dX12_alike_2 ?_
  refine at_aload_n 0 dX12_alike_5 rfl ?_
  refine at_iload_n 1 dX12_alike_6 rfl ?_
  obtain ⟨q5, hq5, h⟩ := sp_bind h
  refine at_callVi (st := []) hK mt_X12_isLine ml_X12_304 cl_X12 hg_38 (t_X12_isLine hK hq5) rfl rfl (Nat.le_of_ble_eq_true rfl) ⟨Nat.le_of_ble_eq_true rfl, Nat.le_of_ble_eq_true rfl⟩ ⟨Nat.le_refl _, Nat.le_refl _⟩ dX12_alike_7 ?_
  refine at_zeq 21 dX12_alike_10 (by decide) (fun c6 => ?_) (fun c6 => ?_)
  · rw [if_neg c6] at h
    refine at_iconst (-1) dX12_alike_21 ic_m1 ?_
    cases h; exact at_iret rfl (Nat.le_refl _) (Nat.le_refl _) ⟨rfl, rfl⟩ dX12_alike_22
  · rw [if_pos c6] at h
    refine at_aload_n 0 dX12_alike_13 rfl ?_
    refine at_iload_n 2 dX12_alike_14 rfl ?_
    obtain ⟨q7, hq7, h⟩ := sp_bind h
    refine at_callVi (st := []) hK mt_X12_isLine ml_X12_304 cl_X12 hg_38 (t_X12_isLine hK hq7) rfl rfl (Nat.le_of_ble_eq_true rfl) ⟨Nat.le_of_ble_eq_true rfl, Nat.le_of_ble_eq_true rfl⟩ ⟨Nat.le_refl _, Nat.le_refl _⟩ dX12_alike_15 ?_
    refine at_zne 23 dX12_alike_18 (by decide) (fun c8 => ?_) (fun c8 => ?_)
    · rw [if_pos c8] at h
      refine at_aload_n 0 dX12_alike_23 rfl ?_
      refine at_iload_n 1 dX12_alike_24 rfl ?_
      obtain ⟨q9, hq9, h⟩ := sp_bind h
      refine at_callVi (st := []) hK mt_X12_isOpen ml_X12_310 cl_X12 hg_38 (t_X12_isOpen hK hq9) rfl rfl (Nat.le_of_ble_eq_true rfl) ⟨Nat.le_of_ble_eq_true rfl, Nat.le_of_ble_eq_true rfl⟩ ⟨Nat.le_refl _, Nat.le_refl _⟩ dX12_alike_25 ?_
      refine at_zeq 39 dX12_alike_28 (by decide) (fun c10 => ?_) (fun c10 => ?_)
      · rw [if_neg c10] at h
        refine at_bipush (-2) dX12_alike_39 bp_m2 ?_
        cases h; exact at_iret rfl (Nat.le_refl _) (Nat.le_refl _) ⟨rfl, rfl⟩ dX12_alike_41
      · rw [if_pos c10] at h
        refine at_aload_n 0 dX12_alike_31 rfl ?_
        refine at_iload_n 2 dX12_alike_32 rfl ?_
        obtain ⟨q11, hq11, h⟩ := sp_bind h
        refine at_callVi (st := []) hK mt_X12_isOpen ml_X12_310 cl_X12 hg_38 (t_X12_isOpen hK hq11) rfl rfl (Nat.le_of_ble_eq_true rfl) ⟨Nat.le_of_ble_eq_true rfl, Nat.le_of_ble_eq_true rfl⟩ ⟨Nat.le_refl _, Nat.le_refl _⟩ dX12_alike_33 ?_
        refine at_zne 42 dX12_alike_36 (by decide) (fun c12 => ?_) (fun c12 => ?_)
        · rw [if_pos c12] at h
          refine at_aload_n 0 dX12_alike_42 rfl ?_
          obtain ⟨q13, hq13, h⟩ := sp_bind h
          refine at_callVi (st := []) hK mt_X12_openNow ml_X12_298 cl_X12 hg_38 (t_X12_openNow hK hq13) rfl rfl (Nat.le_of_ble_eq_true rfl) ⟨Nat.le_of_ble_eq_true rfl, Nat.le_of_ble_eq_true rfl⟩ ⟨Nat.le_refl _, Nat.le_refl _⟩ dX12_alike_43 ?_
          refine at_iconst 1 dX12_alike_46 ic_1 ?_
          refine at_iload_n 1 dX12_alike_47 rfl ?_
          refine at_ishl dX12_alike_48 ?_
          refine at_iconst (-1) dX12_alike_49 ic_m1 ?_
          refine at_ixor dX12_alike_50 ?_
          refine at_iand dX12_alike_51 ?_
          refine at_iconst 1 dX12_alike_52 ic_1 ?_
          refine at_iload_n 2 dX12_alike_53 rfl ?_
          refine at_ishl dX12_alike_54 ?_
          refine at_iconst (-1) dX12_alike_55 ic_m1 ?_
          refine at_ixor dX12_alike_56 ?_
          refine at_iand dX12_alike_57 ?_
          refine at_istore_n [(0, .ref (b + 38)), (1, .int v1), (2, .int v2), (3, .int ((q13 &&& ((sp_shl 1 v1) ^^^ (-1))) &&& ((sp_shl 1 v2) ^^^ (-1))))] dX12_alike_58 (Nat.le_of_ble_eq_true rfl) rfl ?_
          refine at_iload_n 3 dX12_alike_59 rfl ?_
          refine at_istore [(0, .ref (b + 38)), (1, .int v1), (2, .int v2), (3, .int ((q13 &&& ((sp_shl 1 v1) ^^^ (-1))) &&& ((sp_shl 1 v2) ^^^ (-1)))), (4, .int ((q13 &&& ((sp_shl 1 v1) ^^^ (-1))) &&& ((sp_shl 1 v2) ^^^ (-1))))] dX12_alike_60 (Nat.le_of_ble_eq_true rfl) rfl ?_
          exact t_X12_alike_62 hK N _ N _ _ _ _ _ _ h
        · rw [if_neg c12] at h
          refine at_bipush (-2) dX12_alike_39 bp_m2 ?_
          cases h; exact at_iret rfl (Nat.le_refl _) (Nat.le_refl _) ⟨rfl, rfl⟩ dX12_alike_41
    · rw [if_neg c8] at h
      refine at_iconst (-1) dX12_alike_21 ic_m1 ?_
      cases h; exact at_iret rfl (Nat.le_refl _) (Nat.le_refl _) ⟨rfl, rfl⟩ dX12_alike_22
set_option maxRecDepth 100000 in
theorem t_X12_forests_73 {D : va_G} {b : Nat} {K : State → Heap → Prop} {sa : Nat → Nat} (hK : sx_Kk b K sa) (N : Nat) {k44 : Int32 → Int32 → Int32 → Int32 → sx_C → sx_C → sx_C → sx_C → sx_C → Option (Int32 × sx_C × sx_C × sx_C × sx_C × sx_C)} {uG uN uD uR uF uP uL uT uA uM uH xA xC xH xI xJ xK xL uO : sx_C} {G : sx_H} (res : Int32 × sx_C × sx_C × sx_C × sx_C × sx_C) (hk44 : ∀ (v1 : Int32) (v2 : Int32) (v3 : Int32) (v4 : Int32) (xB : sx_C) (xD : sx_C) (xE : sx_C) (xF : sx_C) (xG : sx_C), k44 v1 v2 v3 v4 xB xD xE xF xG = some res → sx_At D b K YX12_forests (sx_rm 3) (sx_Ex (some (.int res.1)) (sx_hp b uG uN uD uR uF uP uL uT uA uM uH xA (res.2.1) xC (res.2.2.1) (res.2.2.2.1) (res.2.2.2.2.1) (res.2.2.2.2.2) xH xI xJ xK xL uO G)) 44 [(0, .ref (b + 38)), (1, .int v1), (2, .int v2), (3, .int v3), (4, .int v4)] [] (sx_hp b uG uN uD uR uF uP uL uT uA uM uH xA xB xC xD xE xF xG xH xI xJ xK xL uO G) 0 0) : ∀ (v1 : Int32) (v2 : Int32) (v3 : Int32) (v4 : Int32) (xB : sx_C) (xD : sx_C) (xE : sx_C) (xF : sx_C) (xG : sx_C), f_X12_forests_73 N k44 xA v1 v2 v3 v4 xB xD xE xF xG = some res → sx_At D b K YX12_forests (sx_rm 3) (sx_Ex (some (.int res.1)) (sx_hp b uG uN uD uR uF uP uL uT uA uM uH xA (res.2.1) xC (res.2.2.1) (res.2.2.2.1) (res.2.2.2.2.1) (res.2.2.2.2.2) xH xI xJ xK xL uO G)) 73 [(0, .ref (b + 38)), (1, .int v1), (2, .int v2), (3, .int v3), (4, .int v4)] [] (sx_hp b uG uN uD uR uF uP uL uT uA uM uH xA xB xC xD xE xF xG xH xI xJ xK xL uO G) 0 0 := by
  intro v1 v2 v3 v4 xB xD xE xF xG h
  rw [f_X12_forests_73] at h
  refine at_iload 4 dX12_forests_73 rfl ?_
  refine at_iload_n 2 dX12_forests_75 rfl ?_
  refine at_isub dX12_forests_76 ?_
  refine at_iload_n 2 dX12_forests_77 rfl ?_
  refine at_iand dX12_forests_78 ?_
  refine at_istore [(0, .ref (b + 38)), (1, .int v1), (2, .int v2), (3, .int v3), (4, .int ((v4 - v2) &&& v2))] dX12_forests_79 (Nat.le_of_ble_eq_true rfl) rfl ?_
  refine at_goto 44 dX12_forests_81 (by decide) ?_
  exact hk44 _ _ _ _ _ _ _ _ _ h
set_option maxRecDepth 100000 in
theorem t_X12_forests_127 {D : va_G} {b : Nat} {K : State → Heap → Prop} {sa : Nat → Nat} (hK : sx_Kk b K sa) (N : Nat) {k103 : Int32 → Int32 → Int32 → Int32 → sx_C → sx_C → sx_C → sx_C → sx_C → Option (Int32 × sx_C × sx_C × sx_C × sx_C × sx_C)} {uG uN uD uR uF uP uL uT uA uM uH xA xC xH xI xJ xK xL uO : sx_C} {G : sx_H} (res : Int32 × sx_C × sx_C × sx_C × sx_C × sx_C) (hk103 : ∀ (v3 : Int32) (v4 : Int32) (v5 : Int32) (v6 : Int32) (xB : sx_C) (xD : sx_C) (xE : sx_C) (xF : sx_C) (xG : sx_C), k103 v3 v4 v5 v6 xB xD xE xF xG = some res → sx_At D b K YX12_forests (sx_rm 3) (sx_Ex (some (.int res.1)) (sx_hp b uG uN uD uR uF uP uL uT uA uM uH xA (res.2.1) xC (res.2.2.1) (res.2.2.2.1) (res.2.2.2.2.1) (res.2.2.2.2.2) xH xI xJ xK xL uO G)) 103 [(0, .ref (b + 38)), (3, .int v3), (4, .int v4), (5, .int v5), (6, .int v6)] [] (sx_hp b uG uN uD uR uF uP uL uT uA uM uH xA xB xC xD xE xF xG xH xI xJ xK xL uO G) 0 0) : ∀ (v3 : Int32) (v4 : Int32) (v5 : Int32) (v6 : Int32) (xB : sx_C) (xD : sx_C) (xE : sx_C) (xF : sx_C) (xG : sx_C), f_X12_forests_127 N k103 xA v3 v4 v5 v6 xB xD xE xF xG = some res → sx_At D b K YX12_forests (sx_rm 3) (sx_Ex (some (.int res.1)) (sx_hp b uG uN uD uR uF uP uL uT uA uM uH xA (res.2.1) xC (res.2.2.1) (res.2.2.2.1) (res.2.2.2.2.1) (res.2.2.2.2.2) xH xI xJ xK xL uO G)) 127 [(0, .ref (b + 38)), (3, .int v3), (4, .int v4), (5, .int v5), (6, .int v6)] [] (sx_hp b uG uN uD uR uF uP uL uT uA uM uH xA xB xC xD xE xF xG xH xI xJ xK xL uO G) 0 0 := by
  intro v3 v4 v5 v6 xB xD xE xF xG h
  rw [f_X12_forests_127] at h
  refine at_iload 4 dX12_forests_127 rfl ?_
  refine at_iload 3 dX12_forests_129 rfl ?_
  refine at_isub dX12_forests_131 ?_
  refine at_iload 3 dX12_forests_132 rfl ?_
  refine at_iand dX12_forests_134 ?_
  refine at_istore [(0, .ref (b + 38)), (3, .int v3), (4, .int v4), (5, .int v5), (6, .int ((v6 - v5) &&& v5))] dX12_forests_135 (Nat.le_of_ble_eq_true rfl) rfl ?_
  refine at_goto 103 dX12_forests_137 (by decide) ?_
  exact hk103 _ _ _ _ _ _ _ _ _ h
set_option maxRecDepth 100000 in
theorem t_X12_forests_103 {D : va_G} {b : Nat} {K : State → Heap → Prop} {sa : Nat → Nat} (hK : sx_Kk b K sa) (N : Nat) {uG uN uD uR uF uP uL uT uA uM uH xA xC xH xI xJ xK xL uO : sx_C} {G : sx_H} (res : Int32 × sx_C × sx_C × sx_C × sx_C × sx_C) : ∀ (n0 : Nat) (v3 : Int32) (v4 : Int32) (v5 : Int32) (v6 : Int32) (xB : sx_C) (xD : sx_C) (xE : sx_C) (xF : sx_C) (xG : sx_C), f_X12_forests_103 N xA n0 v3 v4 v5 v6 xB xD xE xF xG = some res → sx_At D b K YX12_forests (sx_rm 3) (sx_Ex (some (.int res.1)) (sx_hp b uG uN uD uR uF uP uL uT uA uM uH xA (res.2.1) xC (res.2.2.1) (res.2.2.2.1) (res.2.2.2.2.1) (res.2.2.2.2.2) xH xI xJ xK xL uO G)) 103 [(0, .ref (b + 38)), (3, .int v3), (4, .int v4), (5, .int v5), (6, .int v6)] [] (sx_hp b uG uN uD uR uF uP uL uT uA uM uH xA xB xC xD xE xF xG xH xI xJ xK xL uO G) 0 0 := by
  intro n0
  induction n0 with
  | zero => intro _ _ _ _ _ _ _ _ _ h; cases h
  | succ n0 ih =>
    intro v3 v4 v5 v6 xB xD xE xF xG h
    rw [f_X12_forests_103] at h
    refine at_aload_n 0 dX12_forests_103 rfl ?_
    refine at_iload 4 dX12_forests_104 rfl ?_
    obtain ⟨q7, hq7, h⟩ := sp_bind h
    refine at_callVi (st := []) hK mt_X12_isForest ml_X12_233 cl_X12 hg_38 (t_X12_isForest hK hq7) rfl rfl (Nat.le_of_ble_eq_true rfl) ⟨Nat.le_of_ble_eq_true rfl, Nat.le_of_ble_eq_true rfl⟩ ⟨Nat.le_refl _, Nat.le_refl _⟩ dX12_forests_106 ?_
    refine at_zeq 127 dX12_forests_109 (by decide) (fun c8 => ?_) (fun c8 => ?_)
    · rw [if_neg c8] at h
      exact t_X12_forests_127 hK N _ ih _ _ _ _ _ _ _ _ _ h
    · rw [if_pos c8] at h
      refine at_iload 2 dX12_forests_112 rfl ?_
      obtain ⟨q9, hq9, h⟩ := sp_bind h
      refine at_callSi (st := []) hK mt_X12_bits ml_X12_250 (t_X12_bits hK hq9) rfl rfl (Nat.le_of_ble_eq_true rfl) ⟨Nat.le_of_ble_eq_true rfl, Nat.le_of_ble_eq_true rfl⟩ ⟨Nat.le_refl _, Nat.le_refl _⟩ dX12_forests_114 ?_
      refine at_iload 4 dX12_forests_117 rfl ?_
      obtain ⟨q10, hq10, h⟩ := sp_bind h
      refine at_callSi (st := [.int q9]) hK mt_X12_bits ml_X12_250 (t_X12_bits hK hq10) rfl rfl (Nat.le_of_ble_eq_true rfl) ⟨Nat.le_of_ble_eq_true rfl, Nat.le_of_ble_eq_true rfl⟩ ⟨Nat.le_refl _, Nat.le_refl _⟩ dX12_forests_119 ?_
      refine at_iadd dX12_forests_122 ?_
      refine at_iload_n 1 dX12_forests_123 rfl ?_
      refine at_icmp_eq 140 dX12_forests_124 (by decide) (fun c11 => ?_) (fun c11 => ?_)
      · rw [if_pos c11] at h
        refine at_iload 4 dX12_forests_140 rfl ?_
        cases h; exact at_iret rfl (Nat.le_refl _) (Nat.le_refl _) ⟨rfl, rfl⟩ dX12_forests_142
      · rw [if_neg c11] at h
        exact t_X12_forests_127 hK N _ ih _ _ _ _ _ _ _ _ _ h
set_option maxRecDepth 100000 in
theorem t_X12_forests_44 {D : va_G} {b : Nat} {K : State → Heap → Prop} {sa : Nat → Nat} (hK : sx_Kk b K sa) (N : Nat) {uG uN uD uR uF uP uL uT uA uM uH xA xC xH xI xJ xK xL uO : sx_C} {G : sx_H} (res : Int32 × sx_C × sx_C × sx_C × sx_C × sx_C) : ∀ (n0 : Nat) (v1 : Int32) (v2 : Int32) (v3 : Int32) (v4 : Int32) (xB : sx_C) (xD : sx_C) (xE : sx_C) (xF : sx_C) (xG : sx_C), f_X12_forests_44 N xA n0 v1 v2 v3 v4 xB xD xE xF xG = some res → sx_At D b K YX12_forests (sx_rm 3) (sx_Ex (some (.int res.1)) (sx_hp b uG uN uD uR uF uP uL uT uA uM uH xA (res.2.1) xC (res.2.2.1) (res.2.2.2.1) (res.2.2.2.2.1) (res.2.2.2.2.2) xH xI xJ xK xL uO G)) 44 [(0, .ref (b + 38)), (1, .int v1), (2, .int v2), (3, .int v3), (4, .int v4)] [] (sx_hp b uG uN uD uR uF uP uL uT uA uM uH xA xB xC xD xE xF xG xH xI xJ xK xL uO G) 0 0 := by
  intro n0
  induction n0 with
  | zero => intro _ _ _ _ _ _ _ _ _ h; cases h
  | succ n0 ih =>
    intro v1 v2 v3 v4 xB xD xE xF xG h
    rw [f_X12_forests_44] at h
    refine at_aload_n 0 dX12_forests_44 rfl ?_
    refine at_iload 4 dX12_forests_45 rfl ?_
    obtain ⟨q1, hq1, h⟩ := sp_bind h
    refine at_callVi (st := []) hK mt_X12_isForest ml_X12_233 cl_X12 hg_38 (t_X12_isForest hK hq1) rfl rfl (Nat.le_of_ble_eq_true rfl) ⟨Nat.le_of_ble_eq_true rfl, Nat.le_of_ble_eq_true rfl⟩ ⟨Nat.le_refl _, Nat.le_refl _⟩ dX12_forests_47 ?_
    refine at_zeq 73 dX12_forests_50 (by decide) (fun c2 => ?_) (fun c2 => ?_)
    · rw [if_neg c2] at h
      exact t_X12_forests_73 hK N _ ih _ _ _ _ _ _ _ _ _ h
    · rw [if_pos c2] at h
      refine at_iload 4 dX12_forests_53 rfl ?_
      obtain ⟨q3, hq3, h⟩ := sp_bind h
      refine at_callSi (st := []) hK mt_X12_bits ml_X12_250 (t_X12_bits hK hq3) rfl rfl (Nat.le_of_ble_eq_true rfl) ⟨Nat.le_of_ble_eq_true rfl, Nat.le_of_ble_eq_true rfl⟩ ⟨Nat.le_refl _, Nat.le_refl _⟩ dX12_forests_55 ?_
      refine at_aload_n 0 dX12_forests_58 rfl ?_
      refine at_iload_n 2 dX12_forests_59 rfl ?_
      refine at_iload 4 dX12_forests_60 rfl ?_
      refine at_iconst (-1) dX12_forests_62 ic_m1 ?_
      refine at_ixor dX12_forests_63 ?_
      refine at_iand dX12_forests_64 ?_
      obtain ⟨q4, hq4, h⟩ := sp_bind h
      refine at_callVi (st := [.int q3]) hK mt_X12_rank ml_X12_275 cl_X12 hg_38 (t_X12_rank hK hq4) rfl rfl (Nat.le_of_ble_eq_true rfl) ⟨Nat.le_of_ble_eq_true rfl, Nat.le_of_ble_eq_true rfl⟩ ⟨Nat.le_refl _, Nat.le_refl _⟩ dX12_forests_65 ?_
      refine at_iadd dX12_forests_68 ?_
      refine at_iload_n 3 dX12_forests_69 rfl ?_
      refine at_icmp_eq 84 dX12_forests_70 (by decide) (fun c5 => ?_) (fun c5 => ?_)
      · rw [if_pos c5] at h
        refine at_iload_n 1 dX12_forests_84 rfl ?_
        refine at_iconst 1 dX12_forests_85 ic_1 ?_
        refine at_icmp_ne 92 dX12_forests_86 (by decide) (fun c6 => ?_) (fun c6 => ?_)
        · rw [if_neg c6] at h
          refine at_iload_n 2 dX12_forests_92 rfl ?_
          refine at_iload 4 dX12_forests_93 rfl ?_
          refine at_iconst (-1) dX12_forests_95 ic_m1 ?_
          refine at_ixor dX12_forests_96 ?_
          refine at_iand dX12_forests_97 ?_
          refine at_istore [(0, .ref (b + 38)), (1, .int v1), (2, .int v2), (3, .int v3), (4, .int v4), (5, .int (v2 &&& (v4 ^^^ (-1))))] dX12_forests_98 (Nat.le_of_ble_eq_true rfl) rfl ?_
          refine at_iconst 0 dX12_forests_100 ic_0 ?_
          refine at_istore [(0, .ref (b + 38)), (1, .int v1), (2, .int v2), (3, .int v3), (4, .int v4), (5, .int (v2 &&& (v4 ^^^ (-1)))), (6, .int 0)] dX12_forests_101 (Nat.le_of_ble_eq_true rfl) rfl ?_
          refine at_sub [0, 3, 4, 5, 6] [(0, .ref (b + 38)), (3, .int v3), (4, .int v4), (5, .int (v2 &&& (v4 ^^^ (-1)))), (6, .int 0)] rfl ?_
          exact t_X12_forests_103 hK N _ N _ _ _ _ _ _ _ _ _ h
        · rw [if_pos c6] at h
          refine at_iload 4 dX12_forests_89 rfl ?_
          cases h; exact at_iret rfl (Nat.le_refl _) (Nat.le_refl _) ⟨rfl, rfl⟩ dX12_forests_91
      · rw [if_neg c5] at h
        exact t_X12_forests_73 hK N _ ih _ _ _ _ _ _ _ _ _ h
set_option maxRecDepth 100000 in
theorem t_X12_forests {D : va_G} {b : Nat} {K : State → Heap → Prop} {sa : Nat → Nat} (hK : sx_Kk b K sa) {N : Nat} {uG uN uD uR uF uP uL uT uA uM uH xA xC xH xI xJ xK xL uO : sx_C} {G : sx_H} {v1 : Int32} {xB : sx_C} {xD : sx_C} {xE : sx_C} {xF : sx_C} {xG : sx_C} {res : Int32 × sx_C × sx_C × sx_C × sx_C × sx_C} (h : f_X12_forests N xA v1 xB xD xE xF xG = some res) : sx_Runs D b K yX12_forests YX12_forests (sx_rm 3) [.ref (b + 38), .int v1] (sx_hp b uG uN uD uR uF uP uL uT uA uM uH xA xB xC xD xE xF xG xH xI xJ xK xL uO G) (sx_Ex (some (.int res.1)) (sx_hp b uG uN uD uR uF uP uL uT uA uM uH xA (res.2.1) xC (res.2.2.1) (res.2.2.2.1) (res.2.2.2.2.1) (res.2.2.2.2.2) xH xI xJ xK xL uO G)) := by
  rw [f_X12_forests] at h
  refine sx_run (by decide +kernel) rfl rfl (Nat.le_of_ble_eq_true rfl) ?_
  refine at_aload_n 0 dX12_forests_0 rfl ?_
  refine at_iconst 0 dX12_forests_1 ic_0 ?_
  refine at_putf cl_X12 (by decide) fl_X12_73 rfl hg_38 rfl rfl (Nat.le_of_ble_eq_true rfl) hs_38_0 dX12_forests_2 ?_
  refine at_iload_n 1 dX12_forests_5 rfl ?_
  refine at_if_lt 14 dX12_forests_6 (by decide) (fun c12 => ?_) (fun c12 => ?_)
  · rw [if_pos c12] at h
    refine at_iconst (-1) dX12_forests_14 ic_m1 ?_
    cases h; exact at_iret rfl (Nat.le_refl _) (Nat.le_refl _) ⟨rfl, rfl⟩ dX12_forests_15
  · rw [if_neg c12] at h
    refine at_iload_n 1 dX12_forests_9 rfl ?_
    refine at_iconst 2 dX12_forests_10 ic_2 ?_
    refine at_icmp_le 16 dX12_forests_11 (by decide) (fun c13 => ?_) (fun c13 => ?_)
    · rw [if_pos c13] at h
      refine at_aload_n 0 dX12_forests_16 rfl ?_
      refine at_aload_n 0 dX12_forests_17 rfl ?_
      refine at_getf cl_X12 (by decide) fl_X12_201 hg_38 rfl dX12_forests_18 ?_
      obtain ⟨q14, hq14, h⟩ := sp_bind h
      refine at_callVv (st := []) hK mt_X12_laysPlaces ml_X12_256 cl_X12 hg_38 (t_X12_laysPlaces hK hq14) rfl rfl (Nat.le_of_ble_eq_true rfl) ⟨Nat.le_of_ble_eq_true rfl, Nat.le_of_ble_eq_true rfl⟩ ⟨Nat.le_refl _, Nat.le_refl _⟩ dX12_forests_21 ?_
      refine at_aload_n 0 dX12_forests_24 rfl ?_
      obtain ⟨q15, hq15, h⟩ := sp_bind h
      refine at_callVi (st := []) hK mt_X12_openNow ml_X12_298 cl_X12 hg_38 (t_X12_openNow hK hq15) rfl rfl (Nat.le_of_ble_eq_true rfl) ⟨Nat.le_of_ble_eq_true rfl, Nat.le_of_ble_eq_true rfl⟩ ⟨Nat.le_refl _, Nat.le_refl _⟩ dX12_forests_25 ?_
      refine at_istore_n [(0, .ref (b + 38)), (1, .int v1), (2, .int q15)] dX12_forests_28 (Nat.le_of_ble_eq_true rfl) rfl ?_
      refine at_aload_n 0 dX12_forests_29 rfl ?_
      refine at_iload_n 2 dX12_forests_30 rfl ?_
      obtain ⟨q16, hq16, h⟩ := sp_bind h
      refine at_callVi (st := []) hK mt_X12_twoForests ml_X12_253 cl_X12 hg_38 (t_X12_twoForests hK hq16) rfl rfl (Nat.le_of_ble_eq_true rfl) ⟨Nat.le_of_ble_eq_true rfl, Nat.le_of_ble_eq_true rfl⟩ ⟨Nat.le_refl _, Nat.le_refl _⟩ dX12_forests_31 ?_
      refine at_istore_n [(0, .ref (b + 38)), (1, .int v1), (2, .int q15), (3, .int (q16.1))] dX12_forests_34 (Nat.le_of_ble_eq_true rfl) rfl ?_
      refine at_iload_n 1 dX12_forests_35 rfl ?_
      refine at_if_ne 41 dX12_forests_36 (by decide) (fun c17 => ?_) (fun c17 => ?_)
      · rw [if_neg c17] at h
        refine at_iconst 0 dX12_forests_41 ic_0 ?_
        refine at_istore [(0, .ref (b + 38)), (1, .int v1), (2, .int q15), (3, .int (q16.1)), (4, .int 0)] dX12_forests_42 (Nat.le_of_ble_eq_true rfl) rfl ?_
        exact t_X12_forests_44 hK N _ N _ _ _ _ _ _ _ _ _ h
      · rw [if_pos c17] at h
        refine at_iload_n 3 dX12_forests_39 rfl ?_
        cases h; exact at_iret rfl (Nat.le_refl _) (Nat.le_refl _) ⟨rfl, rfl⟩ dX12_forests_40
    · rw [if_neg c13] at h
      refine at_iconst (-1) dX12_forests_14 ic_m1 ?_
      cases h; exact at_iret rfl (Nat.le_refl _) (Nat.le_refl _) ⟨rfl, rfl⟩ dX12_forests_15
set_option maxRecDepth 100000 in
theorem t_X12_idle {D : va_G} {b : Nat} {K : State → Heap → Prop} {sa : Nat → Nat} (hK : sx_Kk b K sa) {N : Nat} {uG uN uD uR uF uP uL uT uA uM uH xA xC xH xI xJ xK xL uO : sx_C} {G : sx_H} {v1 : Int32} {xB : sx_C} {xD : sx_C} {xE : sx_C} {xF : sx_C} {xG : sx_C} {res : Int32 × sx_C × sx_C × sx_C × sx_C × sx_C} (h : f_X12_idle N xA v1 xB xD xE xF xG = some res) : sx_Runs D b K yX12_idle YX12_idle (sx_rm 7) [.ref (b + 38), .int v1] (sx_hp b uG uN uD uR uF uP uL uT uA uM uH xA xB xC xD xE xF xG xH xI xJ xK xL uO G) (sx_Ex (some (.int res.1)) (sx_hp b uG uN uD uR uF uP uL uT uA uM uH xA (res.2.1) xC (res.2.2.1) (res.2.2.2.1) (res.2.2.2.2.1) (res.2.2.2.2.2) xH xI xJ xK xL uO G)) := by
  rw [f_X12_idle] at h
  refine sx_run (by decide +kernel) rfl rfl (Nat.le_of_ble_eq_true rfl) ?_
  refine at_aload_n 0 dX12_idle_0 rfl ?_
  refine at_iconst 0 dX12_idle_1 ic_0 ?_
  refine at_putf cl_X12 (by decide) fl_X12_73 rfl hg_38 rfl rfl (Nat.le_of_ble_eq_true rfl) hs_38_0 dX12_idle_2 ?_
  refine at_aload_n 0 dX12_idle_5 rfl ?_
  refine at_iload_n 1 dX12_idle_6 rfl ?_
  obtain ⟨q1, hq1, h⟩ := sp_bind h
  refine at_callVi (st := []) hK mt_X12_wrongLine ml_X12_379 cl_X12 hg_38 (t_X12_wrongLine hK hq1) rfl rfl (Nat.le_of_ble_eq_true rfl) ⟨Nat.le_of_ble_eq_true rfl, Nat.le_of_ble_eq_true rfl⟩ ⟨Nat.le_refl _, Nat.le_refl _⟩ dX12_idle_7 ?_
  refine at_if_ge 19 dX12_idle_10 (by decide) (fun c2 => ?_) (fun c2 => ?_)
  · rw [if_pos c2] at h
    refine at_aload_n 0 dX12_idle_19 rfl ?_
    refine at_aload_n 0 dX12_idle_20 rfl ?_
    refine at_getf cl_X12 (by decide) fl_X12_201 hg_38 rfl dX12_idle_21 ?_
    refine at_aload_n 0 dX12_idle_24 rfl ?_
    refine at_getf cl_X12 (by decide) fl_X12_204 hg_38 rfl dX12_idle_25 ?_
    obtain ⟨q3, hq3, h⟩ := sp_bind h
    refine at_callVi (st := []) hK mt_X12_outcomeOf ml_X12_326 cl_X12 hg_38 (t_X12_outcomeOf hK hq3) rfl rfl (Nat.le_of_ble_eq_true rfl) ⟨Nat.le_of_ble_eq_true rfl, Nat.le_of_ble_eq_true rfl⟩ ⟨Nat.le_refl _, Nat.le_refl _⟩ dX12_idle_28 ?_
    refine at_istore_n [(0, .ref (b + 38)), (1, .int v1), (2, .int (q3.1))] dX12_idle_31 (Nat.le_of_ble_eq_true rfl) rfl ?_
    refine at_aload_n 0 dX12_idle_32 rfl ?_
    refine at_aload_n 0 dX12_idle_33 rfl ?_
    refine at_getf cl_X12 (by decide) fl_X12_201 hg_38 rfl dX12_idle_34 ?_
    refine at_iconst 1 dX12_idle_37 ic_1 ?_
    refine at_iload_n 1 dX12_idle_38 rfl ?_
    refine at_ishl dX12_idle_39 ?_
    refine at_ior dX12_idle_40 ?_
    refine at_aload_n 0 dX12_idle_41 rfl ?_
    refine at_getf cl_X12 (by decide) fl_X12_204 hg_38 rfl dX12_idle_42 ?_
    obtain ⟨q4, hq4, h⟩ := sp_bind h
    refine at_callVi (st := []) hK mt_X12_outcomeOf ml_X12_326 cl_X12 hg_38 (t_X12_outcomeOf hK hq4) rfl rfl (Nat.le_of_ble_eq_true rfl) ⟨Nat.le_of_ble_eq_true rfl, Nat.le_of_ble_eq_true rfl⟩ ⟨Nat.le_refl _, Nat.le_refl _⟩ dX12_idle_45 ?_
    refine at_iload_n 2 dX12_idle_48 rfl ?_
    refine at_icmp_ne 76 dX12_idle_49 (by decide) (fun c5 => ?_) (fun c5 => ?_)
    · rw [if_neg c5] at h
      refine at_iconst 0 dX12_idle_76 ic_0 ?_
      cases h; exact at_iret rfl (Nat.le_refl _) (Nat.le_refl _) ⟨rfl, rfl⟩ dX12_idle_77
    · rw [if_pos c5] at h
      refine at_aload_n 0 dX12_idle_52 rfl ?_
      refine at_aload_n 0 dX12_idle_53 rfl ?_
      refine at_getf cl_X12 (by decide) fl_X12_201 hg_38 rfl dX12_idle_54 ?_
      refine at_aload_n 0 dX12_idle_57 rfl ?_
      refine at_getf cl_X12 (by decide) fl_X12_204 hg_38 rfl dX12_idle_58 ?_
      refine at_iconst 1 dX12_idle_61 ic_1 ?_
      refine at_iload_n 1 dX12_idle_62 rfl ?_
      refine at_ishl dX12_idle_63 ?_
      refine at_ior dX12_idle_64 ?_
      obtain ⟨q6, hq6, h⟩ := sp_bind h
      refine at_callVi (st := []) hK mt_X12_outcomeOf ml_X12_326 cl_X12 hg_38 (t_X12_outcomeOf hK hq6) rfl rfl (Nat.le_of_ble_eq_true rfl) ⟨Nat.le_of_ble_eq_true rfl, Nat.le_of_ble_eq_true rfl⟩ ⟨Nat.le_refl _, Nat.le_refl _⟩ dX12_idle_65 ?_
      refine at_iload_n 2 dX12_idle_68 rfl ?_
      refine at_icmp_ne 76 dX12_idle_69 (by decide) (fun c7 => ?_) (fun c7 => ?_)
      · rw [if_neg c7] at h
        refine at_iconst 0 dX12_idle_76 ic_0 ?_
        cases h; exact at_iret rfl (Nat.le_refl _) (Nat.le_refl _) ⟨rfl, rfl⟩ dX12_idle_77
      · rw [if_pos c7] at h
        refine at_iconst 1 dX12_idle_72 ic_1 ?_
        refine at_goto 77 dX12_idle_73 (by decide) ?_
        cases h; exact at_iret rfl (Nat.le_refl _) (Nat.le_refl _) ⟨rfl, rfl⟩ dX12_idle_77
  · rw [if_neg c2] at h
    refine at_aload_n 0 dX12_idle_13 rfl ?_
    refine at_iload_n 1 dX12_idle_14 rfl ?_
    obtain ⟨q8, hq8, h⟩ := sp_bind h
    refine at_callVi (st := []) hK mt_X12_wrongLine ml_X12_379 cl_X12 hg_38 (t_X12_wrongLine hK hq8) rfl rfl (Nat.le_of_ble_eq_true rfl) ⟨Nat.le_of_ble_eq_true rfl, Nat.le_of_ble_eq_true rfl⟩ ⟨Nat.le_refl _, Nat.le_refl _⟩ dX12_idle_15 ?_
    cases h; exact at_iret rfl (Nat.le_refl _) (Nat.le_refl _) ⟨rfl, rfl⟩ dX12_idle_18
set_option maxRecDepth 100000 in
theorem t_X12_ifLine {D : va_G} {b : Nat} {K : State → Heap → Prop} {sa : Nat → Nat} (hK : sx_Kk b K sa) {N : Nat} {uG uN uD uR uF uP uL uT uA uM uH xA xC xH xI xJ xK xL uO : sx_C} {G : sx_H} {v1 : Int32} {v2 : Int32} {xB : sx_C} {xD : sx_C} {xE : sx_C} {xF : sx_C} {xG : sx_C} {res : Int32 × sx_C × sx_C × sx_C × sx_C × sx_C} (h : f_X12_ifLine N xA v1 v2 xB xD xE xF xG = some res) : sx_Runs D b K yX12_ifLine YX12_ifLine (sx_rm 7) [.ref (b + 38), .int v1, .int v2] (sx_hp b uG uN uD uR uF uP uL uT uA uM uH xA xB xC xD xE xF xG xH xI xJ xK xL uO G) (sx_Ex (some (.int res.1)) (sx_hp b uG uN uD uR uF uP uL uT uA uM uH xA (res.2.1) xC (res.2.2.1) (res.2.2.2.1) (res.2.2.2.2.1) (res.2.2.2.2.2) xH xI xJ xK xL uO G)) := by
  rw [f_X12_ifLine] at h
  refine sx_run (by decide +kernel) rfl rfl (Nat.le_of_ble_eq_true rfl) ?_
  refine at_aload_n 0 dX12_ifLine_0 rfl ?_
  refine at_iconst 0 dX12_ifLine_1 ic_0 ?_
  refine at_putf cl_X12 (by decide) fl_X12_73 rfl hg_38 rfl rfl (Nat.le_of_ble_eq_true rfl) hs_38_0 dX12_ifLine_2 ?_
  refine at_aload_n 0 dX12_ifLine_5 rfl ?_
  refine at_iload_n 1 dX12_ifLine_6 rfl ?_
  obtain ⟨q1, hq1, h⟩ := sp_bind h
  refine at_callVi (st := []) hK mt_X12_isLine ml_X12_304 cl_X12 hg_38 (t_X12_isLine hK hq1) rfl rfl (Nat.le_of_ble_eq_true rfl) ⟨Nat.le_of_ble_eq_true rfl, Nat.le_of_ble_eq_true rfl⟩ ⟨Nat.le_refl _, Nat.le_refl _⟩ dX12_ifLine_7 ?_
  refine at_zeq 22 dX12_ifLine_10 (by decide) (fun c2 => ?_) (fun c2 => ?_)
  · rw [if_neg c2] at h
    refine at_iconst (-1) dX12_ifLine_22 ic_m1 ?_
    cases h; exact at_iret rfl (Nat.le_refl _) (Nat.le_refl _) ⟨rfl, rfl⟩ dX12_ifLine_23
  · rw [if_pos c2] at h
    refine at_iload_n 2 dX12_ifLine_13 rfl ?_
    refine at_if_lt 22 dX12_ifLine_14 (by decide) (fun c3 => ?_) (fun c3 => ?_)
    · rw [if_pos c3] at h
      refine at_iconst (-1) dX12_ifLine_22 ic_m1 ?_
      cases h; exact at_iret rfl (Nat.le_refl _) (Nat.le_refl _) ⟨rfl, rfl⟩ dX12_ifLine_23
    · rw [if_neg c3] at h
      refine at_iload_n 2 dX12_ifLine_17 rfl ?_
      refine at_iconst 1 dX12_ifLine_18 ic_1 ?_
      refine at_icmp_le 24 dX12_ifLine_19 (by decide) (fun c4 => ?_) (fun c4 => ?_)
      · rw [if_pos c4] at h
        refine at_aload_n 0 dX12_ifLine_24 rfl ?_
        refine at_iload_n 1 dX12_ifLine_25 rfl ?_
        obtain ⟨q5, hq5, h⟩ := sp_bind h
        refine at_callVi (st := []) hK mt_X12_isOpen ml_X12_310 cl_X12 hg_38 (t_X12_isOpen hK hq5) rfl rfl (Nat.le_of_ble_eq_true rfl) ⟨Nat.le_of_ble_eq_true rfl, Nat.le_of_ble_eq_true rfl⟩ ⟨Nat.le_refl _, Nat.le_refl _⟩ dX12_ifLine_26 ?_
        refine at_zne 35 dX12_ifLine_29 (by decide) (fun c6 => ?_) (fun c6 => ?_)
        · rw [if_pos c6] at h
          refine at_iload_n 2 dX12_ifLine_35 rfl ?_
          refine at_if_ne 58 dX12_ifLine_36 (by decide) (fun c7 => ?_) (fun c7 => ?_)
          · rw [if_neg c7] at h
            refine at_aload_n 0 dX12_ifLine_58 rfl ?_
            refine at_aload_n 0 dX12_ifLine_59 rfl ?_
            refine at_getf cl_X12 (by decide) fl_X12_201 hg_38 rfl dX12_ifLine_60 ?_
            refine at_aload_n 0 dX12_ifLine_63 rfl ?_
            refine at_getf cl_X12 (by decide) fl_X12_204 hg_38 rfl dX12_ifLine_64 ?_
            refine at_iconst 1 dX12_ifLine_67 ic_1 ?_
            refine at_iload_n 1 dX12_ifLine_68 rfl ?_
            refine at_ishl dX12_ifLine_69 ?_
            refine at_ior dX12_ifLine_70 ?_
            obtain ⟨q8, hq8, h⟩ := sp_bind h
            refine at_callVi (st := []) hK mt_X12_outcomeOf ml_X12_326 cl_X12 hg_38 (t_X12_outcomeOf hK hq8) rfl rfl (Nat.le_of_ble_eq_true rfl) ⟨Nat.le_of_ble_eq_true rfl, Nat.le_of_ble_eq_true rfl⟩ ⟨Nat.le_refl _, Nat.le_refl _⟩ dX12_ifLine_71 ?_
            cases h; exact at_iret rfl (Nat.le_refl _) (Nat.le_refl _) ⟨rfl, rfl⟩ dX12_ifLine_74
          · rw [if_pos c7] at h
            refine at_aload_n 0 dX12_ifLine_39 rfl ?_
            refine at_aload_n 0 dX12_ifLine_40 rfl ?_
            refine at_getf cl_X12 (by decide) fl_X12_201 hg_38 rfl dX12_ifLine_41 ?_
            refine at_iconst 1 dX12_ifLine_44 ic_1 ?_
            refine at_iload_n 1 dX12_ifLine_45 rfl ?_
            refine at_ishl dX12_ifLine_46 ?_
            refine at_ior dX12_ifLine_47 ?_
            refine at_aload_n 0 dX12_ifLine_48 rfl ?_
            refine at_getf cl_X12 (by decide) fl_X12_204 hg_38 rfl dX12_ifLine_49 ?_
            obtain ⟨q9, hq9, h⟩ := sp_bind h
            refine at_callVi (st := []) hK mt_X12_outcomeOf ml_X12_326 cl_X12 hg_38 (t_X12_outcomeOf hK hq9) rfl rfl (Nat.le_of_ble_eq_true rfl) ⟨Nat.le_of_ble_eq_true rfl, Nat.le_of_ble_eq_true rfl⟩ ⟨Nat.le_refl _, Nat.le_refl _⟩ dX12_ifLine_52 ?_
            refine at_goto 74 dX12_ifLine_55 (by decide) ?_
            cases h; exact at_iret rfl (Nat.le_refl _) (Nat.le_refl _) ⟨rfl, rfl⟩ dX12_ifLine_74
        · rw [if_neg c6] at h
          refine at_bipush (-2) dX12_ifLine_32 bp_m2 ?_
          cases h; exact at_iret rfl (Nat.le_refl _) (Nat.le_refl _) ⟨rfl, rfl⟩ dX12_ifLine_34
      · rw [if_neg c4] at h
        refine at_iconst (-1) dX12_ifLine_22 ic_m1 ?_
        cases h; exact at_iret rfl (Nat.le_refl _) (Nat.le_refl _) ⟨rfl, rfl⟩ dX12_ifLine_23
set_option maxRecDepth 100000 in
theorem t_X12_more {D : va_G} {b : Nat} {K : State → Heap → Prop} {sa : Nat → Nat} (hK : sx_Kk b K sa) {uG uN uD uR uF uP uL uT uA uM uH xB xC xD xE xF xG xH xI xJ xK xL uO : sx_C} {G : sx_H} {v1 : Int32} {v2 : Int32} {xA : sx_C} {res : sx_C} (h : f_X12_more v1 v2 xA = some res) : sx_Runs D b K yX12_more YX12_more (sx_rm 0) [.ref (b + 38), .int v1, .int v2] (sx_hp b uG uN uD uR uF uP uL uT uA uM uH xA xB xC xD xE xF xG xH xI xJ xK xL uO G) (sx_Ex none (sx_hp b uG uN uD uR uF uP uL uT uA uM uH res xB xC xD xE xF xG xH xI xJ xK xL uO G)) := by
  rw [f_X12_more] at h
  refine sx_run (by decide +kernel) rfl rfl (Nat.le_of_ble_eq_true rfl) ?_
  refine at_aload_n 0 dX12_more_0 rfl ?_
  refine at_getf cl_X12 (by decide) fl_X12_13 hg_38 rfl dX12_more_1 ?_
  refine at_aload_n 0 dX12_more_4 rfl ?_
  refine at_getf cl_X12 (by decide) fl_X12_198 hg_38 rfl dX12_more_5 ?_
  refine at_iload_n 1 dX12_more_8 rfl ?_
  obtain ⟨hi1, h⟩ := sp_chk h
  refine at_iast hg_40 hi1 hs_40 dX12_more_9 ?_
  refine at_aload_n 0 dX12_more_10 rfl ?_
  refine at_getf cl_X12 (by decide) fl_X12_16 hg_38 rfl dX12_more_11 ?_
  refine at_aload_n 0 dX12_more_14 rfl ?_
  refine at_getf cl_X12 (by decide) fl_X12_198 hg_38 rfl dX12_more_15 ?_
  refine at_iload_n 2 dX12_more_18 rfl ?_
  obtain ⟨hi2, h⟩ := sp_chk h
  refine at_iast hg_41 hi2 hs_41 dX12_more_19 ?_
  refine at_aload_n 0 dX12_more_20 rfl ?_
  refine at_dup dX12_more_21 rfl ?_
  refine at_getf cl_X12 (by decide) fl_X12_198 hg_38 rfl dX12_more_22 ?_
  refine at_iconst 1 dX12_more_25 ic_1 ?_
  refine at_iadd dX12_more_26 ?_
  refine at_putf cl_X12 (by decide) fl_X12_198 rfl hg_38 rfl rfl (Nat.le_of_ble_eq_true rfl) hs_38_4 dX12_more_27 ?_
  cases h; exact at_vret rfl (Nat.le_refl _) (Nat.le_refl _) ⟨rfl, rfl⟩ dX12_more_30
set_option maxRecDepth 100000 in
theorem t_X12_ifMore {D : va_G} {b : Nat} {K : State → Heap → Prop} {sa : Nat → Nat} (hK : sx_Kk b K sa) {N : Nat} {uG uN uD uR uF uP uL uT uA uM uH xC xH xI xJ xK xL uO : sx_C} {G : sx_H} {v1 : Int32} {v2 : Int32} {xA : sx_C} {xB : sx_C} {xD : sx_C} {xE : sx_C} {xF : sx_C} {xG : sx_C} {res : Int32 × sx_C × sx_C × sx_C × sx_C × sx_C × sx_C} (h : f_X12_ifMore N v1 v2 xA xB xD xE xF xG = some res) : sx_Runs D b K yX12_ifMore YX12_ifMore (sx_rm 7) [.ref (b + 38), .int v1, .int v2] (sx_hp b uG uN uD uR uF uP uL uT uA uM uH xA xB xC xD xE xF xG xH xI xJ xK xL uO G) (sx_Ex (some (.int res.1)) (sx_hp b uG uN uD uR uF uP uL uT uA uM uH (res.2.1) (res.2.2.1) xC (res.2.2.2.1) (res.2.2.2.2.1) (res.2.2.2.2.2.1) (res.2.2.2.2.2.2) xH xI xJ xK xL uO G)) := by
  rw [f_X12_ifMore] at h
  refine sx_run (by decide +kernel) rfl rfl (Nat.le_of_ble_eq_true rfl) ?_
  refine at_aload_n 0 dX12_ifMore_0 rfl ?_
  refine at_iconst 0 dX12_ifMore_1 ic_0 ?_
  refine at_putf cl_X12 (by decide) fl_X12_73 rfl hg_38 rfl rfl (Nat.le_of_ble_eq_true rfl) hs_38_0 dX12_ifMore_2 ?_
  refine at_aload_n 0 dX12_ifMore_5 rfl ?_
  refine at_iload_n 1 dX12_ifMore_6 rfl ?_
  obtain ⟨q1, hq1, h⟩ := sp_bind h
  refine at_callVi (st := []) hK mt_X12_isKnot ml_X12_307 cl_X12 hg_38 (t_X12_isKnot hK hq1) rfl rfl (Nat.le_of_ble_eq_true rfl) ⟨Nat.le_of_ble_eq_true rfl, Nat.le_of_ble_eq_true rfl⟩ ⟨Nat.le_refl _, Nat.le_refl _⟩ dX12_ifMore_7 ?_
  refine at_zeq 26 dX12_ifMore_10 (by decide) (fun c2 => ?_) (fun c2 => ?_)
  · rw [if_neg c2] at h
    refine at_iconst (-1) dX12_ifMore_26 ic_m1 ?_
    cases h; exact at_iret rfl (Nat.le_refl _) (Nat.le_refl _) ⟨rfl, rfl⟩ dX12_ifMore_27
  · rw [if_pos c2] at h
    refine at_aload_n 0 dX12_ifMore_13 rfl ?_
    refine at_iload_n 2 dX12_ifMore_14 rfl ?_
    obtain ⟨q3, hq3, h⟩ := sp_bind h
    refine at_callVi (st := []) hK mt_X12_isKnot ml_X12_307 cl_X12 hg_38 (t_X12_isKnot hK hq3) rfl rfl (Nat.le_of_ble_eq_true rfl) ⟨Nat.le_of_ble_eq_true rfl, Nat.le_of_ble_eq_true rfl⟩ ⟨Nat.le_refl _, Nat.le_refl _⟩ dX12_ifMore_15 ?_
    refine at_zeq 26 dX12_ifMore_18 (by decide) (fun c4 => ?_) (fun c4 => ?_)
    · rw [if_neg c4] at h
      refine at_iconst (-1) dX12_ifMore_26 ic_m1 ?_
      cases h; exact at_iret rfl (Nat.le_refl _) (Nat.le_refl _) ⟨rfl, rfl⟩ dX12_ifMore_27
    · rw [if_pos c4] at h
      refine at_iload_n 1 dX12_ifMore_21 rfl ?_
      refine at_iload_n 2 dX12_ifMore_22 rfl ?_
      refine at_icmp_ne 28 dX12_ifMore_23 (by decide) (fun c5 => ?_) (fun c5 => ?_)
      · rw [if_neg c5] at h
        refine at_aload_n 0 dX12_ifMore_28 rfl ?_
        refine at_iload_n 1 dX12_ifMore_29 rfl ?_
        refine at_iload_n 2 dX12_ifMore_30 rfl ?_
        obtain ⟨q6, hq6, h⟩ := sp_bind h
        refine at_callVv (st := []) hK mt_X12_more ml_X12_385 cl_X12 hg_38 (t_X12_more hK hq6) rfl rfl (Nat.le_of_ble_eq_true rfl) ⟨Nat.le_of_ble_eq_true rfl, Nat.le_of_ble_eq_true rfl⟩ ⟨Nat.le_refl _, Nat.le_refl _⟩ dX12_ifMore_31 ?_
        refine at_aload_n 0 dX12_ifMore_34 rfl ?_
        refine at_aload_n 0 dX12_ifMore_35 rfl ?_
        refine at_getf cl_X12 (by decide) fl_X12_201 hg_38 rfl dX12_ifMore_36 ?_
        refine at_aload_n 0 dX12_ifMore_39 rfl ?_
        refine at_getf cl_X12 (by decide) fl_X12_204 hg_38 rfl dX12_ifMore_40 ?_
        obtain ⟨q7, hq7, h⟩ := sp_bind h
        refine at_callVi (st := []) hK mt_X12_outcomeOf ml_X12_326 cl_X12 hg_38 (t_X12_outcomeOf hK hq7) rfl rfl (Nat.le_of_ble_eq_true rfl) ⟨Nat.le_of_ble_eq_true rfl, Nat.le_of_ble_eq_true rfl⟩ ⟨Nat.le_refl _, Nat.le_refl _⟩ dX12_ifMore_43 ?_
        refine at_istore_n [(0, .ref (b + 38)), (1, .int v1), (2, .int v2), (3, .int (q7.1))] dX12_ifMore_46 (Nat.le_of_ble_eq_true rfl) rfl ?_
        refine at_aload_n 0 dX12_ifMore_47 rfl ?_
        refine at_dup dX12_ifMore_48 rfl ?_
        refine at_getf cl_X12 (by decide) fl_X12_198 hg_38 rfl dX12_ifMore_49 ?_
        refine at_iconst 1 dX12_ifMore_52 ic_1 ?_
        refine at_isub dX12_ifMore_53 ?_
        refine at_putf cl_X12 (by decide) fl_X12_198 rfl hg_38 rfl rfl (Nat.le_of_ble_eq_true rfl) hs_38_4 dX12_ifMore_54 ?_
        refine at_iload_n 3 dX12_ifMore_57 rfl ?_
        cases h; exact at_iret rfl (Nat.le_refl _) (Nat.le_refl _) ⟨rfl, rfl⟩ dX12_ifMore_58
      · rw [if_pos c5] at h
        refine at_iconst (-1) dX12_ifMore_26 ic_m1 ?_
        cases h; exact at_iret rfl (Nat.le_refl _) (Nat.le_refl _) ⟨rfl, rfl⟩ dX12_ifMore_27
set_option maxRecDepth 100000 in
theorem t_X12_ifEnds {D : va_G} {b : Nat} {K : State → Heap → Prop} {sa : Nat → Nat} (hK : sx_Kk b K sa) {N : Nat} {uG uN uD uR uF uP uL uT uA uM uH xC xH xI xJ xK xL uO : sx_C} {G : sx_H} {v1 : Int32} {v2 : Int32} {xA : sx_C} {xB : sx_C} {xD : sx_C} {xE : sx_C} {xF : sx_C} {xG : sx_C} {res : Int32 × sx_C × sx_C × sx_C × sx_C × sx_C × sx_C} (h : f_X12_ifEnds N v1 v2 xA xB xD xE xF xG = some res) : sx_Runs D b K yX12_ifEnds YX12_ifEnds (sx_rm 7) [.ref (b + 38), .int v1, .int v2] (sx_hp b uG uN uD uR uF uP uL uT uA uM uH xA xB xC xD xE xF xG xH xI xJ xK xL uO G) (sx_Ex (some (.int res.1)) (sx_hp b uG uN uD uR uF uP uL uT uA uM uH (res.2.1) (res.2.2.1) xC (res.2.2.2.1) (res.2.2.2.2.1) (res.2.2.2.2.2.1) (res.2.2.2.2.2.2) xH xI xJ xK xL uO G)) := by
  rw [f_X12_ifEnds] at h
  refine sx_run (by decide +kernel) rfl rfl (Nat.le_of_ble_eq_true rfl) ?_
  refine at_aload_n 0 dX12_ifEnds_0 rfl ?_
  refine at_iconst 0 dX12_ifEnds_1 ic_0 ?_
  refine at_putf cl_X12 (by decide) fl_X12_73 rfl hg_38 rfl rfl (Nat.le_of_ble_eq_true rfl) hs_38_0 dX12_ifEnds_2 ?_
  refine at_aload_n 0 dX12_ifEnds_5 rfl ?_
  refine at_iload_n 1 dX12_ifEnds_6 rfl ?_
  obtain ⟨q1, hq1, h⟩ := sp_bind h
  refine at_callVi (st := []) hK mt_X12_isKnot ml_X12_307 cl_X12 hg_38 (t_X12_isKnot hK hq1) rfl rfl (Nat.le_of_ble_eq_true rfl) ⟨Nat.le_of_ble_eq_true rfl, Nat.le_of_ble_eq_true rfl⟩ ⟨Nat.le_refl _, Nat.le_refl _⟩ dX12_ifEnds_7 ?_
  refine at_zeq 26 dX12_ifEnds_10 (by decide) (fun c2 => ?_) (fun c2 => ?_)
  · rw [if_neg c2] at h
    refine at_iconst (-1) dX12_ifEnds_26 ic_m1 ?_
    cases h; exact at_iret rfl (Nat.le_refl _) (Nat.le_refl _) ⟨rfl, rfl⟩ dX12_ifEnds_27
  · rw [if_pos c2] at h
    refine at_aload_n 0 dX12_ifEnds_13 rfl ?_
    refine at_iload_n 2 dX12_ifEnds_14 rfl ?_
    obtain ⟨q3, hq3, h⟩ := sp_bind h
    refine at_callVi (st := []) hK mt_X12_isKnot ml_X12_307 cl_X12 hg_38 (t_X12_isKnot hK hq3) rfl rfl (Nat.le_of_ble_eq_true rfl) ⟨Nat.le_of_ble_eq_true rfl, Nat.le_of_ble_eq_true rfl⟩ ⟨Nat.le_refl _, Nat.le_refl _⟩ dX12_ifEnds_15 ?_
    refine at_zeq 26 dX12_ifEnds_18 (by decide) (fun c4 => ?_) (fun c4 => ?_)
    · rw [if_neg c4] at h
      refine at_iconst (-1) dX12_ifEnds_26 ic_m1 ?_
      cases h; exact at_iret rfl (Nat.le_refl _) (Nat.le_refl _) ⟨rfl, rfl⟩ dX12_ifEnds_27
    · rw [if_pos c4] at h
      refine at_iload_n 1 dX12_ifEnds_21 rfl ?_
      refine at_iload_n 2 dX12_ifEnds_22 rfl ?_
      refine at_icmp_ne 28 dX12_ifEnds_23 (by decide) (fun c5 => ?_) (fun c5 => ?_)
      · rw [if_neg c5] at h
        refine at_aload_n 0 dX12_ifEnds_28 rfl ?_
        refine at_getf cl_X12 (by decide) fl_X12_207 hg_38 rfl dX12_ifEnds_29 ?_
        refine at_istore_n [(0, .ref (b + 38)), (1, .int v1), (2, .int v2), (3, .int (gi xA 9))] dX12_ifEnds_32 (Nat.le_of_ble_eq_true rfl) rfl ?_
        refine at_aload_n 0 dX12_ifEnds_33 rfl ?_
        refine at_getf cl_X12 (by decide) fl_X12_67 hg_38 rfl dX12_ifEnds_34 ?_
        refine at_istore [(0, .ref (b + 38)), (1, .int v1), (2, .int v2), (3, .int (gi xA 9)), (4, .int (gi xA 10))] dX12_ifEnds_37 (Nat.le_of_ble_eq_true rfl) rfl ?_
        refine at_aload_n 0 dX12_ifEnds_39 rfl ?_
        refine at_iload_n 1 dX12_ifEnds_40 rfl ?_
        refine at_putf cl_X12 (by decide) fl_X12_207 rfl hg_38 rfl rfl (Nat.le_of_ble_eq_true rfl) hs_38_9 dX12_ifEnds_41 ?_
        refine at_aload_n 0 dX12_ifEnds_44 rfl ?_
        refine at_iload_n 2 dX12_ifEnds_45 rfl ?_
        refine at_putf cl_X12 (by decide) fl_X12_67 rfl hg_38 rfl rfl (Nat.le_of_ble_eq_true rfl) hs_38_10 dX12_ifEnds_46 ?_
        refine at_aload_n 0 dX12_ifEnds_49 rfl ?_
        refine at_aload_n 0 dX12_ifEnds_50 rfl ?_
        refine at_getf cl_X12 (by decide) fl_X12_201 hg_38 rfl dX12_ifEnds_51 ?_
        refine at_aload_n 0 dX12_ifEnds_54 rfl ?_
        refine at_getf cl_X12 (by decide) fl_X12_204 hg_38 rfl dX12_ifEnds_55 ?_
        obtain ⟨q6, hq6, h⟩ := sp_bind h
        refine at_callVi (st := []) hK mt_X12_outcomeOf ml_X12_326 cl_X12 hg_38 (t_X12_outcomeOf hK hq6) rfl rfl (Nat.le_of_ble_eq_true rfl) ⟨Nat.le_of_ble_eq_true rfl, Nat.le_of_ble_eq_true rfl⟩ ⟨Nat.le_refl _, Nat.le_refl _⟩ dX12_ifEnds_58 ?_
        refine at_istore [(0, .ref (b + 38)), (1, .int v1), (2, .int v2), (3, .int (gi xA 9)), (4, .int (gi xA 10)), (5, .int (q6.1))] dX12_ifEnds_61 (Nat.le_of_ble_eq_true rfl) rfl ?_
        refine at_aload_n 0 dX12_ifEnds_63 rfl ?_
        refine at_iload_n 3 dX12_ifEnds_64 rfl ?_
        refine at_putf cl_X12 (by decide) fl_X12_207 rfl hg_38 rfl rfl (Nat.le_of_ble_eq_true rfl) hs_38_9 dX12_ifEnds_65 ?_
        refine at_aload_n 0 dX12_ifEnds_68 rfl ?_
        refine at_iload 4 dX12_ifEnds_69 rfl ?_
        refine at_putf cl_X12 (by decide) fl_X12_67 rfl hg_38 rfl rfl (Nat.le_of_ble_eq_true rfl) hs_38_10 dX12_ifEnds_71 ?_
        refine at_iload 5 dX12_ifEnds_74 rfl ?_
        cases h; exact at_iret rfl (Nat.le_refl _) (Nat.le_refl _) ⟨rfl, rfl⟩ dX12_ifEnds_76
      · rw [if_pos c5] at h
        refine at_iconst (-1) dX12_ifEnds_26 ic_m1 ?_
        cases h; exact at_iret rfl (Nat.le_refl _) (Nat.le_refl _) ⟨rfl, rfl⟩ dX12_ifEnds_27
set_option maxRecDepth 100000 in
theorem t_X12_lacks_10 {D : va_G} {b : Nat} {K : State → Heap → Prop} {sa : Nat → Nat} (hK : sx_Kk b K sa) (N : Nat) {uG uN uD uR uF uP uL uT uA uM uH xC xH xI xJ xK xL uO : sx_C} {G : sx_H} (res : Int32 × sx_C × sx_C × sx_C × sx_C × sx_C × sx_C) : ∀ (n0 : Nat) (v1 : Int32) (xA : sx_C) (xB : sx_C) (xD : sx_C) (xE : sx_C) (xF : sx_C) (xG : sx_C), f_X12_lacks_10 N n0 v1 xA xB xD xE xF xG = some res → sx_At D b K YX12_lacks (sx_rm 5) (sx_Ex (some (.int res.1)) (sx_hp b uG uN uD uR uF uP uL uT uA uM uH (res.2.1) (res.2.2.1) xC (res.2.2.2.1) (res.2.2.2.2.1) (res.2.2.2.2.2.1) (res.2.2.2.2.2.2) xH xI xJ xK xL uO G)) 10 [(0, .ref (b + 38)), (1, .int v1)] [] (sx_hp b uG uN uD uR uF uP uL uT uA uM uH xA xB xC xD xE xF xG xH xI xJ xK xL uO G) 0 0 := by
  intro n0
  induction n0 with
  | zero => intro _ _ _ _ _ _ _ h; cases h
  | succ n0 ih =>
    intro v1 xA xB xD xE xF xG h
    rw [f_X12_lacks_10] at h
    refine at_aload_n 0 dX12_lacks_10 rfl ?_
    refine at_aload_n 0 dX12_lacks_11 rfl ?_
    refine at_getf cl_X12 (by decide) fl_X12_201 hg_38 rfl dX12_lacks_12 ?_
    refine at_aload_n 0 dX12_lacks_15 rfl ?_
    refine at_getf cl_X12 (by decide) fl_X12_204 hg_38 rfl dX12_lacks_16 ?_
    obtain ⟨q1, hq1, h⟩ := sp_bind h
    refine at_callVi (st := []) hK mt_X12_isSafe ml_X12_269 cl_X12 hg_38 (t_X12_isSafe hK hq1) rfl rfl (Nat.le_of_ble_eq_true rfl) ⟨Nat.le_of_ble_eq_true rfl, Nat.le_of_ble_eq_true rfl⟩ ⟨Nat.le_refl _, Nat.le_refl _⟩ dX12_lacks_19 ?_
    refine at_zne 40 dX12_lacks_22 (by decide) (fun c2 => ?_) (fun c2 => ?_)
    · rw [if_pos c2] at h
      refine at_aload_n 0 dX12_lacks_40 rfl ?_
      refine at_getf cl_X12 (by decide) fl_X12_198 hg_38 rfl dX12_lacks_41 ?_
      refine at_iload_n 1 dX12_lacks_44 rfl ?_
      refine at_isub dX12_lacks_45 ?_
      refine at_istore_n [(0, .ref (b + 38)), (1, .int v1), (2, .int ((gi xA 4) - v1))] dX12_lacks_46 (Nat.le_of_ble_eq_true rfl) rfl ?_
      refine at_aload_n 0 dX12_lacks_47 rfl ?_
      refine at_iload_n 1 dX12_lacks_48 rfl ?_
      refine at_putf cl_X12 (by decide) fl_X12_198 rfl hg_38 rfl rfl (Nat.le_of_ble_eq_true rfl) hs_38_4 dX12_lacks_49 ?_
      refine at_iload_n 2 dX12_lacks_52 rfl ?_
      cases h; exact at_iret rfl (Nat.le_refl _) (Nat.le_refl _) ⟨rfl, rfl⟩ dX12_lacks_53
    · rw [if_neg c2] at h
      refine at_aload_n 0 dX12_lacks_25 rfl ?_
      refine at_aload_n 0 dX12_lacks_26 rfl ?_
      refine at_getf cl_X12 (by decide) fl_X12_207 hg_38 rfl dX12_lacks_27 ?_
      refine at_aload_n 0 dX12_lacks_30 rfl ?_
      refine at_getf cl_X12 (by decide) fl_X12_67 hg_38 rfl dX12_lacks_31 ?_
      obtain ⟨q3, hq3, h⟩ := sp_bind h
      refine at_callVv (st := []) hK mt_X12_more ml_X12_385 cl_X12 hg_38 (t_X12_more hK hq3) rfl rfl (Nat.le_of_ble_eq_true rfl) ⟨Nat.le_of_ble_eq_true rfl, Nat.le_of_ble_eq_true rfl⟩ ⟨Nat.le_refl _, Nat.le_refl _⟩ dX12_lacks_34 ?_
      refine at_goto 10 dX12_lacks_37 (by decide) ?_
      exact ih _ _ _ _ _ _ _ h
set_option maxRecDepth 100000 in
theorem t_X12_lacks {D : va_G} {b : Nat} {K : State → Heap → Prop} {sa : Nat → Nat} (hK : sx_Kk b K sa) {N : Nat} {uG uN uD uR uF uP uL uT uA uM uH xC xH xI xJ xK xL uO : sx_C} {G : sx_H} {xA : sx_C} {xB : sx_C} {xD : sx_C} {xE : sx_C} {xF : sx_C} {xG : sx_C} {res : Int32 × sx_C × sx_C × sx_C × sx_C × sx_C × sx_C} (h : f_X12_lacks N xA xB xD xE xF xG = some res) : sx_Runs D b K yX12_lacks YX12_lacks (sx_rm 5) [.ref (b + 38)] (sx_hp b uG uN uD uR uF uP uL uT uA uM uH xA xB xC xD xE xF xG xH xI xJ xK xL uO G) (sx_Ex (some (.int res.1)) (sx_hp b uG uN uD uR uF uP uL uT uA uM uH (res.2.1) (res.2.2.1) xC (res.2.2.2.1) (res.2.2.2.2.1) (res.2.2.2.2.2.1) (res.2.2.2.2.2.2) xH xI xJ xK xL uO G)) := by
  rw [f_X12_lacks] at h
  refine sx_run (by decide +kernel) rfl rfl (Nat.le_of_ble_eq_true rfl) ?_
  refine at_aload_n 0 dX12_lacks_0 rfl ?_
  refine at_iconst 0 dX12_lacks_1 ic_0 ?_
  refine at_putf cl_X12 (by decide) fl_X12_73 rfl hg_38 rfl rfl (Nat.le_of_ble_eq_true rfl) hs_38_0 dX12_lacks_2 ?_
  refine at_aload_n 0 dX12_lacks_5 rfl ?_
  refine at_getf cl_X12 (by decide) fl_X12_198 hg_38 rfl dX12_lacks_6 ?_
  refine at_istore_n [(0, .ref (b + 38)), (1, .int (gi xA 4))] dX12_lacks_9 (Nat.le_of_ble_eq_true rfl) rfl ?_
  exact t_X12_lacks_10 hK N _ N _ _ _ _ _ _ _ h
set_option maxRecDepth 100000 in
theorem t_X12_drawn_66 {D : va_G} {b : Nat} {K : State → Heap → Prop} {sa : Nat → Nat} (hK : sx_Kk b K sa) (N : Nat) {k38 : Int32 → Int32 → Int32 → sx_C → Option (Int32 × sx_C)} {uG uN uD uR uF uP uL uT uA uM uH xA xB xC xD xE xF xG xH xI xJ xK uO : sx_C} {G : sx_H} (res : Int32 × sx_C) (hk38 : ∀ (v1 : Int32) (v2 : Int32) (v3 : Int32) (xL : sx_C), k38 v1 v2 v3 xL = some res → sx_At D b K YX12_drawn (sx_rm 2) (sx_Ex (some (.int res.1)) (sx_hp b uG uN uD uR uF uP uL uT uA uM uH xA xB xC xD xE xF xG xH xI xJ xK (res.2) uO G)) 38 [(0, .ref (b + 38)), (1, .int v1), (2, .int v2), (3, .int v3)] [] (sx_hp b uG uN uD uR uF uP uL uT uA uM uH xA xB xC xD xE xF xG xH xI xJ xK xL uO G) 0 0) : ∀ (v1 : Int32) (v2 : Int32) (v3 : Int32) (xL : sx_C), f_X12_drawn_66 N k38 xA v1 v2 v3 xL = some res → sx_At D b K YX12_drawn (sx_rm 2) (sx_Ex (some (.int res.1)) (sx_hp b uG uN uD uR uF uP uL uT uA uM uH xA xB xC xD xE xF xG xH xI xJ xK (res.2) uO G)) 66 [(0, .ref (b + 38)), (1, .int v1), (2, .int v2), (3, .int v3)] [] (sx_hp b uG uN uD uR uF uP uL uT uA uM uH xA xB xC xD xE xF xG xH xI xJ xK xL uO G) 0 0 := by
  intro v1 v2 v3 xL h
  rw [f_X12_drawn_66] at h
  refine at_iinc 3 1 [(0, .ref (b + 38)), (1, .int v1), (2, .int v2), (3, .int (v3 + 1))] dX12_drawn_66 rfl ic_1 (Nat.le_of_ble_eq_true rfl) rfl ?_
  refine at_goto 38 dX12_drawn_69 (by decide) ?_
  exact hk38 _ _ _ _ h
set_option maxRecDepth 100000 in
theorem t_X12_drawn_38 {D : va_G} {b : Nat} {K : State → Heap → Prop} {sa : Nat → Nat} (hK : sx_Kk b K sa) (N : Nat) {uG uN uD uR uF uP uL uT uA uM uH xA xB xC xD xE xF xG xH xI xJ xK uO : sx_C} {G : sx_H} (res : Int32 × sx_C) : ∀ (n0 : Nat) (v1 : Int32) (v2 : Int32) (v3 : Int32) (xL : sx_C), f_X12_drawn_38 N xA n0 v1 v2 v3 xL = some res → sx_At D b K YX12_drawn (sx_rm 2) (sx_Ex (some (.int res.1)) (sx_hp b uG uN uD uR uF uP uL uT uA uM uH xA xB xC xD xE xF xG xH xI xJ xK (res.2) uO G)) 38 [(0, .ref (b + 38)), (1, .int v1), (2, .int v2), (3, .int v3)] [] (sx_hp b uG uN uD uR uF uP uL uT uA uM uH xA xB xC xD xE xF xG xH xI xJ xK xL uO G) 0 0 := by
  intro n0
  induction n0 with
  | zero => intro _ _ _ _ h; cases h
  | succ n0 ih =>
    intro v1 v2 v3 xL h
    rw [f_X12_drawn_38] at h
    refine at_iload_n 3 dX12_drawn_38 rfl ?_
    refine at_aload_n 0 dX12_drawn_39 rfl ?_
    refine at_getf cl_X12 (by decide) fl_X12_198 hg_38 rfl dX12_drawn_40 ?_
    refine at_icmp_ge 72 dX12_drawn_43 (by decide) (fun c1 => ?_) (fun c1 => ?_)
    · rw [if_pos c1] at h
      refine at_iconst (-1) dX12_drawn_72 ic_m1 ?_
      cases h; exact at_iret rfl (Nat.le_refl _) (Nat.le_refl _) ⟨rfl, rfl⟩ dX12_drawn_73
    · rw [if_neg c1] at h
      refine at_iload_n 1 dX12_drawn_46 rfl ?_
      refine at_iload_n 3 dX12_drawn_47 rfl ?_
      refine at_ishr dX12_drawn_48 ?_
      refine at_iconst 1 dX12_drawn_49 ic_1 ?_
      refine at_iand dX12_drawn_50 ?_
      refine at_if_ne 57 dX12_drawn_51 (by decide) (fun c2 => ?_) (fun c2 => ?_)
      · rw [if_neg c2] at h
        refine at_iload_n 2 dX12_drawn_57 rfl ?_
        refine at_if_ne 63 dX12_drawn_58 (by decide) (fun c3 => ?_) (fun c3 => ?_)
        · rw [if_neg c3] at h
          refine at_iinc 2 (-1) [(0, .ref (b + 38)), (1, .int v1), (2, .int (v2 + (-1))), (3, .int v3)] dX12_drawn_63 rfl ic_m1 (Nat.le_of_ble_eq_true rfl) rfl ?_
          exact t_X12_drawn_66 hK N _ ih _ _ _ _ h
        · rw [if_pos c3] at h
          refine at_iload_n 3 dX12_drawn_61 rfl ?_
          cases h; exact at_iret rfl (Nat.le_refl _) (Nat.le_refl _) ⟨rfl, rfl⟩ dX12_drawn_62
      · rw [if_pos c2] at h
        refine at_goto 66 dX12_drawn_54 (by decide) ?_
        exact t_X12_drawn_66 hK N _ ih _ _ _ _ h
set_option maxRecDepth 100000 in
theorem t_X12_drawn {D : va_G} {b : Nat} {K : State → Heap → Prop} {sa : Nat → Nat} (hK : sx_Kk b K sa) {N : Nat} {uG uN uD uR uF uP uL uT uA uM uH xA xB xC xD xE xF xG xH xI xJ xK uO : sx_C} {G : sx_H} {v1 : Int32} {xL : sx_C} {res : Int32 × sx_C} (h : f_X12_drawn N xA v1 xL = some res) : sx_Runs D b K yX12_drawn YX12_drawn (sx_rm 2) [.ref (b + 38), .int v1] (sx_hp b uG uN uD uR uF uP uL uT uA uM uH xA xB xC xD xE xF xG xH xI xJ xK xL uO G) (sx_Ex (some (.int res.1)) (sx_hp b uG uN uD uR uF uP uL uT uA uM uH xA xB xC xD xE xF xG xH xI xJ xK (res.2) uO G)) := by
  rw [f_X12_drawn] at h
  refine sx_run (by decide +kernel) rfl rfl (Nat.le_of_ble_eq_true rfl) ?_
  refine at_aload_n 0 dX12_drawn_0 rfl ?_
  refine at_aload_n 0 dX12_drawn_1 rfl ?_
  refine at_getf cl_X12 (by decide) fl_X12_388 hg_38 rfl dX12_drawn_2 ?_
  refine at_ldc2 kn_X12_392 dX12_drawn_5 ?_
  refine at_lmul dX12_drawn_8 ?_
  refine at_ldc2 kn_X12_394 dX12_drawn_9 ?_
  refine at_ladd dX12_drawn_12 ?_
  refine at_ldc2 kn_X12_396 dX12_drawn_13 ?_
  refine at_lrem dX12_drawn_16 (by decide) ?_
  refine at_putf cl_X12 (by decide) fl_X12_388 rfl hg_38 rfl rfl (Nat.le_of_ble_eq_true rfl) hs_38_52 dX12_drawn_17 ?_
  refine at_aload_n 0 dX12_drawn_20 rfl ?_
  refine at_getf cl_X12 (by decide) fl_X12_388 hg_38 rfl dX12_drawn_21 ?_
  refine at_ldc2 kn_X12_398 dX12_drawn_24 ?_
  refine at_ldiv dX12_drawn_27 (by decide) ?_
  refine at_iload_n 1 dX12_drawn_28 rfl ?_
  obtain ⟨q4, hq4, h⟩ := sp_bind h
  refine at_callSi (st := [.long ((gl (sl xL 52 (sp_lrem (((gl xL 52) * 1103515245) + 12345) 2147483648)) 52) / 65536)]) hK mt_X12_bits ml_X12_250 (t_X12_bits hK hq4) rfl rfl (Nat.le_of_ble_eq_true rfl) ⟨Nat.le_of_ble_eq_true rfl, Nat.le_of_ble_eq_true rfl⟩ ⟨Nat.le_refl _, Nat.le_refl _⟩ dX12_drawn_29 ?_
  refine at_i2l dX12_drawn_32 ?_
  obtain ⟨hz5, h⟩ := sp_chk h
  refine at_lrem dX12_drawn_33 hz5 ?_
  refine at_l2i dX12_drawn_34 ?_
  refine at_namei (fun y6 ey6 => ?_)
  have h := sp_letE ey6 h
  refine at_istore_n [(0, .ref (b + 38)), (1, .int v1), (2, .int y6)] dX12_drawn_35 (Nat.le_of_ble_eq_true rfl) rfl ?_
  refine at_iconst 0 dX12_drawn_36 ic_0 ?_
  refine at_istore_n [(0, .ref (b + 38)), (1, .int v1), (2, .int y6), (3, .int 0)] dX12_drawn_37 (Nat.le_of_ble_eq_true rfl) rfl ?_
  exact t_X12_drawn_38 hK N _ N _ _ _ _ h
set_option maxRecDepth 100000 in
theorem t_X12_chance_135 {D : va_G} {b : Nat} {K : State → Heap → Prop} {sa : Nat → Nat} (hK : sx_Kk b K sa) (N : Nat) {k33 : Int32 → Int32 → Int32 → sx_C → sx_C → sx_C → Option (Int32 × sx_C × sx_C × sx_C)} {uG uN uD uR uF uP uL uT uA uM uH xA xC xE xF xG xH xI xJ xK uO : sx_C} {G : sx_H} (res : Int32 × sx_C × sx_C × sx_C) (hk33 : ∀ (v2 : Int32) (v3 : Int32) (v4 : Int32) (xB : sx_C) (xD : sx_C) (xL : sx_C), k33 v2 v3 v4 xB xD xL = some res → sx_At D b K YX12_chance (sx_rm 4) (sx_Ex (some (.int res.1)) (sx_hp b uG uN uD uR uF uP uL uT uA uM uH xA (res.2.1) xC (res.2.2.1) xE xF xG xH xI xJ xK (res.2.2.2) uO G)) 33 [(0, .ref (b + 38)), (2, .int v2), (3, .int v3), (4, .int v4)] [] (sx_hp b uG uN uD uR uF uP uL uT uA uM uH xA xB xC xD xE xF xG xH xI xJ xK xL uO G) 0 0) : ∀ (v2 : Int32) (v4 : Int32) (s0 : Int32) (s1 : Int32) (xB : sx_C) (xD : sx_C) (xL : sx_C), f_X12_chance_135 N k33 xA v2 v4 s0 s1 xB xD xL = some res → sx_At D b K YX12_chance (sx_rm 4) (sx_Ex (some (.int res.1)) (sx_hp b uG uN uD uR uF uP uL uT uA uM uH xA (res.2.1) xC (res.2.2.1) xE xF xG xH xI xJ xK (res.2.2.2) uO G)) 135 [(0, .ref (b + 38)), (2, .int v2), (4, .int v4)] [.int s1, .int s0] (sx_hp b uG uN uD uR uF uP uL uT uA uM uH xA xB xC xD xE xF xG xH xI xJ xK xL uO G) 0 0 := by
  intro v2 v4 s0 s1 xB xD xL h
  rw [f_X12_chance_135] at h
  refine at_iadd dX12_chance_135 ?_
  refine at_istore_n [(0, .ref (b + 38)), (2, .int v2), (3, .int (s0 + s1)), (4, .int v4)] dX12_chance_136 (Nat.le_of_ble_eq_true rfl) rfl ?_
  refine at_iinc 3 1 [(0, .ref (b + 38)), (2, .int v2), (3, .int (s0 + s1)), (4, .int (v4 + 1))] dX12_chance_137 rfl ic_1 (Nat.le_of_ble_eq_true rfl) rfl ?_
  refine at_goto 33 dX12_chance_140 (by decide) ?_
  exact hk33 _ _ _ _ _ _ h
set_option maxRecDepth 100000 in
theorem t_X12_chance_109 {D : va_G} {b : Nat} {K : State → Heap → Prop} {sa : Nat → Nat} (hK : sx_Kk b K sa) (N : Nat) {k33 : Int32 → Int32 → Int32 → sx_C → sx_C → sx_C → Option (Int32 × sx_C × sx_C × sx_C)} {k57 : Int32 → Int32 → Int32 → Int32 → Int32 → Int32 → sx_C → sx_C → sx_C → Option (Int32 × sx_C × sx_C × sx_C)} {uG uN uD uR uF uP uL uT uA uM uH xA xC xE xF xG xH xI xJ xK uO : sx_C} {G : sx_H} (res : Int32 × sx_C × sx_C × sx_C) (hk33 : ∀ (v2 : Int32) (v3 : Int32) (v4 : Int32) (xB : sx_C) (xD : sx_C) (xL : sx_C), k33 v2 v3 v4 xB xD xL = some res → sx_At D b K YX12_chance (sx_rm 4) (sx_Ex (some (.int res.1)) (sx_hp b uG uN uD uR uF uP uL uT uA uM uH xA (res.2.1) xC (res.2.2.1) xE xF xG xH xI xJ xK (res.2.2.2) uO G)) 33 [(0, .ref (b + 38)), (2, .int v2), (3, .int v3), (4, .int v4)] [] (sx_hp b uG uN uD uR uF uP uL uT uA uM uH xA xB xC xD xE xF xG xH xI xJ xK xL uO G) 0 0) (hk57 : ∀ (v2 : Int32) (v3 : Int32) (v4 : Int32) (v5 : Int32) (v6 : Int32) (v7 : Int32) (xB : sx_C) (xD : sx_C) (xL : sx_C), k57 v2 v3 v4 v5 v6 v7 xB xD xL = some res → sx_At D b K YX12_chance (sx_rm 4) (sx_Ex (some (.int res.1)) (sx_hp b uG uN uD uR uF uP uL uT uA uM uH xA (res.2.1) xC (res.2.2.1) xE xF xG xH xI xJ xK (res.2.2.2) uO G)) 57 [(0, .ref (b + 38)), (2, .int v2), (3, .int v3), (4, .int v4), (5, .int v5), (6, .int v6), (7, .int v7)] [] (sx_hp b uG uN uD uR uF uP uL uT uA uM uH xA xB xC xD xE xF xG xH xI xJ xK xL uO G) 0 0) : ∀ (v2 : Int32) (v3 : Int32) (v4 : Int32) (v5 : Int32) (v6 : Int32) (v7 : Int32) (xB : sx_C) (xD : sx_C) (xL : sx_C), f_X12_chance_109 N k33 k57 xA v2 v3 v4 v5 v6 v7 xB xD xL = some res → sx_At D b K YX12_chance (sx_rm 4) (sx_Ex (some (.int res.1)) (sx_hp b uG uN uD uR uF uP uL uT uA uM uH xA (res.2.1) xC (res.2.2.1) xE xF xG xH xI xJ xK (res.2.2.2) uO G)) 109 [(0, .ref (b + 38)), (2, .int v2), (3, .int v3), (4, .int v4), (5, .int v5), (6, .int v6), (7, .int v7)] [] (sx_hp b uG uN uD uR uF uP uL uT uA uM uH xA xB xC xD xE xF xG xH xI xJ xK xL uO G) 0 0 := by
  intro v2 v3 v4 v5 v6 v7 xB xD xL h
  rw [f_X12_chance_109] at h
  refine at_iconst 1 dX12_chance_109 ic_1 ?_
  refine at_iload 6 dX12_chance_110 rfl ?_
  refine at_isub dX12_chance_112 ?_
  refine at_istore [(0, .ref (b + 38)), (2, .int v2), (3, .int v3), (4, .int v4), (5, .int v5), (6, .int v6), (7, .int (1 - v7))] dX12_chance_113 (Nat.le_of_ble_eq_true rfl) rfl ?_
  refine at_goto 57 dX12_chance_115 (by decide) ?_
  exact hk57 _ _ _ _ _ _ _ _ _ h
set_option maxRecDepth 100000 in
theorem t_X12_chance_57 {D : va_G} {b : Nat} {K : State → Heap → Prop} {sa : Nat → Nat} (hK : sx_Kk b K sa) (N : Nat) {k33 : Int32 → Int32 → Int32 → sx_C → sx_C → sx_C → Option (Int32 × sx_C × sx_C × sx_C)} {uG uN uD uR uF uP uL uT uA uM uH xA xC xE xF xG xH xI xJ xK uO : sx_C} {G : sx_H} (res : Int32 × sx_C × sx_C × sx_C) (hk33 : ∀ (v2 : Int32) (v3 : Int32) (v4 : Int32) (xB : sx_C) (xD : sx_C) (xL : sx_C), k33 v2 v3 v4 xB xD xL = some res → sx_At D b K YX12_chance (sx_rm 4) (sx_Ex (some (.int res.1)) (sx_hp b uG uN uD uR uF uP uL uT uA uM uH xA (res.2.1) xC (res.2.2.1) xE xF xG xH xI xJ xK (res.2.2.2) uO G)) 33 [(0, .ref (b + 38)), (2, .int v2), (3, .int v3), (4, .int v4)] [] (sx_hp b uG uN uD uR uF uP uL uT uA uM uH xA xB xC xD xE xF xG xH xI xJ xK xL uO G) 0 0) : ∀ (n0 : Nat) (v2 : Int32) (v3 : Int32) (v4 : Int32) (v5 : Int32) (v6 : Int32) (v7 : Int32) (xB : sx_C) (xD : sx_C) (xL : sx_C), f_X12_chance_57 N k33 xA n0 v2 v3 v4 v5 v6 v7 xB xD xL = some res → sx_At D b K YX12_chance (sx_rm 4) (sx_Ex (some (.int res.1)) (sx_hp b uG uN uD uR uF uP uL uT uA uM uH xA (res.2.1) xC (res.2.2.1) xE xF xG xH xI xJ xK (res.2.2.2) uO G)) 57 [(0, .ref (b + 38)), (2, .int v2), (3, .int v3), (4, .int v4), (5, .int v5), (6, .int v6), (7, .int v7)] [] (sx_hp b uG uN uD uR uF uP uL uT uA uM uH xA xB xC xD xE xF xG xH xI xJ xK xL uO G) 0 0 := by
  intro n0
  induction n0 with
  | zero => intro _ _ _ _ _ _ _ _ _ h; cases h
  | succ n0 ih =>
    intro v2 v3 v4 v5 v6 v7 xB xD xL h
    rw [f_X12_chance_57] at h
    refine at_aload_n 0 dX12_chance_57 rfl ?_
    refine at_iload 4 dX12_chance_58 rfl ?_
    refine at_iload 5 dX12_chance_60 rfl ?_
    obtain ⟨q2, hq2, h⟩ := sp_bind h
    refine at_callVi (st := []) hK mt_X12_has ml_X12_301 cl_X12 hg_38 (t_X12_has hK hq2) rfl rfl (Nat.le_of_ble_eq_true rfl) ⟨Nat.le_of_ble_eq_true rfl, Nat.le_of_ble_eq_true rfl⟩ ⟨Nat.le_refl _, Nat.le_refl _⟩ dX12_chance_62 ?_
    refine at_iconst 2 dX12_chance_65 ic_2 ?_
    refine at_icmp_ne 118 dX12_chance_66 (by decide) (fun c3 => ?_) (fun c3 => ?_)
    · rw [if_neg c3] at h
      refine at_iload_n 2 dX12_chance_118 rfl ?_
      refine at_aload_n 0 dX12_chance_119 rfl ?_
      refine at_iload 4 dX12_chance_120 rfl ?_
      refine at_iload 5 dX12_chance_122 rfl ?_
      obtain ⟨q4, hq4, h⟩ := sp_bind h
      refine at_callVi (st := [.int v3]) hK mt_X12_has ml_X12_301 cl_X12 hg_38 (t_X12_has hK hq4) rfl rfl (Nat.le_of_ble_eq_true rfl) ⟨Nat.le_of_ble_eq_true rfl, Nat.le_of_ble_eq_true rfl⟩ ⟨Nat.le_refl _, Nat.le_refl _⟩ dX12_chance_124 ?_
      refine at_if_ne 134 dX12_chance_127 (by decide) (fun c5 => ?_) (fun c5 => ?_)
      · rw [if_neg c5] at h
        refine at_iconst 0 dX12_chance_134 ic_0 ?_
        refine at_sub [0, 1, 3] [(0, .ref (b + 38)), (2, .int v2), (4, .int v4)] rfl ?_
        exact t_X12_chance_135 hK N _ hk33 _ _ _ _ _ _ _ h
      · rw [if_pos c5] at h
        refine at_iconst 1 dX12_chance_130 ic_1 ?_
        refine at_goto 135 dX12_chance_131 (by decide) ?_
        refine at_sub [0, 1, 3] [(0, .ref (b + 38)), (2, .int v2), (4, .int v4)] rfl ?_
        exact t_X12_chance_135 hK N _ hk33 _ _ _ _ _ _ _ h
    · rw [if_pos c3] at h
      refine at_aload_n 0 dX12_chance_69 rfl ?_
      refine at_aload_n 0 dX12_chance_70 rfl ?_
      refine at_iload 4 dX12_chance_71 rfl ?_
      refine at_iload 5 dX12_chance_73 rfl ?_
      obtain ⟨q6, hq6, h⟩ := sp_bind h
      refine at_callVi (st := [.ref (b + 38)]) hK mt_X12_open ml_X12_226 cl_X12 hg_38 (t_X12_open hK hq6) rfl rfl (Nat.le_of_ble_eq_true rfl) ⟨Nat.le_of_ble_eq_true rfl, Nat.le_of_ble_eq_true rfl⟩ ⟨Nat.le_refl _, Nat.le_refl _⟩ dX12_chance_75 ?_
      obtain ⟨q7, hq7, h⟩ := sp_bind h
      refine at_callVi (st := []) hK mt_X12_drawn ml_X12_400 cl_X12 hg_38 (t_X12_drawn hK hq7) rfl rfl (Nat.le_of_ble_eq_true rfl) ⟨Nat.le_of_ble_eq_true rfl, Nat.le_of_ble_eq_true rfl⟩ ⟨Nat.le_refl _, Nat.le_refl _⟩ dX12_chance_78 ?_
      refine at_istore [(0, .ref (b + 38)), (2, .int v2), (3, .int v3), (4, .int v4), (5, .int v5), (6, .int v6), (7, .int v7), (8, .int (q7.1))] dX12_chance_81 (Nat.le_of_ble_eq_true rfl) rfl ?_
      refine at_iload 6 dX12_chance_83 rfl ?_
      refine at_if_ne 100 dX12_chance_85 (by decide) (fun c8 => ?_) (fun c8 => ?_)
      · rw [if_neg c8] at h
        refine at_iload 5 dX12_chance_100 rfl ?_
        refine at_iconst 1 dX12_chance_102 ic_1 ?_
        refine at_iload 7 dX12_chance_103 rfl ?_
        refine at_ishl dX12_chance_105 ?_
        refine at_ior dX12_chance_106 ?_
        refine at_istore [(0, .ref (b + 38)), (2, .int v2), (3, .int v3), (4, .int v4), (5, .int v5), (6, .int (v6 ||| (sp_shl 1 (q7.1)))), (7, .int v7), (8, .int (q7.1))] dX12_chance_107 (Nat.le_of_ble_eq_true rfl) rfl ?_
        refine at_sub [0, 1, 2, 3, 4, 5, 6] [(0, .ref (b + 38)), (2, .int v2), (3, .int v3), (4, .int v4), (5, .int v5), (6, .int (v6 ||| (sp_shl 1 (q7.1)))), (7, .int v7)] rfl ?_
        exact t_X12_chance_109 hK N _ hk33 ih _ _ _ _ _ _ _ _ _ h
      · rw [if_pos c8] at h
        refine at_iload 4 dX12_chance_88 rfl ?_
        refine at_iconst 1 dX12_chance_90 ic_1 ?_
        refine at_iload 7 dX12_chance_91 rfl ?_
        refine at_ishl dX12_chance_93 ?_
        refine at_ior dX12_chance_94 ?_
        refine at_istore [(0, .ref (b + 38)), (2, .int v2), (3, .int v3), (4, .int v4), (5, .int (v5 ||| (sp_shl 1 (q7.1)))), (6, .int v6), (7, .int v7), (8, .int (q7.1))] dX12_chance_95 (Nat.le_of_ble_eq_true rfl) rfl ?_
        refine at_goto 109 dX12_chance_97 (by decide) ?_
        refine at_sub [0, 1, 2, 3, 4, 5, 6] [(0, .ref (b + 38)), (2, .int v2), (3, .int v3), (4, .int v4), (5, .int (v5 ||| (sp_shl 1 (q7.1)))), (6, .int v6), (7, .int v7)] rfl ?_
        exact t_X12_chance_109 hK N _ hk33 ih _ _ _ _ _ _ _ _ _ h
set_option maxRecDepth 100000 in
theorem t_X12_chance_33 {D : va_G} {b : Nat} {K : State → Heap → Prop} {sa : Nat → Nat} (hK : sx_Kk b K sa) (N : Nat) {uG uN uD uR uF uP uL uT uA uM uH xA xC xE xF xG xH xI xJ xK uO : sx_C} {G : sx_H} (res : Int32 × sx_C × sx_C × sx_C) : ∀ (n0 : Nat) (v2 : Int32) (v3 : Int32) (v4 : Int32) (xB : sx_C) (xD : sx_C) (xL : sx_C), f_X12_chance_33 N xA n0 v2 v3 v4 xB xD xL = some res → sx_At D b K YX12_chance (sx_rm 4) (sx_Ex (some (.int res.1)) (sx_hp b uG uN uD uR uF uP uL uT uA uM uH xA (res.2.1) xC (res.2.2.1) xE xF xG xH xI xJ xK (res.2.2.2) uO G)) 33 [(0, .ref (b + 38)), (2, .int v2), (3, .int v3), (4, .int v4)] [] (sx_hp b uG uN uD uR uF uP uL uT uA uM uH xA xB xC xD xE xF xG xH xI xJ xK xL uO G) 0 0 := by
  intro n0
  induction n0 with
  | zero => intro _ _ _ _ _ _ h; cases h
  | succ n0 ih =>
    intro v2 v3 v4 xB xD xL h
    rw [f_X12_chance_33] at h
    refine at_iload 3 dX12_chance_33 rfl ?_
    refine at_iload_n 1 dX12_chance_35 rfl ?_
    refine at_icmp_ge 143 dX12_chance_36 (by decide) (fun c1 => ?_) (fun c1 => ?_)
    · rw [if_pos c1] at h
      refine at_iload_n 2 dX12_chance_143 rfl ?_
      cases h; exact at_iret rfl (Nat.le_refl _) (Nat.le_refl _) ⟨rfl, rfl⟩ dX12_chance_144
    · rw [if_neg c1] at h
      refine at_aload_n 0 dX12_chance_39 rfl ?_
      refine at_getf cl_X12 (by decide) fl_X12_201 hg_38 rfl dX12_chance_40 ?_
      refine at_istore [(0, .ref (b + 38)), (2, .int v2), (3, .int v3), (4, .int v4), (5, .int (gi xA 7))] dX12_chance_43 (Nat.le_of_ble_eq_true rfl) rfl ?_
      refine at_aload_n 0 dX12_chance_45 rfl ?_
      refine at_getf cl_X12 (by decide) fl_X12_204 hg_38 rfl dX12_chance_46 ?_
      refine at_istore [(0, .ref (b + 38)), (2, .int v2), (3, .int v3), (4, .int v4), (5, .int (gi xA 7)), (6, .int (gi xA 8))] dX12_chance_49 (Nat.le_of_ble_eq_true rfl) rfl ?_
      refine at_aload_n 0 dX12_chance_51 rfl ?_
      refine at_getf cl_X12 (by decide) fl_X12_70 hg_38 rfl dX12_chance_52 ?_
      refine at_istore [(0, .ref (b + 38)), (2, .int v2), (3, .int v3), (4, .int v4), (5, .int (gi xA 7)), (6, .int (gi xA 8)), (7, .int (gi xA 11))] dX12_chance_55 (Nat.le_of_ble_eq_true rfl) rfl ?_
      exact t_X12_chance_57 hK N _ ih N _ _ _ _ _ _ _ _ _ h
set_option maxRecDepth 100000 in
theorem t_X12_chance {D : va_G} {b : Nat} {K : State → Heap → Prop} {sa : Nat → Nat} (hK : sx_Kk b K sa) {N : Nat} {uG uN uD uR uF uP uL uT uA uM uH xA xC xE xF xG xH xI xJ xK uO : sx_C} {G : sx_H} {v1 : Int32} {v2 : Int32} {xB : sx_C} {xD : sx_C} {xL : sx_C} {res : Int32 × sx_C × sx_C × sx_C} (h : f_X12_chance N xA v1 v2 xB xD xL = some res) : sx_Runs D b K yX12_chance YX12_chance (sx_rm 4) [.ref (b + 38), .int v1, .int v2] (sx_hp b uG uN uD uR uF uP uL uT uA uM uH xA xB xC xD xE xF xG xH xI xJ xK xL uO G) (sx_Ex (some (.int res.1)) (sx_hp b uG uN uD uR uF uP uL uT uA uM uH xA (res.2.1) xC (res.2.2.1) xE xF xG xH xI xJ xK (res.2.2.2) uO G)) := by
  rw [f_X12_chance] at h
  refine sx_run (by decide +kernel) rfl rfl (Nat.le_of_ble_eq_true rfl) ?_
  refine at_aload_n 0 dX12_chance_0 rfl ?_
  refine at_iconst 0 dX12_chance_1 ic_0 ?_
  refine at_putf cl_X12 (by decide) fl_X12_73 rfl hg_38 rfl rfl (Nat.le_of_ble_eq_true rfl) hs_38_0 dX12_chance_2 ?_
  refine at_iload_n 1 dX12_chance_5 rfl ?_
  refine at_if_lt 20 dX12_chance_6 (by decide) (fun c9 => ?_) (fun c9 => ?_)
  · rw [if_pos c9] at h
    refine at_iconst (-1) dX12_chance_20 ic_m1 ?_
    cases h; exact at_iret rfl (Nat.le_refl _) (Nat.le_refl _) ⟨rfl, rfl⟩ dX12_chance_21
  · rw [if_neg c9] at h
    refine at_iload_n 2 dX12_chance_9 rfl ?_
    refine at_iconst 1 dX12_chance_10 ic_1 ?_
    refine at_icmp_lt 20 dX12_chance_11 (by decide) (fun c10 => ?_) (fun c10 => ?_)
    · rw [if_pos c10] at h
      refine at_iconst (-1) dX12_chance_20 ic_m1 ?_
      cases h; exact at_iret rfl (Nat.le_refl _) (Nat.le_refl _) ⟨rfl, rfl⟩ dX12_chance_21
    · rw [if_neg c10] at h
      refine at_iload_n 2 dX12_chance_14 rfl ?_
      refine at_bipush 50 dX12_chance_15 bp_50 ?_
      refine at_icmp_le 22 dX12_chance_17 (by decide) (fun c11 => ?_) (fun c11 => ?_)
      · rw [if_pos c11] at h
        refine at_aload_n 0 dX12_chance_22 rfl ?_
        refine at_iload_n 1 dX12_chance_23 rfl ?_
        refine at_i2l dX12_chance_24 ?_
        refine at_putf cl_X12 (by decide) fl_X12_388 rfl hg_38 rfl rfl (Nat.le_of_ble_eq_true rfl) hs_38_52 dX12_chance_25 ?_
        refine at_iconst 0 dX12_chance_28 ic_0 ?_
        refine at_istore_n [(0, .ref (b + 38)), (1, .int v1), (2, .int v2), (3, .int 0)] dX12_chance_29 (Nat.le_of_ble_eq_true rfl) rfl ?_
        refine at_iconst 0 dX12_chance_30 ic_0 ?_
        refine at_istore [(0, .ref (b + 38)), (1, .int v1), (2, .int v2), (3, .int 0), (4, .int 0)] dX12_chance_31 (Nat.le_of_ble_eq_true rfl) rfl ?_
        refine at_sub [0, 2, 3, 4] [(0, .ref (b + 38)), (2, .int v2), (3, .int 0), (4, .int 0)] rfl ?_
        exact t_X12_chance_33 hK N _ N _ _ _ _ _ _ h
      · rw [if_neg c11] at h
        refine at_iconst (-1) dX12_chance_20 ic_m1 ?_
        cases h; exact at_iret rfl (Nat.le_refl _) (Nat.le_refl _) ⟨rfl, rfl⟩ dX12_chance_21
set_option maxRecDepth 100000 in
theorem t_X12_duel_48 {D : va_G} {b : Nat} {K : State → Heap → Prop} {sa : Nat → Nat} (hK : sx_Kk b K sa) (N : Nat) {uG uN uD uR uF uP uL uT uA uM uH xA xC xI xJ xK uO : sx_C} {G : sx_H} (res : Int32 × sx_C × sx_C × sx_C × sx_C × sx_C × sx_C × sx_C) : ∀ (n0 : Nat) (v2 : Int32) (v3 : Int32) (v4 : Int32) (xB : sx_C) (xD : sx_C) (xE : sx_C) (xF : sx_C) (xG : sx_C) (xH : sx_C) (xL : sx_C), f_X12_duel_48 N xA n0 v2 v3 v4 xB xD xE xF xG xH xL = some res → sx_At D b K YX12_duel (sx_rm 6) (sx_Ex (some (.int res.1)) (sx_hp b uG uN uD uR uF uP uL uT uA uM uH xA (res.2.1) xC (res.2.2.1) (res.2.2.2.1) (res.2.2.2.2.1) (res.2.2.2.2.2.1) (res.2.2.2.2.2.2.1) xI xJ xK (res.2.2.2.2.2.2.2) uO G)) 48 [(0, .ref (b + 38)), (2, .int v2), (3, .int v3), (4, .int v4)] [] (sx_hp b uG uN uD uR uF uP uL uT uA uM uH xA xB xC xD xE xF xG xH xI xJ xK xL uO G) 0 0 := by
  intro n0
  induction n0 with
  | zero => intro _ _ _ _ _ _ _ _ _ _ h; cases h
  | succ n0 ih =>
    intro v2 v3 v4 xB xD xE xF xG xH xL h
    rw [f_X12_duel_48] at h
    refine at_aload_n 0 dX12_duel_48 rfl ?_
    refine at_iload_n 1 dX12_duel_49 rfl ?_
    refine at_iload_n 2 dX12_duel_50 rfl ?_
    obtain ⟨q1, hq1, h⟩ := sp_bind h
    refine at_callVi (st := []) hK mt_X12_has ml_X12_301 cl_X12 hg_38 (t_X12_has hK hq1) rfl rfl (Nat.le_of_ble_eq_true rfl) ⟨Nat.le_of_ble_eq_true rfl, Nat.le_of_ble_eq_true rfl⟩ ⟨Nat.le_refl _, Nat.le_refl _⟩ dX12_duel_51 ?_
    refine at_iconst 2 dX12_duel_54 ic_2 ?_
    refine at_icmp_ne 121 dX12_duel_55 (by decide) (fun c2 => ?_) (fun c2 => ?_)
    · rw [if_neg c2] at h
      refine at_iload 3 dX12_duel_121 rfl ?_
      cases h; exact at_iret rfl (Nat.le_refl _) (Nat.le_refl _) ⟨rfl, rfl⟩ dX12_duel_123
    · rw [if_pos c2] at h
      refine at_aload_n 0 dX12_duel_58 rfl ?_
      refine at_aload_n 0 dX12_duel_59 rfl ?_
      refine at_iload_n 1 dX12_duel_60 rfl ?_
      refine at_iload_n 2 dX12_duel_61 rfl ?_
      obtain ⟨q3, hq3, h⟩ := sp_bind h
      refine at_callVi (st := [.ref (b + 38)]) hK mt_X12_open ml_X12_226 cl_X12 hg_38 (t_X12_open hK hq3) rfl rfl (Nat.le_of_ble_eq_true rfl) ⟨Nat.le_of_ble_eq_true rfl, Nat.le_of_ble_eq_true rfl⟩ ⟨Nat.le_refl _, Nat.le_refl _⟩ dX12_duel_62 ?_
      obtain ⟨q4, hq4, h⟩ := sp_bind h
      refine at_callVi (st := []) hK mt_X12_drawn ml_X12_400 cl_X12 hg_38 (t_X12_drawn hK hq4) rfl rfl (Nat.le_of_ble_eq_true rfl) ⟨Nat.le_of_ble_eq_true rfl, Nat.le_of_ble_eq_true rfl⟩ ⟨Nat.le_refl _, Nat.le_refl _⟩ dX12_duel_65 ?_
      refine at_istore [(0, .ref (b + 38)), (2, .int v2), (3, .int v3), (4, .int v4), (5, .int (q4.1))] dX12_duel_68 (Nat.le_of_ble_eq_true rfl) rfl ?_
      refine at_aload_n 0 dX12_duel_70 rfl ?_
      refine at_iload_n 1 dX12_duel_71 rfl ?_
      refine at_iload_n 2 dX12_duel_72 rfl ?_
      obtain ⟨q5, hq5, h⟩ := sp_bind h
      refine at_callVi (st := []) hK mt_X12_laysPair ml_X12_323 cl_X12 hg_38 (t_X12_laysPair hK hq5) rfl rfl (Nat.le_of_ble_eq_true rfl) ⟨Nat.le_of_ble_eq_true rfl, Nat.le_of_ble_eq_true rfl⟩ ⟨Nat.le_refl _, Nat.le_refl _⟩ dX12_duel_73 ?_
      refine at_pop dX12_duel_76 rfl ?_
      refine at_aload_n 0 dX12_duel_77 rfl ?_
      refine at_iload 4 dX12_duel_78 rfl ?_
      obtain ⟨q6, hq6, h⟩ := sp_bind h
      refine at_callVi (st := []) hK mt_X12_answerOf ml_X12_337 cl_X12 hg_38 (t_X12_answerOf hK hq6) rfl rfl (Nat.le_of_ble_eq_true rfl) ⟨Nat.le_of_ble_eq_true rfl, Nat.le_of_ble_eq_true rfl⟩ ⟨Nat.le_refl _, Nat.le_refl _⟩ dX12_duel_80 ?_
      refine at_istore [(0, .ref (b + 38)), (2, .int v2), (3, .int v3), (4, .int v4), (5, .int (q4.1)), (6, .int (q6.1))] dX12_duel_83 (Nat.le_of_ble_eq_true rfl) rfl ?_
      refine at_iload_n 2 dX12_duel_85 rfl ?_
      refine at_iconst 1 dX12_duel_86 ic_1 ?_
      refine at_iload 4 dX12_duel_87 rfl ?_
      refine at_ishl dX12_duel_89 ?_
      refine at_ior dX12_duel_90 ?_
      refine at_istore_n [(0, .ref (b + 38)), (2, .int v2), (3, .int (v3 ||| (sp_shl 1 (q4.1)))), (4, .int v4), (5, .int (q4.1)), (6, .int (q6.1))] dX12_duel_91 (Nat.le_of_ble_eq_true rfl) rfl ?_
      refine at_iinc 3 1 [(0, .ref (b + 38)), (2, .int v2), (3, .int (v3 ||| (sp_shl 1 (q4.1)))), (4, .int (v4 + 1)), (5, .int (q4.1)), (6, .int (q6.1))] dX12_duel_92 rfl ic_1 (Nat.le_of_ble_eq_true rfl) rfl ?_
      refine at_aload_n 0 dX12_duel_95 rfl ?_
      refine at_iload_n 1 dX12_duel_96 rfl ?_
      refine at_iload_n 2 dX12_duel_97 rfl ?_
      obtain ⟨q7, hq7, h⟩ := sp_bind h
      refine at_callVi (st := []) hK mt_X12_has ml_X12_301 cl_X12 hg_38 (t_X12_has hK hq7) rfl rfl (Nat.le_of_ble_eq_true rfl) ⟨Nat.le_of_ble_eq_true rfl, Nat.le_of_ble_eq_true rfl⟩ ⟨Nat.le_refl _, Nat.le_refl _⟩ dX12_duel_98 ?_
      refine at_iconst 2 dX12_duel_101 ic_2 ?_
      refine at_icmp_eq 108 dX12_duel_102 (by decide) (fun c8 => ?_) (fun c8 => ?_)
      · rw [if_pos c8] at h
        refine at_iload_n 1 dX12_duel_108 rfl ?_
        refine at_iconst 1 dX12_duel_109 ic_1 ?_
        refine at_iload 5 dX12_duel_110 rfl ?_
        refine at_ishl dX12_duel_112 ?_
        refine at_ior dX12_duel_113 ?_
        refine at_istore_n [(0, .ref (b + 38)), (2, .int (v2 ||| (sp_shl 1 (q6.1)))), (3, .int (v3 ||| (sp_shl 1 (q4.1)))), (4, .int (v4 + 1)), (5, .int (q4.1)), (6, .int (q6.1))] dX12_duel_114 (Nat.le_of_ble_eq_true rfl) rfl ?_
        refine at_iinc 3 1 [(0, .ref (b + 38)), (2, .int (v2 ||| (sp_shl 1 (q6.1)))), (3, .int (v3 ||| (sp_shl 1 (q4.1)))), (4, .int ((v4 + 1) + 1)), (5, .int (q4.1)), (6, .int (q6.1))] dX12_duel_115 rfl ic_1 (Nat.le_of_ble_eq_true rfl) rfl ?_
        refine at_goto 48 dX12_duel_118 (by decide) ?_
        refine at_sub [0, 1, 2, 3] [(0, .ref (b + 38)), (2, .int (v2 ||| (sp_shl 1 (q6.1)))), (3, .int (v3 ||| (sp_shl 1 (q4.1)))), (4, .int ((v4 + 1) + 1))] rfl ?_
        exact ih _ _ _ _ _ _ _ _ _ _ h
      · rw [if_neg c8] at h
        refine at_iload 3 dX12_duel_105 rfl ?_
        cases h; exact at_iret rfl (Nat.le_refl _) (Nat.le_refl _) ⟨rfl, rfl⟩ dX12_duel_107
set_option maxRecDepth 100000 in
theorem t_X12_duel {D : va_G} {b : Nat} {K : State → Heap → Prop} {sa : Nat → Nat} (hK : sx_Kk b K sa) {N : Nat} {uG uN uD uR uF uP uL uT uA uM uH xA xC xI xJ xK uO : sx_C} {G : sx_H} {v1 : Int32} {xB : sx_C} {xD : sx_C} {xE : sx_C} {xF : sx_C} {xG : sx_C} {xH : sx_C} {xL : sx_C} {res : Int32 × sx_C × sx_C × sx_C × sx_C × sx_C × sx_C × sx_C} (h : f_X12_duel N xA v1 xB xD xE xF xG xH xL = some res) : sx_Runs D b K yX12_duel YX12_duel (sx_rm 6) [.ref (b + 38), .int v1] (sx_hp b uG uN uD uR uF uP uL uT uA uM uH xA xB xC xD xE xF xG xH xI xJ xK xL uO G) (sx_Ex (some (.int res.1)) (sx_hp b uG uN uD uR uF uP uL uT uA uM uH xA (res.2.1) xC (res.2.2.1) (res.2.2.2.1) (res.2.2.2.2.1) (res.2.2.2.2.2.1) (res.2.2.2.2.2.2.1) xI xJ xK (res.2.2.2.2.2.2.2) uO G)) := by
  rw [f_X12_duel] at h
  refine sx_run (by decide +kernel) rfl rfl (Nat.le_of_ble_eq_true rfl) ?_
  refine at_aload_n 0 dX12_duel_0 rfl ?_
  refine at_iconst 0 dX12_duel_1 ic_0 ?_
  refine at_putf cl_X12 (by decide) fl_X12_73 rfl hg_38 rfl rfl (Nat.le_of_ble_eq_true rfl) hs_38_0 dX12_duel_2 ?_
  refine at_iload_n 1 dX12_duel_5 rfl ?_
  refine at_if_ge 11 dX12_duel_6 (by decide) (fun c9 => ?_) (fun c9 => ?_)
  · rw [if_pos c9] at h
    refine at_aload_n 0 dX12_duel_11 rfl ?_
    refine at_aload_n 0 dX12_duel_12 rfl ?_
    refine at_getf cl_X12 (by decide) fl_X12_201 hg_38 rfl dX12_duel_13 ?_
    refine at_aload_n 0 dX12_duel_16 rfl ?_
    refine at_getf cl_X12 (by decide) fl_X12_204 hg_38 rfl dX12_duel_17 ?_
    obtain ⟨q10, hq10, h⟩ := sp_bind h
    refine at_callVi (st := []) hK mt_X12_laysPair ml_X12_323 cl_X12 hg_38 (t_X12_laysPair hK hq10) rfl rfl (Nat.le_of_ble_eq_true rfl) ⟨Nat.le_of_ble_eq_true rfl, Nat.le_of_ble_eq_true rfl⟩ ⟨Nat.le_refl _, Nat.le_refl _⟩ dX12_duel_20 ?_
    refine at_zne 29 dX12_duel_23 (by decide) (fun c11 => ?_) (fun c11 => ?_)
    · rw [if_pos c11] at h
      refine at_aload_n 0 dX12_duel_29 rfl ?_
      refine at_iload_n 1 dX12_duel_30 rfl ?_
      refine at_i2l dX12_duel_31 ?_
      refine at_putf cl_X12 (by decide) fl_X12_388 rfl hg_38 rfl rfl (Nat.le_of_ble_eq_true rfl) hs_38_52 dX12_duel_32 ?_
      refine at_aload_n 0 dX12_duel_35 rfl ?_
      refine at_getf cl_X12 (by decide) fl_X12_201 hg_38 rfl dX12_duel_36 ?_
      refine at_istore_n [(0, .ref (b + 38)), (1, .int v1), (2, .int (gi xA 7))] dX12_duel_39 (Nat.le_of_ble_eq_true rfl) rfl ?_
      refine at_aload_n 0 dX12_duel_40 rfl ?_
      refine at_getf cl_X12 (by decide) fl_X12_204 hg_38 rfl dX12_duel_41 ?_
      refine at_istore_n [(0, .ref (b + 38)), (1, .int v1), (2, .int (gi xA 7)), (3, .int (gi xA 8))] dX12_duel_44 (Nat.le_of_ble_eq_true rfl) rfl ?_
      refine at_iconst 0 dX12_duel_45 ic_0 ?_
      refine at_istore [(0, .ref (b + 38)), (1, .int v1), (2, .int (gi xA 7)), (3, .int (gi xA 8)), (4, .int 0)] dX12_duel_46 (Nat.le_of_ble_eq_true rfl) rfl ?_
      refine at_sub [0, 2, 3, 4] [(0, .ref (b + 38)), (2, .int (gi xA 7)), (3, .int (gi xA 8)), (4, .int 0)] rfl ?_
      exact t_X12_duel_48 hK N _ N _ _ _ _ _ _ _ _ _ _ h
    · rw [if_neg c11] at h
      refine at_bipush (-2) dX12_duel_26 bp_m2 ?_
      cases h; exact at_iret rfl (Nat.le_refl _) (Nat.le_refl _) ⟨rfl, rfl⟩ dX12_duel_28
  · rw [if_neg c9] at h
    refine at_iconst (-1) dX12_duel_9 ic_m1 ?_
    cases h; exact at_iret rfl (Nat.le_refl _) (Nat.le_refl _) ⟨rfl, rfl⟩ dX12_duel_10
set_option maxRecDepth 100000 in
theorem t_X12_count {D : va_G} {b : Nat} {K : State → Heap → Prop} {sa : Nat → Nat} (hK : sx_Kk b K sa) {uG uN uD uR uF uP uL uT uA uM uH xA xC xD xE xF xG xH xI xJ xK xL uO : sx_C} {G : sx_H} {v1 : Int32} {xB : sx_C} {res : Int32 × sx_C} (h : f_X12_count xA v1 xB = some res) : sx_Runs D b K yX12_count YX12_count (sx_rm 0) [.ref (b + 38), .int v1] (sx_hp b uG uN uD uR uF uP uL uT uA uM uH xA xB xC xD xE xF xG xH xI xJ xK xL uO G) (sx_Ex (some (.int res.1)) (sx_hp b uG uN uD uR uF uP uL uT uA uM uH xA (res.2) xC xD xE xF xG xH xI xJ xK xL uO G)) := by
  rw [f_X12_count] at h
  refine sx_run (by decide +kernel) rfl rfl (Nat.le_of_ble_eq_true rfl) ?_
  refine at_aload_n 0 dX12_count_0 rfl ?_
  refine at_iconst 0 dX12_count_1 ic_0 ?_
  refine at_putf cl_X12 (by decide) fl_X12_73 rfl hg_38 rfl rfl (Nat.le_of_ble_eq_true rfl) hs_38_0 dX12_count_2 ?_
  refine at_iload_n 1 dX12_count_5 rfl ?_
  by_cases c1 : v1 = 0
  · rw [if_pos c1] at h
    refine at_tbC c1 44 dX12_count_6 (by decide) (by decide) rfl (by decide) ?_
    refine at_aload_n 0 dX12_count_44 rfl ?_
    refine at_getf cl_X12 (by decide) fl_X12_64 hg_38 rfl dX12_count_45 ?_
    cases h; exact at_iret rfl (Nat.le_refl _) (Nat.le_refl _) ⟨rfl, rfl⟩ dX12_count_48
  · rw [if_neg c1] at h
    by_cases c2 : v1 = 1
    · rw [if_pos c2] at h
      refine at_tbC c2 49 dX12_count_6 (by decide) (by decide) rfl (by decide) ?_
      refine at_aload_n 0 dX12_count_49 rfl ?_
      refine at_getf cl_X12 (by decide) fl_X12_198 hg_38 rfl dX12_count_50 ?_
      cases h; exact at_iret rfl (Nat.le_refl _) (Nat.le_refl _) ⟨rfl, rfl⟩ dX12_count_53
    · rw [if_neg c2] at h
      by_cases c3 : v1 = 2
      · rw [if_pos c3] at h
        refine at_tbC c3 54 dX12_count_6 (by decide) (by decide) rfl (by decide) ?_
        refine at_aload_n 0 dX12_count_54 rfl ?_
        refine at_getf cl_X12 (by decide) fl_X12_207 hg_38 rfl dX12_count_55 ?_
        cases h; exact at_iret rfl (Nat.le_refl _) (Nat.le_refl _) ⟨rfl, rfl⟩ dX12_count_58
      · rw [if_neg c3] at h
        by_cases c4 : v1 = 3
        · rw [if_pos c4] at h
          refine at_tbC c4 59 dX12_count_6 (by decide) (by decide) rfl (by decide) ?_
          refine at_aload_n 0 dX12_count_59 rfl ?_
          refine at_getf cl_X12 (by decide) fl_X12_67 hg_38 rfl dX12_count_60 ?_
          cases h; exact at_iret rfl (Nat.le_refl _) (Nat.le_refl _) ⟨rfl, rfl⟩ dX12_count_63
        · rw [if_neg c4] at h
          by_cases c5 : v1 = 4
          · rw [if_pos c5] at h
            refine at_tbC c5 64 dX12_count_6 (by decide) (by decide) rfl (by decide) ?_
            refine at_aload_n 0 dX12_count_64 rfl ?_
            refine at_getf cl_X12 (by decide) fl_X12_210 hg_38 rfl dX12_count_65 ?_
            cases h; exact at_iret rfl (Nat.le_refl _) (Nat.le_refl _) ⟨rfl, rfl⟩ dX12_count_68
          · rw [if_neg c5] at h
            by_cases c6 : v1 = 5
            · rw [if_pos c6] at h
              refine at_tbC c6 69 dX12_count_6 (by decide) (by decide) rfl (by decide) ?_
              refine at_aload_n 0 dX12_count_69 rfl ?_
              refine at_getf cl_X12 (by decide) fl_X12_76 hg_38 rfl dX12_count_70 ?_
              cases h; exact at_iret rfl (Nat.le_refl _) (Nat.le_refl _) ⟨rfl, rfl⟩ dX12_count_73
            · rw [if_neg c6] at h
              refine at_tbOut 74 dX12_count_6 (by have e0 := sp_ne (0) (by decide) c1; have e1 := sp_ne (1) (by decide) c2; have e2 := sp_ne (2) (by decide) c3; have e3 := sp_ne (3) (by decide) c4; have e4 := sp_ne (4) (by decide) c5; have e5 := sp_ne (5) (by decide) c6; omega) (by decide) ?_
              refine at_iconst (-1) dX12_count_74 ic_m1 ?_
              cases h; exact at_iret rfl (Nat.le_refl _) (Nat.le_refl _) ⟨rfl, rfl⟩ dX12_count_75
