set_option maxRecDepth 100000 in
theorem t_X12_grows_215 {D : va_G} {b : Nat} {K : State → Heap → Prop} {sa : Nat → Nat} (hK : sx_Kk b K sa) (N : Nat) {k23 : Int32 → Int32 → Int32 → sx_C → sx_C → Option (Bool × sx_C × sx_C)} {k41 : Int32 → Int32 → Int32 → Int32 → Int32 → sx_C → sx_C → Option (Bool × sx_C × sx_C)} {uG uN uD uR uF uP uL uT uA uM uH xA xB xC xD xE xH xI xJ xK xL uO : sx_C} {G : sx_H} (res : Bool × sx_C × sx_C) (hk23 : ∀ (v2 : Int32) (v3 : Int32) (v4 : Int32) (xF : sx_C) (xG : sx_C), k23 v2 v3 v4 xF xG = some res → sx_At D b K YX12_grows (sx_rm 1) (sx_Ex (some (.int (sp_b res.1))) (sx_hp b uG uN uD uR uF uP uL uT uA uM uH xA xB xC xD xE (res.2.1) (res.2.2) xH xI xJ xK xL uO G)) 23 [(0, .ref (b + 38)), (2, .int v2), (3, .int v3), (4, .int v4)] [] (sx_hp b uG uN uD uR uF uP uL uT uA uM uH xA xB xC xD xE xF xG xH xI xJ xK xL uO G) 0 0) (hk41 : ∀ (v2 : Int32) (v3 : Int32) (v4 : Int32) (v5 : Int32) (v6 : Int32) (xF : sx_C) (xG : sx_C), k41 v2 v3 v4 v5 v6 xF xG = some res → sx_At D b K YX12_grows (sx_rm 1) (sx_Ex (some (.int (sp_b res.1))) (sx_hp b uG uN uD uR uF uP uL uT uA uM uH xA xB xC xD xE (res.2.1) (res.2.2) xH xI xJ xK xL uO G)) 41 [(0, .ref (b + 38)), (2, .int v2), (3, .int v3), (4, .int v4), (5, .int v5), (6, .int v6)] [] (sx_hp b uG uN uD uR uF uP uL uT uA uM uH xA xB xC xD xE xF xG xH xI xJ xK xL uO G) 0 0) : ∀ (v2 : Int32) (v3 : Int32) (v4 : Int32) (v5 : Int32) (v6 : Int32) (xF : sx_C) (xG : sx_C), f_X12_grows_215 N k23 k41 xA xE v2 v3 v4 v5 v6 xF xG = some res → sx_At D b K YX12_grows (sx_rm 1) (sx_Ex (some (.int (sp_b res.1))) (sx_hp b uG uN uD uR uF uP uL uT uA uM uH xA xB xC xD xE (res.2.1) (res.2.2) xH xI xJ xK xL uO G)) 215 [(0, .ref (b + 38)), (2, .int v2), (3, .int v3), (4, .int v4), (5, .int v5), (6, .int v6)] [] (sx_hp b uG uN uD uR uF uP uL uT uA uM uH xA xB xC xD xE xF xG xH xI xJ xK xL uO G) 0 0 := by
  intro v2 v3 v4 v5 v6 xF xG h
  rw [f_X12_grows_215] at h
  refine at_iinc 5 1 [(0, .ref (b + 38)), (2, .int v2), (3, .int v3), (4, .int v4), (5, .int v5), (6, .int (v6 + 1))] dX12_grows_215 rfl ic_1 (Nat.le_of_ble_eq_true rfl) rfl ?_
  refine at_goto 41 dX12_grows_218 (by decide) ?_
  exact hk41 _ _ _ _ _ _ _ h
set_option maxRecDepth 100000 in
theorem t_X12_grows_209 {D : va_G} {b : Nat} {K : State → Heap → Prop} {sa : Nat → Nat} (hK : sx_Kk b K sa) (N : Nat) {k23 : Int32 → Int32 → Int32 → sx_C → sx_C → Option (Bool × sx_C × sx_C)} {k41 : Int32 → Int32 → Int32 → Int32 → Int32 → sx_C → sx_C → Option (Bool × sx_C × sx_C)} {k98 : Int32 → Int32 → Int32 → Int32 → Int32 → Int32 → sx_C → sx_C → Option (Bool × sx_C × sx_C)} {uG uN uD uR uF uP uL uT uA uM uH xA xB xC xD xE xH xI xJ xK xL uO : sx_C} {G : sx_H} (res : Bool × sx_C × sx_C) (hk23 : ∀ (v2 : Int32) (v3 : Int32) (v4 : Int32) (xF : sx_C) (xG : sx_C), k23 v2 v3 v4 xF xG = some res → sx_At D b K YX12_grows (sx_rm 1) (sx_Ex (some (.int (sp_b res.1))) (sx_hp b uG uN uD uR uF uP uL uT uA uM uH xA xB xC xD xE (res.2.1) (res.2.2) xH xI xJ xK xL uO G)) 23 [(0, .ref (b + 38)), (2, .int v2), (3, .int v3), (4, .int v4)] [] (sx_hp b uG uN uD uR uF uP uL uT uA uM uH xA xB xC xD xE xF xG xH xI xJ xK xL uO G) 0 0) (hk41 : ∀ (v2 : Int32) (v3 : Int32) (v4 : Int32) (v5 : Int32) (v6 : Int32) (xF : sx_C) (xG : sx_C), k41 v2 v3 v4 v5 v6 xF xG = some res → sx_At D b K YX12_grows (sx_rm 1) (sx_Ex (some (.int (sp_b res.1))) (sx_hp b uG uN uD uR uF uP uL uT uA uM uH xA xB xC xD xE (res.2.1) (res.2.2) xH xI xJ xK xL uO G)) 41 [(0, .ref (b + 38)), (2, .int v2), (3, .int v3), (4, .int v4), (5, .int v5), (6, .int v6)] [] (sx_hp b uG uN uD uR uF uP uL uT uA uM uH xA xB xC xD xE xF xG xH xI xJ xK xL uO G) 0 0) (hk98 : ∀ (v2 : Int32) (v3 : Int32) (v4 : Int32) (v5 : Int32) (v6 : Int32) (v7 : Int32) (xF : sx_C) (xG : sx_C), k98 v2 v3 v4 v5 v6 v7 xF xG = some res → sx_At D b K YX12_grows (sx_rm 1) (sx_Ex (some (.int (sp_b res.1))) (sx_hp b uG uN uD uR uF uP uL uT uA uM uH xA xB xC xD xE (res.2.1) (res.2.2) xH xI xJ xK xL uO G)) 98 [(0, .ref (b + 38)), (2, .int v2), (3, .int v3), (4, .int v4), (5, .int v5), (6, .int v6), (7, .int v7)] [] (sx_hp b uG uN uD uR uF uP uL uT uA uM uH xA xB xC xD xE xF xG xH xI xJ xK xL uO G) 0 0) : ∀ (v2 : Int32) (v3 : Int32) (v4 : Int32) (v5 : Int32) (v6 : Int32) (v7 : Int32) (xF : sx_C) (xG : sx_C), f_X12_grows_209 N k23 k41 k98 xA xE v2 v3 v4 v5 v6 v7 xF xG = some res → sx_At D b K YX12_grows (sx_rm 1) (sx_Ex (some (.int (sp_b res.1))) (sx_hp b uG uN uD uR uF uP uL uT uA uM uH xA xB xC xD xE (res.2.1) (res.2.2) xH xI xJ xK xL uO G)) 209 [(0, .ref (b + 38)), (2, .int v2), (3, .int v3), (4, .int v4), (5, .int v5), (6, .int v6), (7, .int v7)] [] (sx_hp b uG uN uD uR uF uP uL uT uA uM uH xA xB xC xD xE xF xG xH xI xJ xK xL uO G) 0 0 := by
  intro v2 v3 v4 v5 v6 v7 xF xG h
  rw [f_X12_grows_209] at h
  refine at_iinc 6 1 [(0, .ref (b + 38)), (2, .int v2), (3, .int v3), (4, .int v4), (5, .int v5), (6, .int v6), (7, .int (v7 + 1))] dX12_grows_209 rfl ic_1 (Nat.le_of_ble_eq_true rfl) rfl ?_
  refine at_goto 98 dX12_grows_212 (by decide) ?_
  exact hk98 _ _ _ _ _ _ _ _ h
set_option maxRecDepth 100000 in
theorem t_X12_grows_163 {D : va_G} {b : Nat} {K : State → Heap → Prop} {sa : Nat → Nat} (hK : sx_Kk b K sa) (N : Nat) {k23 : Int32 → Int32 → Int32 → sx_C → sx_C → Option (Bool × sx_C × sx_C)} {k41 : Int32 → Int32 → Int32 → Int32 → Int32 → sx_C → sx_C → Option (Bool × sx_C × sx_C)} {k98 : Int32 → Int32 → Int32 → Int32 → Int32 → Int32 → sx_C → sx_C → Option (Bool × sx_C × sx_C)} {uG uN uD uR uF uP uL uT uA uM uH xA xB xC xD xE xH xI xJ xK xL uO : sx_C} {G : sx_H} (res : Bool × sx_C × sx_C) (hk23 : ∀ (v2 : Int32) (v3 : Int32) (v4 : Int32) (xF : sx_C) (xG : sx_C), k23 v2 v3 v4 xF xG = some res → sx_At D b K YX12_grows (sx_rm 1) (sx_Ex (some (.int (sp_b res.1))) (sx_hp b uG uN uD uR uF uP uL uT uA uM uH xA xB xC xD xE (res.2.1) (res.2.2) xH xI xJ xK xL uO G)) 23 [(0, .ref (b + 38)), (2, .int v2), (3, .int v3), (4, .int v4)] [] (sx_hp b uG uN uD uR uF uP uL uT uA uM uH xA xB xC xD xE xF xG xH xI xJ xK xL uO G) 0 0) (hk41 : ∀ (v2 : Int32) (v3 : Int32) (v4 : Int32) (v5 : Int32) (v6 : Int32) (xF : sx_C) (xG : sx_C), k41 v2 v3 v4 v5 v6 xF xG = some res → sx_At D b K YX12_grows (sx_rm 1) (sx_Ex (some (.int (sp_b res.1))) (sx_hp b uG uN uD uR uF uP uL uT uA uM uH xA xB xC xD xE (res.2.1) (res.2.2) xH xI xJ xK xL uO G)) 41 [(0, .ref (b + 38)), (2, .int v2), (3, .int v3), (4, .int v4), (5, .int v5), (6, .int v6)] [] (sx_hp b uG uN uD uR uF uP uL uT uA uM uH xA xB xC xD xE xF xG xH xI xJ xK xL uO G) 0 0) (hk98 : ∀ (v2 : Int32) (v3 : Int32) (v4 : Int32) (v5 : Int32) (v6 : Int32) (v7 : Int32) (xF : sx_C) (xG : sx_C), k98 v2 v3 v4 v5 v6 v7 xF xG = some res → sx_At D b K YX12_grows (sx_rm 1) (sx_Ex (some (.int (sp_b res.1))) (sx_hp b uG uN uD uR uF uP uL uT uA uM uH xA xB xC xD xE (res.2.1) (res.2.2) xH xI xJ xK xL uO G)) 98 [(0, .ref (b + 38)), (2, .int v2), (3, .int v3), (4, .int v4), (5, .int v5), (6, .int v6), (7, .int v7)] [] (sx_hp b uG uN uD uR uF uP uL uT uA uM uH xA xB xC xD xE xF xG xH xI xJ xK xL uO G) 0 0) : ∀ (v2 : Int32) (v3 : Int32) (v4 : Int32) (v5 : Int32) (v6 : Int32) (v7 : Int32) (s0 : Int32) (xF : sx_C) (xG : sx_C), f_X12_grows_163 N k23 k41 k98 xA xE v2 v3 v4 v5 v6 v7 s0 xF xG = some res → sx_At D b K YX12_grows (sx_rm 1) (sx_Ex (some (.int (sp_b res.1))) (sx_hp b uG uN uD uR uF uP uL uT uA uM uH xA xB xC xD xE (res.2.1) (res.2.2) xH xI xJ xK xL uO G)) 163 [(0, .ref (b + 38)), (2, .int v2), (3, .int v3), (4, .int v4), (5, .int v5), (6, .int v6), (7, .int v7)] [.int s0] (sx_hp b uG uN uD uR uF uP uL uT uA uM uH xA xB xC xD xE xF xG xH xI xJ xK xL uO G) 0 0 := by
  intro v2 v3 v4 v5 v6 v7 s0 xF xG h
  rw [f_X12_grows_163] at h
  refine at_istore [(0, .ref (b + 38)), (2, .int v2), (3, .int v3), (4, .int v4), (5, .int v5), (6, .int v6), (7, .int v7), (8, .int s0)] dX12_grows_163 (Nat.le_of_ble_eq_true rfl) rfl ?_
  refine at_iload 7 dX12_grows_165 rfl ?_
  refine at_if_ne 173 dX12_grows_167 (by decide) (fun c17 => ?_) (fun c17 => ?_)
  · rw [if_neg c17] at h
    refine at_iload_n 1 dX12_grows_173 rfl ?_
    refine at_iconst 1 dX12_grows_174 ic_1 ?_
    refine at_iload 6 dX12_grows_175 rfl ?_
    refine at_ishl dX12_grows_177 ?_
    refine at_ior dX12_grows_178 ?_
    refine at_istore_n [(0, .ref (b + 38)), (2, .int (v2 ||| (sp_shl 1 v7))), (3, .int v3), (4, .int v4), (5, .int v5), (6, .int v6), (7, .int v7), (8, .int s0)] dX12_grows_179 (Nat.le_of_ble_eq_true rfl) rfl ?_
    refine at_aload_n 0 dX12_grows_180 rfl ?_
    refine at_getf cl_X12 (by decide) fl_X12_47 hg_38 rfl dX12_grows_181 ?_
    refine at_iload 6 dX12_grows_184 rfl ?_
    refine at_iload 4 dX12_grows_186 rfl ?_
    obtain ⟨hi18, h⟩ := sp_chk h
    refine at_iast hg_50 hi18 hs_50 dX12_grows_188 ?_
    refine at_aload_n 0 dX12_grows_189 rfl ?_
    refine at_getf cl_X12 (by decide) fl_X12_50 hg_38 rfl dX12_grows_190 ?_
    refine at_iload 6 dX12_grows_193 rfl ?_
    refine at_iload 5 dX12_grows_195 rfl ?_
    obtain ⟨hi19, h⟩ := sp_chk h
    refine at_iast hg_51 hi19 hs_51 dX12_grows_197 ?_
    refine at_aload_n 0 dX12_grows_198 rfl ?_
    refine at_getf cl_X12 (by decide) fl_X12_44 hg_38 rfl dX12_grows_199 ?_
    refine at_iload_n 2 dX12_grows_202 rfl ?_
    refine at_iload 6 dX12_grows_203 rfl ?_
    obtain ⟨hi20, h⟩ := sp_chk h
    refine at_iast hg_49 hi20 hs_49 dX12_grows_205 ?_
    refine at_iinc 2 1 [(0, .ref (b + 38)), (2, .int (v2 ||| (sp_shl 1 v7))), (3, .int (v3 + 1)), (4, .int v4), (5, .int v5), (6, .int v6), (7, .int v7), (8, .int s0)] dX12_grows_206 rfl ic_1 (Nat.le_of_ble_eq_true rfl) rfl ?_
    refine at_sub [0, 1, 2, 3, 4, 5, 6] [(0, .ref (b + 38)), (2, .int (v2 ||| (sp_shl 1 v7))), (3, .int (v3 + 1)), (4, .int v4), (5, .int v5), (6, .int v6), (7, .int v7)] rfl ?_
    exact t_X12_grows_209 hK N _ hk23 hk41 hk98 _ _ _ _ _ _ _ _ h
  · rw [if_pos c17] at h
    refine at_goto 209 dX12_grows_170 (by decide) ?_
    refine at_sub [0, 1, 2, 3, 4, 5, 6] [(0, .ref (b + 38)), (2, .int v2), (3, .int v3), (4, .int v4), (5, .int v5), (6, .int v6), (7, .int v7)] rfl ?_
    exact t_X12_grows_209 hK N _ hk23 hk41 hk98 _ _ _ _ _ _ _ _ h
set_option maxRecDepth 100000 in
theorem t_X12_grows_162 {D : va_G} {b : Nat} {K : State → Heap → Prop} {sa : Nat → Nat} (hK : sx_Kk b K sa) (N : Nat) {k23 : Int32 → Int32 → Int32 → sx_C → sx_C → Option (Bool × sx_C × sx_C)} {k41 : Int32 → Int32 → Int32 → Int32 → Int32 → sx_C → sx_C → Option (Bool × sx_C × sx_C)} {k98 : Int32 → Int32 → Int32 → Int32 → Int32 → Int32 → sx_C → sx_C → Option (Bool × sx_C × sx_C)} {uG uN uD uR uF uP uL uT uA uM uH xA xB xC xD xE xH xI xJ xK xL uO : sx_C} {G : sx_H} (res : Bool × sx_C × sx_C) (hk23 : ∀ (v2 : Int32) (v3 : Int32) (v4 : Int32) (xF : sx_C) (xG : sx_C), k23 v2 v3 v4 xF xG = some res → sx_At D b K YX12_grows (sx_rm 1) (sx_Ex (some (.int (sp_b res.1))) (sx_hp b uG uN uD uR uF uP uL uT uA uM uH xA xB xC xD xE (res.2.1) (res.2.2) xH xI xJ xK xL uO G)) 23 [(0, .ref (b + 38)), (2, .int v2), (3, .int v3), (4, .int v4)] [] (sx_hp b uG uN uD uR uF uP uL uT uA uM uH xA xB xC xD xE xF xG xH xI xJ xK xL uO G) 0 0) (hk41 : ∀ (v2 : Int32) (v3 : Int32) (v4 : Int32) (v5 : Int32) (v6 : Int32) (xF : sx_C) (xG : sx_C), k41 v2 v3 v4 v5 v6 xF xG = some res → sx_At D b K YX12_grows (sx_rm 1) (sx_Ex (some (.int (sp_b res.1))) (sx_hp b uG uN uD uR uF uP uL uT uA uM uH xA xB xC xD xE (res.2.1) (res.2.2) xH xI xJ xK xL uO G)) 41 [(0, .ref (b + 38)), (2, .int v2), (3, .int v3), (4, .int v4), (5, .int v5), (6, .int v6)] [] (sx_hp b uG uN uD uR uF uP uL uT uA uM uH xA xB xC xD xE xF xG xH xI xJ xK xL uO G) 0 0) (hk98 : ∀ (v2 : Int32) (v3 : Int32) (v4 : Int32) (v5 : Int32) (v6 : Int32) (v7 : Int32) (xF : sx_C) (xG : sx_C), k98 v2 v3 v4 v5 v6 v7 xF xG = some res → sx_At D b K YX12_grows (sx_rm 1) (sx_Ex (some (.int (sp_b res.1))) (sx_hp b uG uN uD uR uF uP uL uT uA uM uH xA xB xC xD xE (res.2.1) (res.2.2) xH xI xJ xK xL uO G)) 98 [(0, .ref (b + 38)), (2, .int v2), (3, .int v3), (4, .int v4), (5, .int v5), (6, .int v6), (7, .int v7)] [] (sx_hp b uG uN uD uR uF uP uL uT uA uM uH xA xB xC xD xE xF xG xH xI xJ xK xL uO G) 0 0) : ∀ (v2 : Int32) (v3 : Int32) (v4 : Int32) (v5 : Int32) (v6 : Int32) (v7 : Int32) (xF : sx_C) (xG : sx_C), f_X12_grows_162 N k23 k41 k98 xA xE v2 v3 v4 v5 v6 v7 xF xG = some res → sx_At D b K YX12_grows (sx_rm 1) (sx_Ex (some (.int (sp_b res.1))) (sx_hp b uG uN uD uR uF uP uL uT uA uM uH xA xB xC xD xE (res.2.1) (res.2.2) xH xI xJ xK xL uO G)) 162 [(0, .ref (b + 38)), (2, .int v2), (3, .int v3), (4, .int v4), (5, .int v5), (6, .int v6), (7, .int v7)] [] (sx_hp b uG uN uD uR uF uP uL uT uA uM uH xA xB xC xD xE xF xG xH xI xJ xK xL uO G) 0 0 := by
  intro v2 v3 v4 v5 v6 v7 xF xG h
  rw [f_X12_grows_162] at h
  refine at_iconst 0 dX12_grows_162 ic_0 ?_
  exact t_X12_grows_163 hK N _ hk23 hk41 hk98 _ _ _ _ _ _ _ _ _ h
set_option maxRecDepth 100000 in
theorem t_X12_grows_98 {D : va_G} {b : Nat} {K : State → Heap → Prop} {sa : Nat → Nat} (hK : sx_Kk b K sa) (N : Nat) {k23 : Int32 → Int32 → Int32 → sx_C → sx_C → Option (Bool × sx_C × sx_C)} {k41 : Int32 → Int32 → Int32 → Int32 → Int32 → sx_C → sx_C → Option (Bool × sx_C × sx_C)} {uG uN uD uR uF uP uL uT uA uM uH xA xB xC xD xE xH xI xJ xK xL uO : sx_C} {G : sx_H} (res : Bool × sx_C × sx_C) (hk23 : ∀ (v2 : Int32) (v3 : Int32) (v4 : Int32) (xF : sx_C) (xG : sx_C), k23 v2 v3 v4 xF xG = some res → sx_At D b K YX12_grows (sx_rm 1) (sx_Ex (some (.int (sp_b res.1))) (sx_hp b uG uN uD uR uF uP uL uT uA uM uH xA xB xC xD xE (res.2.1) (res.2.2) xH xI xJ xK xL uO G)) 23 [(0, .ref (b + 38)), (2, .int v2), (3, .int v3), (4, .int v4)] [] (sx_hp b uG uN uD uR uF uP uL uT uA uM uH xA xB xC xD xE xF xG xH xI xJ xK xL uO G) 0 0) (hk41 : ∀ (v2 : Int32) (v3 : Int32) (v4 : Int32) (v5 : Int32) (v6 : Int32) (xF : sx_C) (xG : sx_C), k41 v2 v3 v4 v5 v6 xF xG = some res → sx_At D b K YX12_grows (sx_rm 1) (sx_Ex (some (.int (sp_b res.1))) (sx_hp b uG uN uD uR uF uP uL uT uA uM uH xA xB xC xD xE (res.2.1) (res.2.2) xH xI xJ xK xL uO G)) 41 [(0, .ref (b + 38)), (2, .int v2), (3, .int v3), (4, .int v4), (5, .int v5), (6, .int v6)] [] (sx_hp b uG uN uD uR uF uP uL uT uA uM uH xA xB xC xD xE xF xG xH xI xJ xK xL uO G) 0 0) : ∀ (n0 : Nat) (v2 : Int32) (v3 : Int32) (v4 : Int32) (v5 : Int32) (v6 : Int32) (v7 : Int32) (xF : sx_C) (xG : sx_C), f_X12_grows_98 N k23 k41 xA xE n0 v2 v3 v4 v5 v6 v7 xF xG = some res → sx_At D b K YX12_grows (sx_rm 1) (sx_Ex (some (.int (sp_b res.1))) (sx_hp b uG uN uD uR uF uP uL uT uA uM uH xA xB xC xD xE (res.2.1) (res.2.2) xH xI xJ xK xL uO G)) 98 [(0, .ref (b + 38)), (2, .int v2), (3, .int v3), (4, .int v4), (5, .int v5), (6, .int v6), (7, .int v7)] [] (sx_hp b uG uN uD uR uF uP uL uT uA uM uH xA xB xC xD xE xF xG xH xI xJ xK xL uO G) 0 0 := by
  intro n0
  induction n0 with
  | zero => intro _ _ _ _ _ _ _ _ h; cases h
  | succ n0 ih =>
    intro v2 v3 v4 v5 v6 v7 xF xG h
    rw [f_X12_grows_98] at h
    refine at_iload 6 dX12_grows_98 rfl ?_
    refine at_aload_n 0 dX12_grows_100 rfl ?_
    refine at_getf cl_X12 (by decide) fl_X12_198 hg_38 rfl dX12_grows_101 ?_
    refine at_icmp_ge 215 dX12_grows_104 (by decide) (fun c10 => ?_) (fun c10 => ?_)
    · rw [if_pos c10] at h
      refine at_sub [0, 1, 2, 3, 4, 5] [(0, .ref (b + 38)), (2, .int v2), (3, .int v3), (4, .int v4), (5, .int v5), (6, .int v6)] rfl ?_
      exact t_X12_grows_215 hK N _ hk23 hk41 _ _ _ _ _ _ _ h
    · rw [if_neg c10] at h
      refine at_aload_n 0 dX12_grows_107 rfl ?_
      refine at_getf cl_X12 (by decide) fl_X12_41 hg_38 rfl dX12_grows_108 ?_
      refine at_iload 5 dX12_grows_111 rfl ?_
      obtain ⟨w11, hw11, h⟩ := sp_bind h
      refine at_iald hg_48 hw11 dX12_grows_113 ?_
      refine at_iload 6 dX12_grows_114 rfl ?_
      refine at_ishr dX12_grows_116 ?_
      refine at_iconst 1 dX12_grows_117 ic_1 ?_
      refine at_iand dX12_grows_118 ?_
      refine at_iconst 1 dX12_grows_119 ic_1 ?_
      refine at_icmp_ne 162 dX12_grows_120 (by decide) (fun c12 => ?_) (fun c12 => ?_)
      · rw [if_neg c12] at h
        exact t_X12_grows_162 hK N _ hk23 hk41 ih _ _ _ _ _ _ _ _ h
      · rw [if_pos c12] at h
        refine at_iload_n 1 dX12_grows_123 rfl ?_
        refine at_iload 6 dX12_grows_124 rfl ?_
        refine at_ishr dX12_grows_126 ?_
        refine at_iconst 1 dX12_grows_127 ic_1 ?_
        refine at_iand dX12_grows_128 ?_
        refine at_if_ne 162 dX12_grows_129 (by decide) (fun c13 => ?_) (fun c13 => ?_)
        · rw [if_neg c13] at h
          exact t_X12_grows_162 hK N _ hk23 hk41 ih _ _ _ _ _ _ _ _ h
        · rw [if_pos c13] at h
          refine at_aload_n 0 dX12_grows_132 rfl ?_
          refine at_aload_n 0 dX12_grows_133 rfl ?_
          refine at_getf cl_X12 (by decide) fl_X12_41 hg_38 rfl dX12_grows_134 ?_
          refine at_iload 5 dX12_grows_137 rfl ?_
          obtain ⟨w14, hw14, h⟩ := sp_bind h
          refine at_iald hg_48 hw14 dX12_grows_139 ?_
          refine at_iconst 1 dX12_grows_140 ic_1 ?_
          refine at_iload 6 dX12_grows_141 rfl ?_
          refine at_ishl dX12_grows_143 ?_
          refine at_iconst (-1) dX12_grows_144 ic_m1 ?_
          refine at_ixor dX12_grows_145 ?_
          refine at_iand dX12_grows_146 ?_
          refine at_iconst 1 dX12_grows_147 ic_1 ?_
          refine at_iload 4 dX12_grows_148 rfl ?_
          refine at_ishl dX12_grows_150 ?_
          refine at_ior dX12_grows_151 ?_
          obtain ⟨q15, hq15, h⟩ := sp_bind h
          refine at_callVi (st := []) hK mt_X12_isForest ml_X12_233 cl_X12 hg_38 (t_X12_isForest hK hq15) rfl rfl (Nat.le_of_ble_eq_true rfl) ⟨Nat.le_of_ble_eq_true rfl, Nat.le_of_ble_eq_true rfl⟩ ⟨Nat.le_refl _, Nat.le_refl _⟩ dX12_grows_152 ?_
          refine at_zeq 162 dX12_grows_155 (by decide) (fun c16 => ?_) (fun c16 => ?_)
          · rw [if_neg c16] at h
            exact t_X12_grows_162 hK N _ hk23 hk41 ih _ _ _ _ _ _ _ _ h
          · rw [if_pos c16] at h
            refine at_iconst 1 dX12_grows_158 ic_1 ?_
            refine at_goto 163 dX12_grows_159 (by decide) ?_
            exact t_X12_grows_163 hK N _ hk23 hk41 ih _ _ _ _ _ _ _ _ _ h
set_option maxRecDepth 100000 in
theorem t_X12_grows_41 {D : va_G} {b : Nat} {K : State → Heap → Prop} {sa : Nat → Nat} (hK : sx_Kk b K sa) (N : Nat) {k23 : Int32 → Int32 → Int32 → sx_C → sx_C → Option (Bool × sx_C × sx_C)} {uG uN uD uR uF uP uL uT uA uM uH xA xB xC xD xE xH xI xJ xK xL uO : sx_C} {G : sx_H} (res : Bool × sx_C × sx_C) (hk23 : ∀ (v2 : Int32) (v3 : Int32) (v4 : Int32) (xF : sx_C) (xG : sx_C), k23 v2 v3 v4 xF xG = some res → sx_At D b K YX12_grows (sx_rm 1) (sx_Ex (some (.int (sp_b res.1))) (sx_hp b uG uN uD uR uF uP uL uT uA uM uH xA xB xC xD xE (res.2.1) (res.2.2) xH xI xJ xK xL uO G)) 23 [(0, .ref (b + 38)), (2, .int v2), (3, .int v3), (4, .int v4)] [] (sx_hp b uG uN uD uR uF uP uL uT uA uM uH xA xB xC xD xE xF xG xH xI xJ xK xL uO G) 0 0) : ∀ (n0 : Nat) (v2 : Int32) (v3 : Int32) (v4 : Int32) (v5 : Int32) (v6 : Int32) (xF : sx_C) (xG : sx_C), f_X12_grows_41 N k23 xA xE n0 v2 v3 v4 v5 v6 xF xG = some res → sx_At D b K YX12_grows (sx_rm 1) (sx_Ex (some (.int (sp_b res.1))) (sx_hp b uG uN uD uR uF uP uL uT uA uM uH xA xB xC xD xE (res.2.1) (res.2.2) xH xI xJ xK xL uO G)) 41 [(0, .ref (b + 38)), (2, .int v2), (3, .int v3), (4, .int v4), (5, .int v5), (6, .int v6)] [] (sx_hp b uG uN uD uR uF uP uL uT uA uM uH xA xB xC xD xE xF xG xH xI xJ xK xL uO G) 0 0 := by
  intro n0
  induction n0 with
  | zero => intro _ _ _ _ _ _ _ h; cases h
  | succ n0 ih =>
    intro v2 v3 v4 v5 v6 xF xG h
    rw [f_X12_grows_41] at h
    refine at_iload 5 dX12_grows_41 rfl ?_
    refine at_iconst 2 dX12_grows_43 ic_2 ?_
    refine at_icmp_ge 221 dX12_grows_44 (by decide) (fun c3 => ?_) (fun c3 => ?_)
    · rw [if_pos c3] at h
      refine at_iinc 3 1 [(0, .ref (b + 38)), (2, .int v2), (3, .int v3), (4, .int (v4 + 1)), (5, .int v5), (6, .int v6)] dX12_grows_221 rfl ic_1 (Nat.le_of_ble_eq_true rfl) rfl ?_
      refine at_goto 23 dX12_grows_224 (by decide) ?_
      refine at_sub [0, 1, 2, 3] [(0, .ref (b + 38)), (2, .int v2), (3, .int v3), (4, .int (v4 + 1))] rfl ?_
      exact hk23 _ _ _ _ _ h
    · rw [if_neg c3] at h
      refine at_aload_n 0 dX12_grows_47 rfl ?_
      refine at_getf cl_X12 (by decide) fl_X12_41 hg_38 rfl dX12_grows_48 ?_
      refine at_iload 5 dX12_grows_51 rfl ?_
      obtain ⟨w4, hw4, h⟩ := sp_bind h
      refine at_iald hg_48 hw4 dX12_grows_53 ?_
      refine at_iload 4 dX12_grows_54 rfl ?_
      refine at_ishr dX12_grows_56 ?_
      refine at_iconst 1 dX12_grows_57 ic_1 ?_
      refine at_iand dX12_grows_58 ?_
      refine at_iconst 1 dX12_grows_59 ic_1 ?_
      refine at_icmp_ne 66 dX12_grows_60 (by decide) (fun c5 => ?_) (fun c5 => ?_)
      · rw [if_neg c5] at h
        refine at_aload_n 0 dX12_grows_66 rfl ?_
        refine at_aload_n 0 dX12_grows_67 rfl ?_
        refine at_getf cl_X12 (by decide) fl_X12_41 hg_38 rfl dX12_grows_68 ?_
        refine at_iload 5 dX12_grows_71 rfl ?_
        obtain ⟨w6, hw6, h⟩ := sp_bind h
        refine at_iald hg_48 hw6 dX12_grows_73 ?_
        refine at_iconst 1 dX12_grows_74 ic_1 ?_
        refine at_iload 4 dX12_grows_75 rfl ?_
        refine at_ishl dX12_grows_77 ?_
        refine at_ior dX12_grows_78 ?_
        obtain ⟨q7, hq7, h⟩ := sp_bind h
        refine at_callVi (st := []) hK mt_X12_isForest ml_X12_233 cl_X12 hg_38 (t_X12_isForest hK hq7) rfl rfl (Nat.le_of_ble_eq_true rfl) ⟨Nat.le_of_ble_eq_true rfl, Nat.le_of_ble_eq_true rfl⟩ ⟨Nat.le_refl _, Nat.le_refl _⟩ dX12_grows_79 ?_
        refine at_zeq 95 dX12_grows_82 (by decide) (fun c8 => ?_) (fun c8 => ?_)
        · rw [if_neg c8] at h
          refine at_iconst 0 dX12_grows_95 ic_0 ?_
          refine at_istore [(0, .ref (b + 38)), (2, .int v2), (3, .int v3), (4, .int v4), (5, .int v5), (6, .int v6), (7, .int 0)] dX12_grows_96 (Nat.le_of_ble_eq_true rfl) rfl ?_
          exact t_X12_grows_98 hK N _ hk23 ih N _ _ _ _ _ _ _ _ h
        · rw [if_pos c8] at h
          refine at_aload_n 0 dX12_grows_85 rfl ?_
          refine at_iload 4 dX12_grows_86 rfl ?_
          refine at_iload 5 dX12_grows_88 rfl ?_
          obtain ⟨q9, hq9, h⟩ := sp_bind h
          refine at_callVv (st := []) hK mt_X12_settles ml_X12_244 cl_X12 hg_38 (t_X12_settles hK hq9) rfl rfl (Nat.le_of_ble_eq_true rfl) ⟨Nat.le_of_ble_eq_true rfl, Nat.le_of_ble_eq_true rfl⟩ ⟨Nat.le_refl _, Nat.le_refl _⟩ dX12_grows_90 ?_
          refine at_iconst 1 dX12_grows_93 ic_1 ?_
          cases h; exact at_zret rfl rfl (Nat.le_refl _) (Nat.le_refl _) ⟨rfl, rfl⟩ dX12_grows_94
      · rw [if_pos c5] at h
        refine at_goto 215 dX12_grows_63 (by decide) ?_
        exact t_X12_grows_215 hK N _ hk23 ih _ _ _ _ _ _ _ h
set_option maxRecDepth 100000 in
theorem t_X12_grows_23 {D : va_G} {b : Nat} {K : State → Heap → Prop} {sa : Nat → Nat} (hK : sx_Kk b K sa) (N : Nat) {uG uN uD uR uF uP uL uT uA uM uH xA xB xC xD xE xH xI xJ xK xL uO : sx_C} {G : sx_H} (res : Bool × sx_C × sx_C) : ∀ (n0 : Nat) (v2 : Int32) (v3 : Int32) (v4 : Int32) (xF : sx_C) (xG : sx_C), f_X12_grows_23 N xA xE n0 v2 v3 v4 xF xG = some res → sx_At D b K YX12_grows (sx_rm 1) (sx_Ex (some (.int (sp_b res.1))) (sx_hp b uG uN uD uR uF uP uL uT uA uM uH xA xB xC xD xE (res.2.1) (res.2.2) xH xI xJ xK xL uO G)) 23 [(0, .ref (b + 38)), (2, .int v2), (3, .int v3), (4, .int v4)] [] (sx_hp b uG uN uD uR uF uP uL uT uA uM uH xA xB xC xD xE xF xG xH xI xJ xK xL uO G) 0 0 := by
  intro n0
  induction n0 with
  | zero => intro _ _ _ _ _ h; cases h
  | succ n0 ih =>
    intro v2 v3 v4 xF xG h
    rw [f_X12_grows_23] at h
    refine at_iload 3 dX12_grows_23 rfl ?_
    refine at_iload_n 2 dX12_grows_25 rfl ?_
    refine at_icmp_ge 227 dX12_grows_26 (by decide) (fun c1 => ?_) (fun c1 => ?_)
    · rw [if_pos c1] at h
      refine at_iconst 0 dX12_grows_227 ic_0 ?_
      cases h; exact at_zret rfl rfl (Nat.le_refl _) (Nat.le_refl _) ⟨rfl, rfl⟩ dX12_grows_228
    · rw [if_neg c1] at h
      refine at_aload_n 0 dX12_grows_29 rfl ?_
      refine at_getf cl_X12 (by decide) fl_X12_44 hg_38 rfl dX12_grows_30 ?_
      refine at_iload 3 dX12_grows_33 rfl ?_
      obtain ⟨w2, hw2, h⟩ := sp_bind h
      refine at_iald hg_49 hw2 dX12_grows_35 ?_
      refine at_istore [(0, .ref (b + 38)), (2, .int v2), (3, .int v3), (4, .int v4), (5, .int w2)] dX12_grows_36 (Nat.le_of_ble_eq_true rfl) rfl ?_
      refine at_iconst 0 dX12_grows_38 ic_0 ?_
      refine at_istore [(0, .ref (b + 38)), (2, .int v2), (3, .int v3), (4, .int v4), (5, .int w2), (6, .int 0)] dX12_grows_39 (Nat.le_of_ble_eq_true rfl) rfl ?_
      exact t_X12_grows_41 hK N _ ih N _ _ _ _ _ _ _ h
set_option maxRecDepth 100000 in
theorem t_X12_grows {D : va_G} {b : Nat} {K : State → Heap → Prop} {sa : Nat → Nat} (hK : sx_Kk b K sa) {N : Nat} {uG uN uD uR uF uP uL uT uA uM uH xA xB xC xD xE xH xI xJ xK xL uO : sx_C} {G : sx_H} {v1 : Int32} {xF : sx_C} {xG : sx_C} {res : Bool × sx_C × sx_C} (h : f_X12_grows N xA xE v1 xF xG = some res) : sx_Runs D b K yX12_grows YX12_grows (sx_rm 1) [.ref (b + 38), .int v1] (sx_hp b uG uN uD uR uF uP uL uT uA uM uH xA xB xC xD xE xF xG xH xI xJ xK xL uO G) (sx_Ex (some (.int (sp_b res.1))) (sx_hp b uG uN uD uR uF uP uL uT uA uM uH xA xB xC xD xE (res.2.1) (res.2.2) xH xI xJ xK xL uO G)) := by
  rw [f_X12_grows] at h
  refine sx_run (by decide +kernel) rfl rfl (Nat.le_of_ble_eq_true rfl) ?_
  refine at_iconst 1 dX12_grows_0 ic_1 ?_
  refine at_iload_n 1 dX12_grows_1 rfl ?_
  refine at_ishl dX12_grows_2 ?_
  refine at_istore_n [(0, .ref (b + 38)), (1, .int v1), (2, .int (sp_shl 1 v1))] dX12_grows_3 (Nat.le_of_ble_eq_true rfl) rfl ?_
  refine at_iconst 1 dX12_grows_4 ic_1 ?_
  refine at_istore_n [(0, .ref (b + 38)), (1, .int v1), (2, .int (sp_shl 1 v1)), (3, .int 1)] dX12_grows_5 (Nat.le_of_ble_eq_true rfl) rfl ?_
  refine at_aload_n 0 dX12_grows_6 rfl ?_
  refine at_getf cl_X12 (by decide) fl_X12_44 hg_38 rfl dX12_grows_7 ?_
  refine at_iconst 0 dX12_grows_10 ic_0 ?_
  refine at_iload_n 1 dX12_grows_11 rfl ?_
  obtain ⟨hi21, h⟩ := sp_chk h
  refine at_iast hg_49 hi21 hs_49 dX12_grows_12 ?_
  refine at_aload_n 0 dX12_grows_13 rfl ?_
  refine at_getf cl_X12 (by decide) fl_X12_47 hg_38 rfl dX12_grows_14 ?_
  refine at_iload_n 1 dX12_grows_17 rfl ?_
  refine at_iconst (-1) dX12_grows_18 ic_m1 ?_
  obtain ⟨hi22, h⟩ := sp_chk h
  refine at_iast hg_50 hi22 hs_50 dX12_grows_19 ?_
  refine at_iconst 0 dX12_grows_20 ic_0 ?_
  refine at_istore [(0, .ref (b + 38)), (1, .int v1), (2, .int (sp_shl 1 v1)), (3, .int 1), (4, .int 0)] dX12_grows_21 (Nat.le_of_ble_eq_true rfl) rfl ?_
  refine at_sub [0, 2, 3, 4] [(0, .ref (b + 38)), (2, .int (sp_shl 1 v1)), (3, .int 1), (4, .int 0)] rfl ?_
  exact t_X12_grows_23 hK N _ N _ _ _ _ _ h
set_option maxRecDepth 100000 in
theorem t_X12_twoForests_46 {D : va_G} {b : Nat} {K : State → Heap → Prop} {sa : Nat → Nat} (hK : sx_Kk b K sa) (N : Nat) {k18 : Int32 → Int32 → Int32 → sx_C → sx_C → Option (Int32 × sx_C × sx_C)} {uG uN uD uR uF uP uL uT uA uM uH xA xB xC xD xE xH xI xJ xK xL uO : sx_C} {G : sx_H} (res : Int32 × sx_C × sx_C) (hk18 : ∀ (v1 : Int32) (v2 : Int32) (v3 : Int32) (xF : sx_C) (xG : sx_C), k18 v1 v2 v3 xF xG = some res → sx_At D b K YX12_twoForests (sx_rm 2) (sx_Ex (some (.int res.1)) (sx_hp b uG uN uD uR uF uP uL uT uA uM uH xA xB xC xD xE (res.2.1) (res.2.2) xH xI xJ xK xL uO G)) 18 [(0, .ref (b + 38)), (1, .int v1), (2, .int v2), (3, .int v3)] [] (sx_hp b uG uN uD uR uF uP uL uT uA uM uH xA xB xC xD xE xF xG xH xI xJ xK xL uO G) 0 0) : ∀ (v1 : Int32) (v2 : Int32) (v3 : Int32) (xF : sx_C) (xG : sx_C), f_X12_twoForests_46 N k18 xA xE v1 v2 v3 xF xG = some res → sx_At D b K YX12_twoForests (sx_rm 2) (sx_Ex (some (.int res.1)) (sx_hp b uG uN uD uR uF uP uL uT uA uM uH xA xB xC xD xE (res.2.1) (res.2.2) xH xI xJ xK xL uO G)) 46 [(0, .ref (b + 38)), (1, .int v1), (2, .int v2), (3, .int v3)] [] (sx_hp b uG uN uD uR uF uP uL uT uA uM uH xA xB xC xD xE xF xG xH xI xJ xK xL uO G) 0 0 := by
  intro v1 v2 v3 xF xG h
  rw [f_X12_twoForests_46] at h
  refine at_iinc 3 1 [(0, .ref (b + 38)), (1, .int v1), (2, .int v2), (3, .int (v3 + 1))] dX12_twoForests_46 rfl ic_1 (Nat.le_of_ble_eq_true rfl) rfl ?_
  refine at_goto 18 dX12_twoForests_49 (by decide) ?_
  exact hk18 _ _ _ _ _ h
set_option maxRecDepth 100000 in
theorem t_X12_twoForests_18 {D : va_G} {b : Nat} {K : State → Heap → Prop} {sa : Nat → Nat} (hK : sx_Kk b K sa) (N : Nat) {uG uN uD uR uF uP uL uT uA uM uH xA xB xC xD xE xH xI xJ xK xL uO : sx_C} {G : sx_H} (res : Int32 × sx_C × sx_C) : ∀ (n0 : Nat) (v1 : Int32) (v2 : Int32) (v3 : Int32) (xF : sx_C) (xG : sx_C), f_X12_twoForests_18 N xA xE n0 v1 v2 v3 xF xG = some res → sx_At D b K YX12_twoForests (sx_rm 2) (sx_Ex (some (.int res.1)) (sx_hp b uG uN uD uR uF uP uL uT uA uM uH xA xB xC xD xE (res.2.1) (res.2.2) xH xI xJ xK xL uO G)) 18 [(0, .ref (b + 38)), (1, .int v1), (2, .int v2), (3, .int v3)] [] (sx_hp b uG uN uD uR uF uP uL uT uA uM uH xA xB xC xD xE xF xG xH xI xJ xK xL uO G) 0 0 := by
  intro n0
  induction n0 with
  | zero => intro _ _ _ _ _ h; cases h
  | succ n0 ih =>
    intro v1 v2 v3 xF xG h
    rw [f_X12_twoForests_18] at h
    refine at_iload_n 3 dX12_twoForests_18 rfl ?_
    refine at_aload_n 0 dX12_twoForests_19 rfl ?_
    refine at_getf cl_X12 (by decide) fl_X12_198 hg_38 rfl dX12_twoForests_20 ?_
    refine at_icmp_ge 52 dX12_twoForests_23 (by decide) (fun c1 => ?_) (fun c1 => ?_)
    · rw [if_pos c1] at h
      refine at_iload_n 2 dX12_twoForests_52 rfl ?_
      cases h; exact at_iret rfl (Nat.le_refl _) (Nat.le_refl _) ⟨rfl, rfl⟩ dX12_twoForests_53
    · rw [if_neg c1] at h
      refine at_iload_n 1 dX12_twoForests_26 rfl ?_
      refine at_iload_n 3 dX12_twoForests_27 rfl ?_
      refine at_ishr dX12_twoForests_28 ?_
      refine at_iconst 1 dX12_twoForests_29 ic_1 ?_
      refine at_iand dX12_twoForests_30 ?_
      refine at_iconst 1 dX12_twoForests_31 ic_1 ?_
      refine at_icmp_ne 46 dX12_twoForests_32 (by decide) (fun c2 => ?_) (fun c2 => ?_)
      · rw [if_neg c2] at h
        exact t_X12_twoForests_46 hK N _ ih _ _ _ _ _ h
      · rw [if_pos c2] at h
        refine at_aload_n 0 dX12_twoForests_35 rfl ?_
        refine at_iload_n 3 dX12_twoForests_36 rfl ?_
        obtain ⟨q3, hq3, h⟩ := sp_bind h
        refine at_callVi (st := []) hK mt_X12_grows ml_X12_241 cl_X12 hg_38 (t_X12_grows hK hq3) rfl rfl (Nat.le_of_ble_eq_true rfl) ⟨Nat.le_of_ble_eq_true rfl, Nat.le_of_ble_eq_true rfl⟩ ⟨Nat.le_refl _, Nat.le_refl _⟩ dX12_twoForests_37 ?_
        refine at_zeq 46 dX12_twoForests_40 (by decide) (fun c4 => ?_) (fun c4 => ?_)
        · rw [if_neg c4] at h
          exact t_X12_twoForests_46 hK N _ ih _ _ _ _ _ h
        · rw [if_pos c4] at h
          refine at_iinc 2 1 [(0, .ref (b + 38)), (1, .int v1), (2, .int (v2 + 1)), (3, .int v3)] dX12_twoForests_43 rfl ic_1 (Nat.le_of_ble_eq_true rfl) rfl ?_
          exact t_X12_twoForests_46 hK N _ ih _ _ _ _ _ h
set_option maxRecDepth 100000 in
theorem t_X12_twoForests {D : va_G} {b : Nat} {K : State → Heap → Prop} {sa : Nat → Nat} (hK : sx_Kk b K sa) {N : Nat} {uG uN uD uR uF uP uL uT uA uM uH xA xB xC xD xE xH xI xJ xK xL uO : sx_C} {G : sx_H} {v1 : Int32} {xF : sx_C} {xG : sx_C} {res : Int32 × sx_C × sx_C} (h : f_X12_twoForests N xA xE v1 xF xG = some res) : sx_Runs D b K yX12_twoForests YX12_twoForests (sx_rm 2) [.ref (b + 38), .int v1] (sx_hp b uG uN uD uR uF uP uL uT uA uM uH xA xB xC xD xE xF xG xH xI xJ xK xL uO G) (sx_Ex (some (.int res.1)) (sx_hp b uG uN uD uR uF uP uL uT uA uM uH xA xB xC xD xE (res.2.1) (res.2.2) xH xI xJ xK xL uO G)) := by
  rw [f_X12_twoForests] at h
  refine sx_run (by decide +kernel) rfl rfl (Nat.le_of_ble_eq_true rfl) ?_
  refine at_aload_n 0 dX12_twoForests_0 rfl ?_
  refine at_getf cl_X12 (by decide) fl_X12_41 hg_38 rfl dX12_twoForests_1 ?_
  refine at_iconst 0 dX12_twoForests_4 ic_0 ?_
  refine at_iconst 0 dX12_twoForests_5 ic_0 ?_
  obtain ⟨hi5, h⟩ := sp_chk h
  refine at_iast hg_48 hi5 hs_48 dX12_twoForests_6 ?_
  refine at_aload_n 0 dX12_twoForests_7 rfl ?_
  refine at_getf cl_X12 (by decide) fl_X12_41 hg_38 rfl dX12_twoForests_8 ?_
  refine at_iconst 1 dX12_twoForests_11 ic_1 ?_
  refine at_iconst 0 dX12_twoForests_12 ic_0 ?_
  obtain ⟨hi6, h⟩ := sp_chk h
  refine at_iast hg_48 hi6 hs_48 dX12_twoForests_13 ?_
  refine at_iconst 0 dX12_twoForests_14 ic_0 ?_
  refine at_istore_n [(0, .ref (b + 38)), (1, .int v1), (2, .int 0)] dX12_twoForests_15 (Nat.le_of_ble_eq_true rfl) rfl ?_
  refine at_iconst 0 dX12_twoForests_16 ic_0 ?_
  refine at_istore_n [(0, .ref (b + 38)), (1, .int v1), (2, .int 0), (3, .int 0)] dX12_twoForests_17 (Nat.le_of_ble_eq_true rfl) rfl ?_
  exact t_X12_twoForests_18 hK N _ N _ _ _ _ _ h
set_option maxRecDepth 100000 in
theorem t_X12_hasTwo {D : va_G} {b : Nat} {K : State → Heap → Prop} {sa : Nat → Nat} (hK : sx_Kk b K sa) {N : Nat} {uG uN uD uR uF uP uL uT uA uM uH xA xB xC xD xE xH xI xJ xK xL uO : sx_C} {G : sx_H} {v1 : Int32} {v2 : Int32} {xF : sx_C} {xG : sx_C} {res : Bool × sx_C × sx_C} (h : f_X12_hasTwo N xA xE v1 v2 xF xG = some res) : sx_Runs D b K yX12_hasTwo YX12_hasTwo (sx_rm 3) [.ref (b + 38), .int v1, .int v2] (sx_hp b uG uN uD uR uF uP uL uT uA uM uH xA xB xC xD xE xF xG xH xI xJ xK xL uO G) (sx_Ex (some (.int (sp_b res.1))) (sx_hp b uG uN uD uR uF uP uL uT uA uM uH xA xB xC xD xE (res.2.1) (res.2.2) xH xI xJ xK xL uO G)) := by
  rw [f_X12_hasTwo] at h
  refine sx_run (by decide +kernel) rfl rfl (Nat.le_of_ble_eq_true rfl) ?_
  refine at_aload_n 0 dX12_hasTwo_0 rfl ?_
  refine at_iload_n 1 dX12_hasTwo_1 rfl ?_
  refine at_iload_n 2 dX12_hasTwo_2 rfl ?_
  obtain ⟨q1, hq1, h⟩ := sp_bind h
  refine at_callVi (st := []) hK mt_X12_within ml_X12_247 cl_X12 hg_38 (t_X12_within hK hq1) rfl rfl (Nat.le_of_ble_eq_true rfl) ⟨Nat.le_of_ble_eq_true rfl, Nat.le_of_ble_eq_true rfl⟩ ⟨Nat.le_refl _, Nat.le_refl _⟩ dX12_hasTwo_3 ?_
  refine at_istore_n [(0, .ref (b + 38)), (1, .int v1), (2, .int v2), (3, .int q1)] dX12_hasTwo_6 (Nat.le_of_ble_eq_true rfl) rfl ?_
  refine at_iconst 2 dX12_hasTwo_7 ic_2 ?_
  refine at_iload_n 2 dX12_hasTwo_8 rfl ?_
  obtain ⟨q2, hq2, h⟩ := sp_bind h
  refine at_callSi (st := [.int 2]) hK mt_X12_bits ml_X12_250 (t_X12_bits hK hq2) rfl rfl (Nat.le_of_ble_eq_true rfl) ⟨Nat.le_of_ble_eq_true rfl, Nat.le_of_ble_eq_true rfl⟩ ⟨Nat.le_refl _, Nat.le_refl _⟩ dX12_hasTwo_9 ?_
  refine at_iconst 1 dX12_hasTwo_12 ic_1 ?_
  refine at_isub dX12_hasTwo_13 ?_
  refine at_imul dX12_hasTwo_14 ?_
  refine at_istore [(0, .ref (b + 38)), (1, .int v1), (2, .int v2), (3, .int q1), (4, .int (2 * (q2 - 1)))] dX12_hasTwo_15 (Nat.le_of_ble_eq_true rfl) rfl ?_
  refine at_iload_n 3 dX12_hasTwo_17 rfl ?_
  obtain ⟨q3, hq3, h⟩ := sp_bind h
  refine at_callSi (st := []) hK mt_X12_bits ml_X12_250 (t_X12_bits hK hq3) rfl rfl (Nat.le_of_ble_eq_true rfl) ⟨Nat.le_of_ble_eq_true rfl, Nat.le_of_ble_eq_true rfl⟩ ⟨Nat.le_refl _, Nat.le_refl _⟩ dX12_hasTwo_18 ?_
  refine at_iload 4 dX12_hasTwo_21 rfl ?_
  refine at_icmp_lt 40 dX12_hasTwo_23 (by decide) (fun c4 => ?_) (fun c4 => ?_)
  · rw [if_pos c4] at h
    refine at_iconst 0 dX12_hasTwo_40 ic_0 ?_
    cases h; exact at_zret rfl rfl (Nat.le_refl _) (Nat.le_refl _) ⟨rfl, rfl⟩ dX12_hasTwo_41
  · rw [if_neg c4] at h
    refine at_aload_n 0 dX12_hasTwo_26 rfl ?_
    refine at_iload_n 3 dX12_hasTwo_27 rfl ?_
    obtain ⟨q5, hq5, h⟩ := sp_bind h
    refine at_callVi (st := []) hK mt_X12_twoForests ml_X12_253 cl_X12 hg_38 (t_X12_twoForests hK hq5) rfl rfl (Nat.le_of_ble_eq_true rfl) ⟨Nat.le_of_ble_eq_true rfl, Nat.le_of_ble_eq_true rfl⟩ ⟨Nat.le_refl _, Nat.le_refl _⟩ dX12_hasTwo_28 ?_
    refine at_iload 4 dX12_hasTwo_31 rfl ?_
    refine at_icmp_ne 40 dX12_hasTwo_33 (by decide) (fun c6 => ?_) (fun c6 => ?_)
    · rw [if_neg c6] at h
      refine at_iconst 0 dX12_hasTwo_40 ic_0 ?_
      cases h; exact at_zret rfl rfl (Nat.le_refl _) (Nat.le_refl _) ⟨rfl, rfl⟩ dX12_hasTwo_41
    · rw [if_pos c6] at h
      refine at_iconst 1 dX12_hasTwo_36 ic_1 ?_
      refine at_goto 41 dX12_hasTwo_37 (by decide) ?_
      cases h; exact at_zret rfl rfl (Nat.le_refl _) (Nat.le_refl _) ⟨rfl, rfl⟩ dX12_hasTwo_41
set_option maxRecDepth 100000 in
theorem t_X12_endBits {D : va_G} {b : Nat} {K : State → Heap → Prop} {sa : Nat → Nat} (hK : sx_Kk b K sa) {uG uN uD uR uF uP uL uT uA uM uH xA xB xC xD xE xF xG xH xI xJ xK xL uO : sx_C} {G : sx_H} {res : Int32} (h : f_X12_endBits xA xE  = some res) : sx_Runs D b K yX12_endBits YX12_endBits (sx_rm 0) [.ref (b + 38)] (sx_hp b uG uN uD uR uF uP uL uT uA uM uH xA xB xC xD xE xF xG xH xI xJ xK xL uO G) (sx_Ex (some (.int res)) (sx_hp b uG uN uD uR uF uP uL uT uA uM uH xA xB xC xD xE xF xG xH xI xJ xK xL uO G)) := by
  rw [f_X12_endBits] at h
  refine sx_run (by decide +kernel) rfl rfl (Nat.le_of_ble_eq_true rfl) ?_
  refine at_iconst 1 dX12_endBits_0 ic_1 ?_
  refine at_aload_n 0 dX12_endBits_1 rfl ?_
  refine at_getf cl_X12 (by decide) fl_X12_35 hg_38 rfl dX12_endBits_2 ?_
  refine at_aload_n 0 dX12_endBits_5 rfl ?_
  refine at_getf cl_X12 (by decide) fl_X12_207 hg_38 rfl dX12_endBits_6 ?_
  obtain ⟨w1, hw1, h⟩ := sp_bind h
  refine at_iald hg_46 hw1 dX12_endBits_9 ?_
  refine at_ishl dX12_endBits_10 ?_
  refine at_iconst 1 dX12_endBits_11 ic_1 ?_
  refine at_aload_n 0 dX12_endBits_12 rfl ?_
  refine at_getf cl_X12 (by decide) fl_X12_35 hg_38 rfl dX12_endBits_13 ?_
  refine at_aload_n 0 dX12_endBits_16 rfl ?_
  refine at_getf cl_X12 (by decide) fl_X12_67 hg_38 rfl dX12_endBits_17 ?_
  obtain ⟨w2, hw2, h⟩ := sp_bind h
  refine at_iald hg_46 hw2 dX12_endBits_20 ?_
  refine at_ishl dX12_endBits_21 ?_
  refine at_ior dX12_endBits_22 ?_
  cases h; exact at_iret rfl (Nat.le_refl _) (Nat.le_refl _) ⟨rfl, rfl⟩ dX12_endBits_23
set_option maxRecDepth 100000 in
theorem t_X12_isSafe_51 {D : va_G} {b : Nat} {K : State → Heap → Prop} {sa : Nat → Nat} (hK : sx_Kk b K sa) (N : Nat) {uG uN uD uR uF uP uL uT uA uM uH xA xB xC xH xI xJ xK xL uO : sx_C} {G : sx_H} (res : Bool × sx_C × sx_C × sx_C × sx_C) : ∀ (n0 : Nat) (v3 : Int32) (v4 : Int32) (v5 : Int32) (xD : sx_C) (xE : sx_C) (xF : sx_C) (xG : sx_C), f_X12_isSafe_51 N xA n0 v3 v4 v5 xD xE xF xG = some res → sx_At D b K YX12_isSafe (sx_rm 4) (sx_Ex (some (.int (sp_b res.1))) (sx_hp b uG uN uD uR uF uP uL uT uA uM uH xA xB xC (res.2.1) (res.2.2.1) (res.2.2.2.1) (res.2.2.2.2) xH xI xJ xK xL uO G)) 51 [(0, .ref (b + 38)), (3, .int v3), (4, .int v4), (5, .int v5)] [] (sx_hp b uG uN uD uR uF uP uL uT uA uM uH xA xB xC xD xE xF xG xH xI xJ xK xL uO G) 0 0 := by
  intro n0
  induction n0 with
  | zero => intro _ _ _ _ _ _ _ h; cases h
  | succ n0 ih =>
    intro v3 v4 v5 xD xE xF xG h
    rw [f_X12_isSafe_51] at h
    refine at_aload_n 0 dX12_isSafe_51 rfl ?_
    refine at_iload 2 dX12_isSafe_52 rfl ?_
    refine at_iload 3 dX12_isSafe_54 rfl ?_
    refine at_aload_n 0 dX12_isSafe_56 rfl ?_
    obtain ⟨q1, hq1, h⟩ := sp_bind h
    refine at_callVi (st := [.int v5, .int v4, .ref (b + 38)]) hK mt_X12_endBits ml_X12_262 cl_X12 hg_38 (t_X12_endBits hK hq1) rfl rfl (Nat.le_of_ble_eq_true rfl) ⟨Nat.le_of_ble_eq_true rfl, Nat.le_of_ble_eq_true rfl⟩ ⟨Nat.le_refl _, Nat.le_refl _⟩ dX12_isSafe_57 ?_
    refine at_ior dX12_isSafe_60 ?_
    obtain ⟨q2, hq2, h⟩ := sp_bind h
    refine at_callVi (st := []) hK mt_X12_hasTwo ml_X12_265 cl_X12 hg_38 (t_X12_hasTwo hK hq2) rfl rfl (Nat.le_of_ble_eq_true rfl) ⟨Nat.le_of_ble_eq_true rfl, Nat.le_of_ble_eq_true rfl⟩ ⟨Nat.le_refl _, Nat.le_refl _⟩ dX12_isSafe_61 ?_
    refine at_zeq 69 dX12_isSafe_64 (by decide) (fun c3 => ?_) (fun c3 => ?_)
    · rw [if_neg c3] at h
      refine at_iload 3 dX12_isSafe_69 rfl ?_
      refine at_if_ne 76 dX12_isSafe_71 (by decide) (fun c4 => ?_) (fun c4 => ?_)
      · rw [if_neg c4] at h
        refine at_iload 3 dX12_isSafe_76 rfl ?_
        refine at_iconst 1 dX12_isSafe_78 ic_1 ?_
        refine at_isub dX12_isSafe_79 ?_
        refine at_iload_n 1 dX12_isSafe_80 rfl ?_
        refine at_iand dX12_isSafe_81 ?_
        refine at_istore [(0, .ref (b + 38)), (3, .int v3), (4, .int v4), (5, .int ((v5 - 1) &&& v3))] dX12_isSafe_82 (Nat.le_of_ble_eq_true rfl) rfl ?_
        refine at_goto 51 dX12_isSafe_84 (by decide) ?_
        exact ih _ _ _ _ _ _ _ h
      · rw [if_pos c4] at h
        refine at_iconst 0 dX12_isSafe_74 ic_0 ?_
        cases h; exact at_zret rfl rfl (Nat.le_refl _) (Nat.le_refl _) ⟨rfl, rfl⟩ dX12_isSafe_75
    · rw [if_pos c3] at h
      refine at_iconst 1 dX12_isSafe_67 ic_1 ?_
      cases h; exact at_zret rfl rfl (Nat.le_refl _) (Nat.le_refl _) ⟨rfl, rfl⟩ dX12_isSafe_68
set_option maxRecDepth 100000 in
theorem t_X12_isSafe {D : va_G} {b : Nat} {K : State → Heap → Prop} {sa : Nat → Nat} (hK : sx_Kk b K sa) {N : Nat} {uG uN uD uR uF uP uL uT uA uM uH xA xB xC xH xI xJ xK xL uO : sx_C} {G : sx_H} {v1 : Int32} {v2 : Int32} {xD : sx_C} {xE : sx_C} {xF : sx_C} {xG : sx_C} {res : Bool × sx_C × sx_C × sx_C × sx_C} (h : f_X12_isSafe N xA v1 v2 xD xE xF xG = some res) : sx_Runs D b K yX12_isSafe YX12_isSafe (sx_rm 4) [.ref (b + 38), .int v1, .int v2] (sx_hp b uG uN uD uR uF uP uL uT uA uM uH xA xB xC xD xE xF xG xH xI xJ xK xL uO G) (sx_Ex (some (.int (sp_b res.1))) (sx_hp b uG uN uD uR uF uP uL uT uA uM uH xA xB xC (res.2.1) (res.2.2.1) (res.2.2.2.1) (res.2.2.2.2) xH xI xJ xK xL uO G)) := by
  rw [f_X12_isSafe] at h
  refine sx_run (by decide +kernel) rfl rfl (Nat.le_of_ble_eq_true rfl) ?_
  refine at_aload_n 0 dX12_isSafe_0 rfl ?_
  refine at_iload_n 1 dX12_isSafe_1 rfl ?_
  obtain ⟨q5, hq5, h⟩ := sp_bind h
  refine at_callVv (st := []) hK mt_X12_laysPlaces ml_X12_256 cl_X12 hg_38 (t_X12_laysPlaces hK hq5) rfl rfl (Nat.le_of_ble_eq_true rfl) ⟨Nat.le_of_ble_eq_true rfl, Nat.le_of_ble_eq_true rfl⟩ ⟨Nat.le_refl _, Nat.le_refl _⟩ dX12_isSafe_2 ?_
  refine at_aload_n 0 dX12_isSafe_5 rfl ?_
  refine at_getf cl_X12 (by decide) fl_X12_35 hg_38 rfl dX12_isSafe_6 ?_
  refine at_aload_n 0 dX12_isSafe_9 rfl ?_
  refine at_getf cl_X12 (by decide) fl_X12_207 hg_38 rfl dX12_isSafe_10 ?_
  obtain ⟨w6, hw6, h⟩ := sp_bind h
  refine at_iald hg_46 hw6 dX12_isSafe_13 ?_
  refine at_aload_n 0 dX12_isSafe_14 rfl ?_
  refine at_getf cl_X12 (by decide) fl_X12_35 hg_38 rfl dX12_isSafe_15 ?_
  refine at_aload_n 0 dX12_isSafe_18 rfl ?_
  refine at_getf cl_X12 (by decide) fl_X12_67 hg_38 rfl dX12_isSafe_19 ?_
  obtain ⟨w7, hw7, h⟩ := sp_bind h
  refine at_iald hg_46 hw7 dX12_isSafe_22 ?_
  refine at_icmp_ne 28 dX12_isSafe_23 (by decide) (fun c8 => ?_) (fun c8 => ?_)
  · rw [if_neg c8] at h
    refine at_aload_n 0 dX12_isSafe_28 rfl ?_
    obtain ⟨q9, hq9, h⟩ := sp_bind h
    refine at_callVi (st := []) hK mt_X12_placeBits ml_X12_259 cl_X12 hg_38 (t_X12_placeBits hK hq9) rfl rfl (Nat.le_of_ble_eq_true rfl) ⟨Nat.le_of_ble_eq_true rfl, Nat.le_of_ble_eq_true rfl⟩ ⟨Nat.le_refl _, Nat.le_refl _⟩ dX12_isSafe_29 ?_
    refine at_aload_n 0 dX12_isSafe_32 rfl ?_
    obtain ⟨q10, hq10, h⟩ := sp_bind h
    refine at_callVi (st := [.int q9]) hK mt_X12_endBits ml_X12_262 cl_X12 hg_38 (t_X12_endBits hK hq10) rfl rfl (Nat.le_of_ble_eq_true rfl) ⟨Nat.le_of_ble_eq_true rfl, Nat.le_of_ble_eq_true rfl⟩ ⟨Nat.le_refl _, Nat.le_refl _⟩ dX12_isSafe_33 ?_
    refine at_iconst (-1) dX12_isSafe_36 ic_m1 ?_
    refine at_ixor dX12_isSafe_37 ?_
    refine at_iand dX12_isSafe_38 ?_
    refine at_istore_n [(0, .ref (b + 38)), (1, .int v1), (2, .int v2), (3, .int (q9 &&& (q10 ^^^ (-1))))] dX12_isSafe_39 (Nat.le_of_ble_eq_true rfl) rfl ?_
    refine at_aload_n 0 dX12_isSafe_40 rfl ?_
    refine at_iload_n 1 dX12_isSafe_41 rfl ?_
    refine at_iload_n 2 dX12_isSafe_42 rfl ?_
    obtain ⟨q11, hq11, h⟩ := sp_bind h
    refine at_callVi (st := []) hK mt_X12_open ml_X12_226 cl_X12 hg_38 (t_X12_open hK hq11) rfl rfl (Nat.le_of_ble_eq_true rfl) ⟨Nat.le_of_ble_eq_true rfl, Nat.le_of_ble_eq_true rfl⟩ ⟨Nat.le_refl _, Nat.le_refl _⟩ dX12_isSafe_43 ?_
    refine at_istore [(0, .ref (b + 38)), (1, .int v1), (2, .int v2), (3, .int (q9 &&& (q10 ^^^ (-1)))), (4, .int q11)] dX12_isSafe_46 (Nat.le_of_ble_eq_true rfl) rfl ?_
    refine at_iload_n 3 dX12_isSafe_48 rfl ?_
    refine at_istore [(0, .ref (b + 38)), (1, .int v1), (2, .int v2), (3, .int (q9 &&& (q10 ^^^ (-1)))), (4, .int q11), (5, .int (q9 &&& (q10 ^^^ (-1))))] dX12_isSafe_49 (Nat.le_of_ble_eq_true rfl) rfl ?_
    refine at_sub [0, 3, 4, 5] [(0, .ref (b + 38)), (3, .int (q9 &&& (q10 ^^^ (-1)))), (4, .int q11), (5, .int (q9 &&& (q10 ^^^ (-1))))] rfl ?_
    exact t_X12_isSafe_51 hK N _ N _ _ _ _ _ _ _ h
  · rw [if_pos c8] at h
    refine at_iconst 1 dX12_isSafe_26 ic_1 ?_
    cases h; exact at_zret rfl rfl (Nat.le_refl _) (Nat.le_refl _) ⟨rfl, rfl⟩ dX12_isSafe_27
set_option maxRecDepth 100000 in
theorem t_X12_isKeen_55 {D : va_G} {b : Nat} {K : State → Heap → Prop} {sa : Nat → Nat} (hK : sx_Kk b K sa) (N : Nat) {k20 : Int32 → Int32 → Int32 → Int32 → sx_C → sx_C → sx_C → sx_C → Option (Bool × sx_C × sx_C × sx_C × sx_C)} {uG uN uD uR uF uP uL uT uA uM uH xA xB xC xH xI xJ xK xL uO : sx_C} {G : sx_H} (res : Bool × sx_C × sx_C × sx_C × sx_C) (hk20 : ∀ (v1 : Int32) (v2 : Int32) (v3 : Int32) (v4 : Int32) (xD : sx_C) (xE : sx_C) (xF : sx_C) (xG : sx_C), k20 v1 v2 v3 v4 xD xE xF xG = some res → sx_At D b K YX12_isKeen (sx_rm 5) (sx_Ex (some (.int (sp_b res.1))) (sx_hp b uG uN uD uR uF uP uL uT uA uM uH xA xB xC (res.2.1) (res.2.2.1) (res.2.2.2.1) (res.2.2.2.2) xH xI xJ xK xL uO G)) 20 [(0, .ref (b + 38)), (1, .int v1), (2, .int v2), (3, .int v3), (4, .int v4)] [] (sx_hp b uG uN uD uR uF uP uL uT uA uM uH xA xB xC xD xE xF xG xH xI xJ xK xL uO G) 0 0) : ∀ (v1 : Int32) (v2 : Int32) (v3 : Int32) (v4 : Int32) (xD : sx_C) (xE : sx_C) (xF : sx_C) (xG : sx_C), f_X12_isKeen_55 N k20 xA v1 v2 v3 v4 xD xE xF xG = some res → sx_At D b K YX12_isKeen (sx_rm 5) (sx_Ex (some (.int (sp_b res.1))) (sx_hp b uG uN uD uR uF uP uL uT uA uM uH xA xB xC (res.2.1) (res.2.2.1) (res.2.2.2.1) (res.2.2.2.2) xH xI xJ xK xL uO G)) 55 [(0, .ref (b + 38)), (1, .int v1), (2, .int v2), (3, .int v3), (4, .int v4)] [] (sx_hp b uG uN uD uR uF uP uL uT uA uM uH xA xB xC xD xE xF xG xH xI xJ xK xL uO G) 0 0 := by
  intro v1 v2 v3 v4 xD xE xF xG h
  rw [f_X12_isKeen_55] at h
  refine at_iinc 4 1 [(0, .ref (b + 38)), (1, .int v1), (2, .int v2), (3, .int v3), (4, .int (v4 + 1))] dX12_isKeen_55 rfl ic_1 (Nat.le_of_ble_eq_true rfl) rfl ?_
  refine at_goto 20 dX12_isKeen_58 (by decide) ?_
  exact hk20 _ _ _ _ _ _ _ _ h
set_option maxRecDepth 100000 in
theorem t_X12_isKeen_20 {D : va_G} {b : Nat} {K : State → Heap → Prop} {sa : Nat → Nat} (hK : sx_Kk b K sa) (N : Nat) {uG uN uD uR uF uP uL uT uA uM uH xA xB xC xH xI xJ xK xL uO : sx_C} {G : sx_H} (res : Bool × sx_C × sx_C × sx_C × sx_C) : ∀ (n0 : Nat) (v1 : Int32) (v2 : Int32) (v3 : Int32) (v4 : Int32) (xD : sx_C) (xE : sx_C) (xF : sx_C) (xG : sx_C), f_X12_isKeen_20 N xA n0 v1 v2 v3 v4 xD xE xF xG = some res → sx_At D b K YX12_isKeen (sx_rm 5) (sx_Ex (some (.int (sp_b res.1))) (sx_hp b uG uN uD uR uF uP uL uT uA uM uH xA xB xC (res.2.1) (res.2.2.1) (res.2.2.2.1) (res.2.2.2.2) xH xI xJ xK xL uO G)) 20 [(0, .ref (b + 38)), (1, .int v1), (2, .int v2), (3, .int v3), (4, .int v4)] [] (sx_hp b uG uN uD uR uF uP uL uT uA uM uH xA xB xC xD xE xF xG xH xI xJ xK xL uO G) 0 0 := by
  intro n0
  induction n0 with
  | zero => intro _ _ _ _ _ _ _ _ h; cases h
  | succ n0 ih =>
    intro v1 v2 v3 v4 xD xE xF xG h
    rw [f_X12_isKeen_20] at h
    refine at_iload 4 dX12_isKeen_20 rfl ?_
    refine at_aload_n 0 dX12_isKeen_22 rfl ?_
    refine at_getf cl_X12 (by decide) fl_X12_198 hg_38 rfl dX12_isKeen_23 ?_
    refine at_icmp_ge 61 dX12_isKeen_26 (by decide) (fun c1 => ?_) (fun c1 => ?_)
    · rw [if_pos c1] at h
      refine at_iconst 0 dX12_isKeen_61 ic_0 ?_
      cases h; exact at_zret rfl rfl (Nat.le_refl _) (Nat.le_refl _) ⟨rfl, rfl⟩ dX12_isKeen_62
    · rw [if_neg c1] at h
      refine at_iload_n 3 dX12_isKeen_29 rfl ?_
      refine at_iload 4 dX12_isKeen_30 rfl ?_
      refine at_ishr dX12_isKeen_32 ?_
      refine at_iconst 1 dX12_isKeen_33 ic_1 ?_
      refine at_iand dX12_isKeen_34 ?_
      refine at_iconst 1 dX12_isKeen_35 ic_1 ?_
      refine at_icmp_ne 55 dX12_isKeen_36 (by decide) (fun c2 => ?_) (fun c2 => ?_)
      · rw [if_neg c2] at h
        exact t_X12_isKeen_55 hK N _ ih _ _ _ _ _ _ _ _ h
      · rw [if_pos c2] at h
        refine at_aload_n 0 dX12_isKeen_39 rfl ?_
        refine at_iload_n 1 dX12_isKeen_40 rfl ?_
        refine at_iconst 1 dX12_isKeen_41 ic_1 ?_
        refine at_iload 4 dX12_isKeen_42 rfl ?_
        refine at_ishl dX12_isKeen_44 ?_
        refine at_ior dX12_isKeen_45 ?_
        refine at_iload_n 2 dX12_isKeen_46 rfl ?_
        obtain ⟨q3, hq3, h⟩ := sp_bind h
        refine at_callVi (st := []) hK mt_X12_isSafe ml_X12_269 cl_X12 hg_38 (t_X12_isSafe hK hq3) rfl rfl (Nat.le_of_ble_eq_true rfl) ⟨Nat.le_of_ble_eq_true rfl, Nat.le_of_ble_eq_true rfl⟩ ⟨Nat.le_refl _, Nat.le_refl _⟩ dX12_isKeen_47 ?_
        refine at_zeq 55 dX12_isKeen_50 (by decide) (fun c4 => ?_) (fun c4 => ?_)
        · rw [if_neg c4] at h
          exact t_X12_isKeen_55 hK N _ ih _ _ _ _ _ _ _ _ h
        · rw [if_pos c4] at h
          refine at_iconst 1 dX12_isKeen_53 ic_1 ?_
          cases h; exact at_zret rfl rfl (Nat.le_refl _) (Nat.le_refl _) ⟨rfl, rfl⟩ dX12_isKeen_54
set_option maxRecDepth 100000 in
theorem t_X12_isKeen {D : va_G} {b : Nat} {K : State → Heap → Prop} {sa : Nat → Nat} (hK : sx_Kk b K sa) {N : Nat} {uG uN uD uR uF uP uL uT uA uM uH xA xB xC xH xI xJ xK xL uO : sx_C} {G : sx_H} {v1 : Int32} {v2 : Int32} {xD : sx_C} {xE : sx_C} {xF : sx_C} {xG : sx_C} {res : Bool × sx_C × sx_C × sx_C × sx_C} (h : f_X12_isKeen N xA v1 v2 xD xE xF xG = some res) : sx_Runs D b K yX12_isKeen YX12_isKeen (sx_rm 5) [.ref (b + 38), .int v1, .int v2] (sx_hp b uG uN uD uR uF uP uL uT uA uM uH xA xB xC xD xE xF xG xH xI xJ xK xL uO G) (sx_Ex (some (.int (sp_b res.1))) (sx_hp b uG uN uD uR uF uP uL uT uA uM uH xA xB xC (res.2.1) (res.2.2.1) (res.2.2.2.1) (res.2.2.2.2) xH xI xJ xK xL uO G)) := by
  rw [f_X12_isKeen] at h
  refine sx_run (by decide +kernel) rfl rfl (Nat.le_of_ble_eq_true rfl) ?_
  refine at_aload_n 0 dX12_isKeen_0 rfl ?_
  refine at_iload_n 1 dX12_isKeen_1 rfl ?_
  obtain ⟨q5, hq5, h⟩ := sp_bind h
  refine at_callVi (st := []) hK mt_X12_hangs ml_X12_230 cl_X12 hg_38 (t_X12_hangs hK hq5) rfl rfl (Nat.le_of_ble_eq_true rfl) ⟨Nat.le_of_ble_eq_true rfl, Nat.le_of_ble_eq_true rfl⟩ ⟨Nat.le_refl _, Nat.le_refl _⟩ dX12_isKeen_2 ?_
  refine at_zeq 10 dX12_isKeen_5 (by decide) (fun c6 => ?_) (fun c6 => ?_)
  · rw [if_neg c6] at h
    refine at_aload_n 0 dX12_isKeen_10 rfl ?_
    refine at_iload_n 1 dX12_isKeen_11 rfl ?_
    refine at_iload_n 2 dX12_isKeen_12 rfl ?_
    obtain ⟨q7, hq7, h⟩ := sp_bind h
    refine at_callVi (st := []) hK mt_X12_open ml_X12_226 cl_X12 hg_38 (t_X12_open hK hq7) rfl rfl (Nat.le_of_ble_eq_true rfl) ⟨Nat.le_of_ble_eq_true rfl, Nat.le_of_ble_eq_true rfl⟩ ⟨Nat.le_refl _, Nat.le_refl _⟩ dX12_isKeen_13 ?_
    refine at_istore_n [(0, .ref (b + 38)), (1, .int v1), (2, .int v2), (3, .int q7)] dX12_isKeen_16 (Nat.le_of_ble_eq_true rfl) rfl ?_
    refine at_iconst 0 dX12_isKeen_17 ic_0 ?_
    refine at_istore [(0, .ref (b + 38)), (1, .int v1), (2, .int v2), (3, .int q7), (4, .int 0)] dX12_isKeen_18 (Nat.le_of_ble_eq_true rfl) rfl ?_
    exact t_X12_isKeen_20 hK N _ N _ _ _ _ _ _ _ _ h
  · rw [if_pos c6] at h
    refine at_iconst 1 dX12_isKeen_8 ic_1 ?_
    cases h; exact at_zret rfl rfl (Nat.le_refl _) (Nat.le_refl _) ⟨rfl, rfl⟩ dX12_isKeen_9
set_option maxRecDepth 100000 in
theorem t_X12_outcomeOf {D : va_G} {b : Nat} {K : State → Heap → Prop} {sa : Nat → Nat} (hK : sx_Kk b K sa) {N : Nat} {uG uN uD uR uF uP uL uT uA uM uH xA xB xC xH xI xJ xK xL uO : sx_C} {G : sx_H} {v1 : Int32} {v2 : Int32} {xD : sx_C} {xE : sx_C} {xF : sx_C} {xG : sx_C} {res : Int32 × sx_C × sx_C × sx_C × sx_C} (h : f_X12_outcomeOf N xA v1 v2 xD xE xF xG = some res) : sx_Runs D b K yX12_outcomeOf YX12_outcomeOf (sx_rm 6) [.ref (b + 38), .int v1, .int v2] (sx_hp b uG uN uD uR uF uP uL uT uA uM uH xA xB xC xD xE xF xG xH xI xJ xK xL uO G) (sx_Ex (some (.int res.1)) (sx_hp b uG uN uD uR uF uP uL uT uA uM uH xA xB xC (res.2.1) (res.2.2.1) (res.2.2.2.1) (res.2.2.2.2) xH xI xJ xK xL uO G)) := by
  rw [f_X12_outcomeOf] at h
  refine sx_run (by decide +kernel) rfl rfl (Nat.le_of_ble_eq_true rfl) ?_
  refine at_aload_n 0 dX12_outcomeOf_0 rfl ?_
  refine at_iload_n 1 dX12_outcomeOf_1 rfl ?_
  refine at_iload_n 2 dX12_outcomeOf_2 rfl ?_
  obtain ⟨q1, hq1, h⟩ := sp_bind h
  refine at_callVi (st := []) hK mt_X12_isSafe ml_X12_269 cl_X12 hg_38 (t_X12_isSafe hK hq1) rfl rfl (Nat.le_of_ble_eq_true rfl) ⟨Nat.le_of_ble_eq_true rfl, Nat.le_of_ble_eq_true rfl⟩ ⟨Nat.le_refl _, Nat.le_refl _⟩ dX12_outcomeOf_3 ?_
  refine at_zeq 13 dX12_outcomeOf_6 (by decide) (fun c2 => ?_) (fun c2 => ?_)
  · rw [if_neg c2] at h
    refine at_aload_n 0 dX12_outcomeOf_13 rfl ?_
    refine at_iload_n 1 dX12_outcomeOf_14 rfl ?_
    refine at_iload_n 2 dX12_outcomeOf_15 rfl ?_
    obtain ⟨q3, hq3, h⟩ := sp_bind h
    refine at_callVi (st := []) hK mt_X12_isKeen ml_X12_272 cl_X12 hg_38 (t_X12_isKeen hK hq3) rfl rfl (Nat.le_of_ble_eq_true rfl) ⟨Nat.le_of_ble_eq_true rfl, Nat.le_of_ble_eq_true rfl⟩ ⟨Nat.le_refl _, Nat.le_refl _⟩ dX12_outcomeOf_16 ?_
    refine at_zeq 26 dX12_outcomeOf_19 (by decide) (fun c4 => ?_) (fun c4 => ?_)
    · rw [if_neg c4] at h
      refine at_iconst 1 dX12_outcomeOf_26 ic_1 ?_
      cases h; exact at_iret rfl (Nat.le_refl _) (Nat.le_refl _) ⟨rfl, rfl⟩ dX12_outcomeOf_27
    · rw [if_pos c4] at h
      refine at_iconst 2 dX12_outcomeOf_22 ic_2 ?_
      refine at_goto 27 dX12_outcomeOf_23 (by decide) ?_
      cases h; exact at_iret rfl (Nat.le_refl _) (Nat.le_refl _) ⟨rfl, rfl⟩ dX12_outcomeOf_27
  · rw [if_pos c2] at h
    refine at_iconst 0 dX12_outcomeOf_9 ic_0 ?_
    refine at_goto 27 dX12_outcomeOf_10 (by decide) ?_
    cases h; exact at_iret rfl (Nat.le_refl _) (Nat.le_refl _) ⟨rfl, rfl⟩ dX12_outcomeOf_27
set_option maxRecDepth 100000 in
theorem t_X12_winsFor {D : va_G} {b : Nat} {K : State → Heap → Prop} {sa : Nat → Nat} (hK : sx_Kk b K sa) {N : Nat} {uG uN uD uR uF uP uL uT uA uM uH xA xB xC xH xI xJ xK xL uO : sx_C} {G : sx_H} {v1 : Int32} {v2 : Int32} {v3 : Int32} {v4 : Int32} {xD : sx_C} {xE : sx_C} {xF : sx_C} {xG : sx_C} {res : Bool × sx_C × sx_C × sx_C × sx_C} (h : f_X12_winsFor N xA v1 v2 v3 v4 xD xE xF xG = some res) : sx_Runs D b K yX12_winsFor YX12_winsFor (sx_rm 6) [.ref (b + 38), .int v1, .int v2, .int v3, .int v4] (sx_hp b uG uN uD uR uF uP uL uT uA uM uH xA xB xC xD xE xF xG xH xI xJ xK xL uO G) (sx_Ex (some (.int (sp_b res.1))) (sx_hp b uG uN uD uR uF uP uL uT uA uM uH xA xB xC (res.2.1) (res.2.2.1) (res.2.2.2.1) (res.2.2.2.2) xH xI xJ xK xL uO G)) := by
  rw [f_X12_winsFor] at h
  refine sx_run (by decide +kernel) rfl rfl (Nat.le_of_ble_eq_true rfl) ?_
  refine at_iload_n 1 dX12_winsFor_0 rfl ?_
  refine at_if_ne 18 dX12_winsFor_1 (by decide) (fun c1 => ?_) (fun c1 => ?_)
  · rw [if_neg c1] at h
    refine at_aload_n 0 dX12_winsFor_18 rfl ?_
    refine at_iload_n 3 dX12_winsFor_19 rfl ?_
    refine at_iload 4 dX12_winsFor_20 rfl ?_
    refine at_iconst 1 dX12_winsFor_22 ic_1 ?_
    refine at_iload_n 2 dX12_winsFor_23 rfl ?_
    refine at_ishl dX12_winsFor_24 ?_
    refine at_ior dX12_winsFor_25 ?_
    obtain ⟨q2, hq2, h⟩ := sp_bind h
    refine at_callVi (st := []) hK mt_X12_isKeen ml_X12_272 cl_X12 hg_38 (t_X12_isKeen hK hq2) rfl rfl (Nat.le_of_ble_eq_true rfl) ⟨Nat.le_of_ble_eq_true rfl, Nat.le_of_ble_eq_true rfl⟩ ⟨Nat.le_refl _, Nat.le_refl _⟩ dX12_winsFor_26 ?_
    refine at_zne 36 dX12_winsFor_29 (by decide) (fun c3 => ?_) (fun c3 => ?_)
    · rw [if_pos c3] at h
      refine at_iconst 0 dX12_winsFor_36 ic_0 ?_
      cases h; exact at_zret rfl rfl (Nat.le_refl _) (Nat.le_refl _) ⟨rfl, rfl⟩ dX12_winsFor_37
    · rw [if_neg c3] at h
      refine at_iconst 1 dX12_winsFor_32 ic_1 ?_
      refine at_goto 37 dX12_winsFor_33 (by decide) ?_
      cases h; exact at_zret rfl rfl (Nat.le_refl _) (Nat.le_refl _) ⟨rfl, rfl⟩ dX12_winsFor_37
  · rw [if_pos c1] at h
    refine at_aload_n 0 dX12_winsFor_4 rfl ?_
    refine at_iload_n 3 dX12_winsFor_5 rfl ?_
    refine at_iconst 1 dX12_winsFor_6 ic_1 ?_
    refine at_iload_n 2 dX12_winsFor_7 rfl ?_
    refine at_ishl dX12_winsFor_8 ?_
    refine at_ior dX12_winsFor_9 ?_
    refine at_iload 4 dX12_winsFor_10 rfl ?_
    obtain ⟨q4, hq4, h⟩ := sp_bind h
    refine at_callVi (st := []) hK mt_X12_isSafe ml_X12_269 cl_X12 hg_38 (t_X12_isSafe hK hq4) rfl rfl (Nat.le_of_ble_eq_true rfl) ⟨Nat.le_of_ble_eq_true rfl, Nat.le_of_ble_eq_true rfl⟩ ⟨Nat.le_refl _, Nat.le_refl _⟩ dX12_winsFor_12 ?_
    refine at_goto 37 dX12_winsFor_15 (by decide) ?_
    cases h; exact at_zret rfl (sp_bz _) (Nat.le_refl _) (Nat.le_refl _) ⟨rfl, rfl⟩ dX12_winsFor_37
set_option maxRecDepth 100000 in
theorem t_X12_setAt_135 {D : va_G} {b : Nat} {K : State → Heap → Prop} {sa : Nat → Nat} (hK : sx_Kk b K sa) (N : Nat) {k40 : Int32 → Int32 → Int32 → Int32 → Int32 → sx_C → sx_C → sx_C → sx_C → Option (Int32 × sx_C × sx_C × sx_C × sx_C)} {k53 : Int32 → Int32 → Int32 → Int32 → Int32 → Int32 → sx_C → sx_C → sx_C → sx_C → Option (Int32 × sx_C × sx_C × sx_C × sx_C)} {uG uN uD uR uF uP uL uT uA uM uH xA xB xC xH xI xJ xK xL uO : sx_C} {G : sx_H} (res : Int32 × sx_C × sx_C × sx_C × sx_C) (hk40 : ∀ (v1 : Int32) (v2 : Int32) (v4 : Int32) (v5 : Int32) (v6 : Int32) (xD : sx_C) (xE : sx_C) (xF : sx_C) (xG : sx_C), k40 v1 v2 v4 v5 v6 xD xE xF xG = some res → sx_At D b K YX12_setAt (sx_rm 4) (sx_Ex (some (.int res.1)) (sx_hp b uG uN uD uR uF uP uL uT uA uM uH xA xB xC (res.2.1) (res.2.2.1) (res.2.2.2.1) (res.2.2.2.2) xH xI xJ xK xL uO G)) 40 [(0, .ref (b + 38)), (1, .int v1), (2, .int v2), (4, .int v4), (5, .int v5), (6, .int v6)] [] (sx_hp b uG uN uD uR uF uP uL uT uA uM uH xA xB xC xD xE xF xG xH xI xJ xK xL uO G) 0 0) (hk53 : ∀ (v1 : Int32) (v2 : Int32) (v4 : Int32) (v5 : Int32) (v6 : Int32) (v7 : Int32) (xD : sx_C) (xE : sx_C) (xF : sx_C) (xG : sx_C), k53 v1 v2 v4 v5 v6 v7 xD xE xF xG = some res → sx_At D b K YX12_setAt (sx_rm 4) (sx_Ex (some (.int res.1)) (sx_hp b uG uN uD uR uF uP uL uT uA uM uH xA xB xC (res.2.1) (res.2.2.1) (res.2.2.2.1) (res.2.2.2.2) xH xI xJ xK xL uO G)) 53 [(0, .ref (b + 38)), (1, .int v1), (2, .int v2), (4, .int v4), (5, .int v5), (6, .int v6), (7, .int v7)] [] (sx_hp b uG uN uD uR uF uP uL uT uA uM uH xA xB xC xD xE xF xG xH xI xJ xK xL uO G) 0 0) : ∀ (v1 : Int32) (v2 : Int32) (v4 : Int32) (v5 : Int32) (v6 : Int32) (v7 : Int32) (xD : sx_C) (xE : sx_C) (xF : sx_C) (xG : sx_C), f_X12_setAt_135 N k40 k53 xA v1 v2 v4 v5 v6 v7 xD xE xF xG = some res → sx_At D b K YX12_setAt (sx_rm 4) (sx_Ex (some (.int res.1)) (sx_hp b uG uN uD uR uF uP uL uT uA uM uH xA xB xC (res.2.1) (res.2.2.1) (res.2.2.2.1) (res.2.2.2.2) xH xI xJ xK xL uO G)) 135 [(0, .ref (b + 38)), (1, .int v1), (2, .int v2), (4, .int v4), (5, .int v5), (6, .int v6), (7, .int v7)] [] (sx_hp b uG uN uD uR uF uP uL uT uA uM uH xA xB xC xD xE xF xG xH xI xJ xK xL uO G) 0 0 := by
  intro v1 v2 v4 v5 v6 v7 xD xE xF xG h
  rw [f_X12_setAt_135] at h
  refine at_iinc 6 1 [(0, .ref (b + 38)), (1, .int v1), (2, .int v2), (4, .int v4), (5, .int v5), (6, .int v6), (7, .int (v7 + 1))] dX12_setAt_135 rfl ic_1 (Nat.le_of_ble_eq_true rfl) rfl ?_
  refine at_goto 53 dX12_setAt_138 (by decide) ?_
  exact hk53 _ _ _ _ _ _ _ _ _ _ h
set_option maxRecDepth 100000 in
theorem t_X12_setAt_99 {D : va_G} {b : Nat} {K : State → Heap → Prop} {sa : Nat → Nat} (hK : sx_Kk b K sa) (N : Nat) {k40 : Int32 → Int32 → Int32 → Int32 → Int32 → sx_C → sx_C → sx_C → sx_C → Option (Int32 × sx_C × sx_C × sx_C × sx_C)} {k53 : Int32 → Int32 → Int32 → Int32 → Int32 → Int32 → sx_C → sx_C → sx_C → sx_C → Option (Int32 × sx_C × sx_C × sx_C × sx_C)} {uG uN uD uR uF uP uL uT uA uM uH xA xB xC xH xI xJ xK xL uO : sx_C} {G : sx_H} (res : Int32 × sx_C × sx_C × sx_C × sx_C) (hk40 : ∀ (v1 : Int32) (v2 : Int32) (v4 : Int32) (v5 : Int32) (v6 : Int32) (xD : sx_C) (xE : sx_C) (xF : sx_C) (xG : sx_C), k40 v1 v2 v4 v5 v6 xD xE xF xG = some res → sx_At D b K YX12_setAt (sx_rm 4) (sx_Ex (some (.int res.1)) (sx_hp b uG uN uD uR uF uP uL uT uA uM uH xA xB xC (res.2.1) (res.2.2.1) (res.2.2.2.1) (res.2.2.2.2) xH xI xJ xK xL uO G)) 40 [(0, .ref (b + 38)), (1, .int v1), (2, .int v2), (4, .int v4), (5, .int v5), (6, .int v6)] [] (sx_hp b uG uN uD uR uF uP uL uT uA uM uH xA xB xC xD xE xF xG xH xI xJ xK xL uO G) 0 0) (hk53 : ∀ (v1 : Int32) (v2 : Int32) (v4 : Int32) (v5 : Int32) (v6 : Int32) (v7 : Int32) (xD : sx_C) (xE : sx_C) (xF : sx_C) (xG : sx_C), k53 v1 v2 v4 v5 v6 v7 xD xE xF xG = some res → sx_At D b K YX12_setAt (sx_rm 4) (sx_Ex (some (.int res.1)) (sx_hp b uG uN uD uR uF uP uL uT uA uM uH xA xB xC (res.2.1) (res.2.2.1) (res.2.2.2.1) (res.2.2.2.2) xH xI xJ xK xL uO G)) 53 [(0, .ref (b + 38)), (1, .int v1), (2, .int v2), (4, .int v4), (5, .int v5), (6, .int v6), (7, .int v7)] [] (sx_hp b uG uN uD uR uF uP uL uT uA uM uH xA xB xC xD xE xF xG xH xI xJ xK xL uO G) 0 0) : ∀ (v1 : Int32) (v2 : Int32) (v4 : Int32) (v5 : Int32) (v6 : Int32) (v7 : Int32) (s0 : Int32) (xD : sx_C) (xE : sx_C) (xF : sx_C) (xG : sx_C), f_X12_setAt_99 N k40 k53 xA v1 v2 v4 v5 v6 v7 s0 xD xE xF xG = some res → sx_At D b K YX12_setAt (sx_rm 4) (sx_Ex (some (.int res.1)) (sx_hp b uG uN uD uR uF uP uL uT uA uM uH xA xB xC (res.2.1) (res.2.2.1) (res.2.2.2.1) (res.2.2.2.2) xH xI xJ xK xL uO G)) 99 [(0, .ref (b + 38)), (1, .int v1), (2, .int v2), (4, .int v4), (5, .int v5), (6, .int v6), (7, .int v7)] [.int s0] (sx_hp b uG uN uD uR uF uP uL uT uA uM uH xA xB xC xD xE xF xG xH xI xJ xK xL uO G) 0 0 := by
  intro v1 v2 v4 v5 v6 v7 s0 xD xE xF xG h
  rw [f_X12_setAt_99] at h
  refine at_istore [(0, .ref (b + 38)), (1, .int v1), (2, .int v2), (4, .int v4), (5, .int v5), (6, .int v6), (7, .int v7), (8, .int s0)] dX12_setAt_99 (Nat.le_of_ble_eq_true rfl) rfl ?_
  refine at_iload 7 dX12_setAt_101 rfl ?_
  refine at_if_eq 135 dX12_setAt_103 (by decide) (fun c10 => ?_) (fun c10 => ?_)
  · rw [if_pos c10] at h
    refine at_sub [0, 1, 2, 3, 4, 5, 6] [(0, .ref (b + 38)), (1, .int v1), (2, .int v2), (4, .int v4), (5, .int v5), (6, .int v6), (7, .int v7)] rfl ?_
    exact t_X12_setAt_135 hK N _ hk40 hk53 _ _ _ _ _ _ _ _ _ _ h
  · rw [if_neg c10] at h
    refine at_aload_n 0 dX12_setAt_106 rfl ?_
    refine at_aload_n 0 dX12_setAt_107 rfl ?_
    refine at_iload_n 1 dX12_setAt_108 rfl ?_
    refine at_iload_n 2 dX12_setAt_109 rfl ?_
    obtain ⟨q11, hq11, h⟩ := sp_bind h
    refine at_callVi (st := [.ref (b + 38)]) hK mt_X12_open ml_X12_226 cl_X12 hg_38 (t_X12_open hK hq11) rfl rfl (Nat.le_of_ble_eq_true rfl) ⟨Nat.le_of_ble_eq_true rfl, Nat.le_of_ble_eq_true rfl⟩ ⟨Nat.le_refl _, Nat.le_refl _⟩ dX12_setAt_110 ?_
    refine at_iload 6 dX12_setAt_113 rfl ?_
    obtain ⟨q12, hq12, h⟩ := sp_bind h
    refine at_callVi (st := []) hK mt_X12_hasTwo ml_X12_265 cl_X12 hg_38 (t_X12_hasTwo hK hq12) rfl rfl (Nat.le_of_ble_eq_true rfl) ⟨Nat.le_of_ble_eq_true rfl, Nat.le_of_ble_eq_true rfl⟩ ⟨Nat.le_refl _, Nat.le_refl _⟩ dX12_setAt_115 ?_
    refine at_zne 124 dX12_setAt_118 (by decide) (fun c13 => ?_) (fun c13 => ?_)
    · rw [if_pos c13] at h
      refine at_iload 4 dX12_setAt_124 rfl ?_
      refine at_if_ne 132 dX12_setAt_126 (by decide) (fun c14 => ?_) (fun c14 => ?_)
      · rw [if_neg c14] at h
        refine at_iinc 4 (-1) [(0, .ref (b + 38)), (1, .int v1), (2, .int v2), (4, .int v4), (5, .int (v5 + (-1))), (6, .int v6), (7, .int v7), (8, .int s0)] dX12_setAt_132 rfl ic_m1 (Nat.le_of_ble_eq_true rfl) rfl ?_
        refine at_sub [0, 1, 2, 3, 4, 5, 6] [(0, .ref (b + 38)), (1, .int v1), (2, .int v2), (4, .int v4), (5, .int (v5 + (-1))), (6, .int v6), (7, .int v7)] rfl ?_
        exact t_X12_setAt_135 hK N _ hk40 hk53 _ _ _ _ _ _ _ _ _ _ h
      · rw [if_pos c14] at h
        refine at_iload 6 dX12_setAt_129 rfl ?_
        cases h; exact at_iret rfl (Nat.le_refl _) (Nat.le_refl _) ⟨rfl, rfl⟩ dX12_setAt_131
    · rw [if_neg c13] at h
      refine at_goto 135 dX12_setAt_121 (by decide) ?_
      refine at_sub [0, 1, 2, 3, 4, 5, 6] [(0, .ref (b + 38)), (1, .int v1), (2, .int v2), (4, .int v4), (5, .int v5), (6, .int v6), (7, .int v7)] rfl ?_
      exact t_X12_setAt_135 hK N _ hk40 hk53 _ _ _ _ _ _ _ _ _ _ h
set_option maxRecDepth 100000 in
theorem t_X12_setAt_98 {D : va_G} {b : Nat} {K : State → Heap → Prop} {sa : Nat → Nat} (hK : sx_Kk b K sa) (N : Nat) {k40 : Int32 → Int32 → Int32 → Int32 → Int32 → sx_C → sx_C → sx_C → sx_C → Option (Int32 × sx_C × sx_C × sx_C × sx_C)} {k53 : Int32 → Int32 → Int32 → Int32 → Int32 → Int32 → sx_C → sx_C → sx_C → sx_C → Option (Int32 × sx_C × sx_C × sx_C × sx_C)} {uG uN uD uR uF uP uL uT uA uM uH xA xB xC xH xI xJ xK xL uO : sx_C} {G : sx_H} (res : Int32 × sx_C × sx_C × sx_C × sx_C) (hk40 : ∀ (v1 : Int32) (v2 : Int32) (v4 : Int32) (v5 : Int32) (v6 : Int32) (xD : sx_C) (xE : sx_C) (xF : sx_C) (xG : sx_C), k40 v1 v2 v4 v5 v6 xD xE xF xG = some res → sx_At D b K YX12_setAt (sx_rm 4) (sx_Ex (some (.int res.1)) (sx_hp b uG uN uD uR uF uP uL uT uA uM uH xA xB xC (res.2.1) (res.2.2.1) (res.2.2.2.1) (res.2.2.2.2) xH xI xJ xK xL uO G)) 40 [(0, .ref (b + 38)), (1, .int v1), (2, .int v2), (4, .int v4), (5, .int v5), (6, .int v6)] [] (sx_hp b uG uN uD uR uF uP uL uT uA uM uH xA xB xC xD xE xF xG xH xI xJ xK xL uO G) 0 0) (hk53 : ∀ (v1 : Int32) (v2 : Int32) (v4 : Int32) (v5 : Int32) (v6 : Int32) (v7 : Int32) (xD : sx_C) (xE : sx_C) (xF : sx_C) (xG : sx_C), k53 v1 v2 v4 v5 v6 v7 xD xE xF xG = some res → sx_At D b K YX12_setAt (sx_rm 4) (sx_Ex (some (.int res.1)) (sx_hp b uG uN uD uR uF uP uL uT uA uM uH xA xB xC (res.2.1) (res.2.2.1) (res.2.2.2.1) (res.2.2.2.2) xH xI xJ xK xL uO G)) 53 [(0, .ref (b + 38)), (1, .int v1), (2, .int v2), (4, .int v4), (5, .int v5), (6, .int v6), (7, .int v7)] [] (sx_hp b uG uN uD uR uF uP uL uT uA uM uH xA xB xC xD xE xF xG xH xI xJ xK xL uO G) 0 0) : ∀ (v1 : Int32) (v2 : Int32) (v4 : Int32) (v5 : Int32) (v6 : Int32) (v7 : Int32) (xD : sx_C) (xE : sx_C) (xF : sx_C) (xG : sx_C), f_X12_setAt_98 N k40 k53 xA v1 v2 v4 v5 v6 v7 xD xE xF xG = some res → sx_At D b K YX12_setAt (sx_rm 4) (sx_Ex (some (.int res.1)) (sx_hp b uG uN uD uR uF uP uL uT uA uM uH xA xB xC (res.2.1) (res.2.2.1) (res.2.2.2.1) (res.2.2.2.2) xH xI xJ xK xL uO G)) 98 [(0, .ref (b + 38)), (1, .int v1), (2, .int v2), (4, .int v4), (5, .int v5), (6, .int v6), (7, .int v7)] [] (sx_hp b uG uN uD uR uF uP uL uT uA uM uH xA xB xC xD xE xF xG xH xI xJ xK xL uO G) 0 0 := by
  intro v1 v2 v4 v5 v6 v7 xD xE xF xG h
  rw [f_X12_setAt_98] at h
  refine at_iconst 0 dX12_setAt_98 ic_0 ?_
  exact t_X12_setAt_99 hK N _ hk40 hk53 _ _ _ _ _ _ _ _ _ _ _ h
set_option maxRecDepth 100000 in
theorem t_X12_setAt_53 {D : va_G} {b : Nat} {K : State → Heap → Prop} {sa : Nat → Nat} (hK : sx_Kk b K sa) (N : Nat) {k40 : Int32 → Int32 → Int32 → Int32 → Int32 → sx_C → sx_C → sx_C → sx_C → Option (Int32 × sx_C × sx_C × sx_C × sx_C)} {uG uN uD uR uF uP uL uT uA uM uH xA xB xC xH xI xJ xK xL uO : sx_C} {G : sx_H} (res : Int32 × sx_C × sx_C × sx_C × sx_C) (hk40 : ∀ (v1 : Int32) (v2 : Int32) (v4 : Int32) (v5 : Int32) (v6 : Int32) (xD : sx_C) (xE : sx_C) (xF : sx_C) (xG : sx_C), k40 v1 v2 v4 v5 v6 xD xE xF xG = some res → sx_At D b K YX12_setAt (sx_rm 4) (sx_Ex (some (.int res.1)) (sx_hp b uG uN uD uR uF uP uL uT uA uM uH xA xB xC (res.2.1) (res.2.2.1) (res.2.2.2.1) (res.2.2.2.2) xH xI xJ xK xL uO G)) 40 [(0, .ref (b + 38)), (1, .int v1), (2, .int v2), (4, .int v4), (5, .int v5), (6, .int v6)] [] (sx_hp b uG uN uD uR uF uP uL uT uA uM uH xA xB xC xD xE xF xG xH xI xJ xK xL uO G) 0 0) : ∀ (n0 : Nat) (v1 : Int32) (v2 : Int32) (v4 : Int32) (v5 : Int32) (v6 : Int32) (v7 : Int32) (xD : sx_C) (xE : sx_C) (xF : sx_C) (xG : sx_C), f_X12_setAt_53 N k40 xA n0 v1 v2 v4 v5 v6 v7 xD xE xF xG = some res → sx_At D b K YX12_setAt (sx_rm 4) (sx_Ex (some (.int res.1)) (sx_hp b uG uN uD uR uF uP uL uT uA uM uH xA xB xC (res.2.1) (res.2.2.1) (res.2.2.2.1) (res.2.2.2.2) xH xI xJ xK xL uO G)) 53 [(0, .ref (b + 38)), (1, .int v1), (2, .int v2), (4, .int v4), (5, .int v5), (6, .int v6), (7, .int v7)] [] (sx_hp b uG uN uD uR uF uP uL uT uA uM uH xA xB xC xD xE xF xG xH xI xJ xK xL uO G) 0 0 := by
  intro n0
  induction n0 with
  | zero => intro _ _ _ _ _ _ _ _ _ _ h; cases h
  | succ n0 ih =>
    intro v1 v2 v4 v5 v6 v7 xD xE xF xG h
    rw [f_X12_setAt_53] at h
    refine at_iload 6 dX12_setAt_53 rfl ?_
    refine at_iload 3 dX12_setAt_55 rfl ?_
    refine at_icmp_gt 141 dX12_setAt_57 (by decide) (fun c3 => ?_) (fun c3 => ?_)
    · rw [if_pos c3] at h
      refine at_iinc 5 1 [(0, .ref (b + 38)), (1, .int v1), (2, .int v2), (4, .int v4), (5, .int v5), (6, .int (v6 + 1)), (7, .int v7)] dX12_setAt_141 rfl ic_1 (Nat.le_of_ble_eq_true rfl) rfl ?_
      refine at_goto 40 dX12_setAt_144 (by decide) ?_
      refine at_sub [0, 1, 2, 3, 4, 5] [(0, .ref (b + 38)), (1, .int v1), (2, .int v2), (4, .int v4), (5, .int v5), (6, .int (v6 + 1))] rfl ?_
      exact hk40 _ _ _ _ _ _ _ _ _ h
    · rw [if_neg c3] at h
      refine at_iload 6 dX12_setAt_60 rfl ?_
      refine at_iload 3 dX12_setAt_62 rfl ?_
      refine at_iconst (-1) dX12_setAt_64 ic_m1 ?_
      refine at_ixor dX12_setAt_65 ?_
      refine at_iand dX12_setAt_66 ?_
      refine at_if_ne 98 dX12_setAt_67 (by decide) (fun c4 => ?_) (fun c4 => ?_)
      · rw [if_neg c4] at h
        exact t_X12_setAt_98 hK N _ hk40 ih _ _ _ _ _ _ _ _ _ _ h
      · rw [if_pos c4] at h
        refine at_iload 6 dX12_setAt_70 rfl ?_
        refine at_aload_n 0 dX12_setAt_72 rfl ?_
        obtain ⟨q5, hq5, h⟩ := sp_bind h
        refine at_callVi (st := [.int v7]) hK mt_X12_endBits ml_X12_262 cl_X12 hg_38 (t_X12_endBits hK hq5) rfl rfl (Nat.le_of_ble_eq_true rfl) ⟨Nat.le_of_ble_eq_true rfl, Nat.le_of_ble_eq_true rfl⟩ ⟨Nat.le_refl _, Nat.le_refl _⟩ dX12_setAt_73 ?_
        refine at_iand dX12_setAt_76 ?_
        refine at_aload_n 0 dX12_setAt_77 rfl ?_
        obtain ⟨q6, hq6, h⟩ := sp_bind h
        refine at_callVi (st := [.int (v7 &&& q5)]) hK mt_X12_endBits ml_X12_262 cl_X12 hg_38 (t_X12_endBits hK hq6) rfl rfl (Nat.le_of_ble_eq_true rfl) ⟨Nat.le_of_ble_eq_true rfl, Nat.le_of_ble_eq_true rfl⟩ ⟨Nat.le_refl _, Nat.le_refl _⟩ dX12_setAt_78 ?_
        refine at_icmp_ne 98 dX12_setAt_81 (by decide) (fun c7 => ?_) (fun c7 => ?_)
        · rw [if_neg c7] at h
          exact t_X12_setAt_98 hK N _ hk40 ih _ _ _ _ _ _ _ _ _ _ h
        · rw [if_pos c7] at h
          refine at_iload 6 dX12_setAt_84 rfl ?_
          obtain ⟨q8, hq8, h⟩ := sp_bind h
          refine at_callSi (st := []) hK mt_X12_bits ml_X12_250 (t_X12_bits hK hq8) rfl rfl (Nat.le_of_ble_eq_true rfl) ⟨Nat.le_of_ble_eq_true rfl, Nat.le_of_ble_eq_true rfl⟩ ⟨Nat.le_refl _, Nat.le_refl _⟩ dX12_setAt_86 ?_
          refine at_iload 5 dX12_setAt_89 rfl ?_
          refine at_icmp_ne 98 dX12_setAt_91 (by decide) (fun c9 => ?_) (fun c9 => ?_)
          · rw [if_neg c9] at h
            exact t_X12_setAt_98 hK N _ hk40 ih _ _ _ _ _ _ _ _ _ _ h
          · rw [if_pos c9] at h
            refine at_iconst 1 dX12_setAt_94 ic_1 ?_
            refine at_goto 99 dX12_setAt_95 (by decide) ?_
            exact t_X12_setAt_99 hK N _ hk40 ih _ _ _ _ _ _ _ _ _ _ _ h
set_option maxRecDepth 100000 in
theorem t_X12_setAt_40 {D : va_G} {b : Nat} {K : State → Heap → Prop} {sa : Nat → Nat} (hK : sx_Kk b K sa) (N : Nat) {uG uN uD uR uF uP uL uT uA uM uH xA xB xC xH xI xJ xK xL uO : sx_C} {G : sx_H} (res : Int32 × sx_C × sx_C × sx_C × sx_C) : ∀ (n0 : Nat) (v1 : Int32) (v2 : Int32) (v4 : Int32) (v5 : Int32) (v6 : Int32) (xD : sx_C) (xE : sx_C) (xF : sx_C) (xG : sx_C), f_X12_setAt_40 N xA n0 v1 v2 v4 v5 v6 xD xE xF xG = some res → sx_At D b K YX12_setAt (sx_rm 4) (sx_Ex (some (.int res.1)) (sx_hp b uG uN uD uR uF uP uL uT uA uM uH xA xB xC (res.2.1) (res.2.2.1) (res.2.2.2.1) (res.2.2.2.2) xH xI xJ xK xL uO G)) 40 [(0, .ref (b + 38)), (1, .int v1), (2, .int v2), (4, .int v4), (5, .int v5), (6, .int v6)] [] (sx_hp b uG uN uD uR uF uP uL uT uA uM uH xA xB xC xD xE xF xG xH xI xJ xK xL uO G) 0 0 := by
  intro n0
  induction n0 with
  | zero => intro _ _ _ _ _ _ _ _ _ h; cases h
  | succ n0 ih =>
    intro v1 v2 v4 v5 v6 xD xE xF xG h
    rw [f_X12_setAt_40] at h
    refine at_iload 5 dX12_setAt_40 rfl ?_
    refine at_iload 3 dX12_setAt_42 rfl ?_
    obtain ⟨q1, hq1, h⟩ := sp_bind h
    refine at_callSi (st := [.int v6]) hK mt_X12_bits ml_X12_250 (t_X12_bits hK hq1) rfl rfl (Nat.le_of_ble_eq_true rfl) ⟨Nat.le_of_ble_eq_true rfl, Nat.le_of_ble_eq_true rfl⟩ ⟨Nat.le_refl _, Nat.le_refl _⟩ dX12_setAt_44 ?_
    refine at_icmp_gt 147 dX12_setAt_47 (by decide) (fun c2 => ?_) (fun c2 => ?_)
    · rw [if_pos c2] at h
      refine at_iconst (-1) dX12_setAt_147 ic_m1 ?_
      cases h; exact at_iret rfl (Nat.le_refl _) (Nat.le_refl _) ⟨rfl, rfl⟩ dX12_setAt_148
    · rw [if_neg c2] at h
      refine at_iconst 0 dX12_setAt_50 ic_0 ?_
      refine at_istore [(0, .ref (b + 38)), (1, .int v1), (2, .int v2), (4, .int v4), (5, .int v5), (6, .int v6), (7, .int 0)] dX12_setAt_51 (Nat.le_of_ble_eq_true rfl) rfl ?_
      exact t_X12_setAt_53 hK N _ ih N _ _ _ _ _ _ _ _ _ _ h
set_option maxRecDepth 100000 in
theorem t_X12_setAt {D : va_G} {b : Nat} {K : State → Heap → Prop} {sa : Nat → Nat} (hK : sx_Kk b K sa) {N : Nat} {uG uN uD uR uF uP uL uT uA uM uH xA xB xC xH xI xJ xK xL uO : sx_C} {G : sx_H} {v1 : Int32} {v2 : Int32} {v3 : Int32} {xD : sx_C} {xE : sx_C} {xF : sx_C} {xG : sx_C} {res : Int32 × sx_C × sx_C × sx_C × sx_C} (h : f_X12_setAt N xA v1 v2 v3 xD xE xF xG = some res) : sx_Runs D b K yX12_setAt YX12_setAt (sx_rm 4) [.ref (b + 38), .int v1, .int v2, .int v3] (sx_hp b uG uN uD uR uF uP uL uT uA uM uH xA xB xC xD xE xF xG xH xI xJ xK xL uO G) (sx_Ex (some (.int res.1)) (sx_hp b uG uN uD uR uF uP uL uT uA uM uH xA xB xC (res.2.1) (res.2.2.1) (res.2.2.2.1) (res.2.2.2.2) xH xI xJ xK xL uO G)) := by
  rw [f_X12_setAt] at h
  refine sx_run (by decide +kernel) rfl rfl (Nat.le_of_ble_eq_true rfl) ?_
  refine at_aload_n 0 dX12_setAt_0 rfl ?_
  refine at_iload_n 1 dX12_setAt_1 rfl ?_
  obtain ⟨q15, hq15, h⟩ := sp_bind h
  refine at_callVv (st := []) hK mt_X12_laysPlaces ml_X12_256 cl_X12 hg_38 (t_X12_laysPlaces hK hq15) rfl rfl (Nat.le_of_ble_eq_true rfl) ⟨Nat.le_of_ble_eq_true rfl, Nat.le_of_ble_eq_true rfl⟩ ⟨Nat.le_refl _, Nat.le_refl _⟩ dX12_setAt_2 ?_
  refine at_aload_n 0 dX12_setAt_5 rfl ?_
  refine at_getf cl_X12 (by decide) fl_X12_35 hg_38 rfl dX12_setAt_6 ?_
  refine at_aload_n 0 dX12_setAt_9 rfl ?_
  refine at_getf cl_X12 (by decide) fl_X12_207 hg_38 rfl dX12_setAt_10 ?_
  obtain ⟨w16, hw16, h⟩ := sp_bind h
  refine at_iald hg_46 hw16 dX12_setAt_13 ?_
  refine at_aload_n 0 dX12_setAt_14 rfl ?_
  refine at_getf cl_X12 (by decide) fl_X12_35 hg_38 rfl dX12_setAt_15 ?_
  refine at_aload_n 0 dX12_setAt_18 rfl ?_
  refine at_getf cl_X12 (by decide) fl_X12_67 hg_38 rfl dX12_setAt_19 ?_
  obtain ⟨w17, hw17, h⟩ := sp_bind h
  refine at_iald hg_46 hw17 dX12_setAt_22 ?_
  refine at_icmp_ne 28 dX12_setAt_23 (by decide) (fun c18 => ?_) (fun c18 => ?_)
  · rw [if_neg c18] at h
    refine at_aload_n 0 dX12_setAt_28 rfl ?_
    obtain ⟨q19, hq19, h⟩ := sp_bind h
    refine at_callVi (st := []) hK mt_X12_placeBits ml_X12_259 cl_X12 hg_38 (t_X12_placeBits hK hq19) rfl rfl (Nat.le_of_ble_eq_true rfl) ⟨Nat.le_of_ble_eq_true rfl, Nat.le_of_ble_eq_true rfl⟩ ⟨Nat.le_refl _, Nat.le_refl _⟩ dX12_setAt_29 ?_
    refine at_istore [(0, .ref (b + 38)), (1, .int v1), (2, .int v2), (3, .int v3), (4, .int q19)] dX12_setAt_32 (Nat.le_of_ble_eq_true rfl) rfl ?_
    refine at_iload_n 3 dX12_setAt_34 rfl ?_
    refine at_istore [(0, .ref (b + 38)), (1, .int v1), (2, .int v2), (3, .int v3), (4, .int q19), (5, .int v3)] dX12_setAt_35 (Nat.le_of_ble_eq_true rfl) rfl ?_
    refine at_iconst 2 dX12_setAt_37 ic_2 ?_
    refine at_istore [(0, .ref (b + 38)), (1, .int v1), (2, .int v2), (3, .int v3), (4, .int q19), (5, .int v3), (6, .int 2)] dX12_setAt_38 (Nat.le_of_ble_eq_true rfl) rfl ?_
    refine at_sub [0, 1, 2, 4, 5, 6] [(0, .ref (b + 38)), (1, .int v1), (2, .int v2), (4, .int q19), (5, .int v3), (6, .int 2)] rfl ?_
    exact t_X12_setAt_40 hK N _ N _ _ _ _ _ _ _ _ _ h
  · rw [if_pos c18] at h
    refine at_iconst (-1) dX12_setAt_26 ic_m1 ?_
    cases h; exact at_iret rfl (Nat.le_refl _) (Nat.le_refl _) ⟨rfl, rfl⟩ dX12_setAt_27
set_option maxRecDepth 100000 in
theorem t_X12_leastTree_44 {D : va_G} {b : Nat} {K : State → Heap → Prop} {sa : Nat → Nat} (hK : sx_Kk b K sa) (N : Nat) {k3 : Int32 → Int32 → Int32 → Int32 → sx_C → Option (Int32 × sx_C)} {uG uN uD uR uF uP uL uT uA uM uH xA xB xC xD xE xG xH xI xJ xK xL uO : sx_C} {G : sx_H} (res : Int32 × sx_C) (hk3 : ∀ (v1 : Int32) (v2 : Int32) (v3 : Int32) (v4 : Int32) (xF : sx_C), k3 v1 v2 v3 v4 xF = some res → sx_At D b K YX12_leastTree (sx_rm 2) (sx_Ex (some (.int res.1)) (sx_hp b uG uN uD uR uF uP uL uT uA uM uH xA xB xC xD xE (res.2) xG xH xI xJ xK xL uO G)) 3 [(0, .ref (b + 38)), (1, .int v1), (2, .int v2), (3, .int v3), (4, .int v4)] [] (sx_hp b uG uN uD uR uF uP uL uT uA uM uH xA xB xC xD xE xF xG xH xI xJ xK xL uO G) 0 0) : ∀ (v1 : Int32) (v2 : Int32) (v3 : Int32) (v4 : Int32) (s0 : Int32) (xF : sx_C), f_X12_leastTree_44 N k3 xA xE v1 v2 v3 v4 s0 xF = some res → sx_At D b K YX12_leastTree (sx_rm 2) (sx_Ex (some (.int res.1)) (sx_hp b uG uN uD uR uF uP uL uT uA uM uH xA xB xC xD xE (res.2) xG xH xI xJ xK xL uO G)) 44 [(0, .ref (b + 38)), (1, .int v1), (2, .int v2), (3, .int v3), (4, .int v4)] [.int s0] (sx_hp b uG uN uD uR uF uP uL uT uA uM uH xA xB xC xD xE xF xG xH xI xJ xK xL uO G) 0 0 := by
  intro v1 v2 v3 v4 s0 xF h
  rw [f_X12_leastTree_44] at h
  refine at_istore [(0, .ref (b + 38)), (1, .int v1), (2, .int v2), (3, .int v3), (4, .int v4), (5, .int s0)] dX12_leastTree_44 (Nat.le_of_ble_eq_true rfl) rfl ?_
  refine at_iload 5 dX12_leastTree_46 rfl ?_
  refine at_if_eq 54 dX12_leastTree_48 (by decide) (fun c8 => ?_) (fun c8 => ?_)
  · rw [if_pos c8] at h
    refine at_iload 4 dX12_leastTree_54 rfl ?_
    refine at_iload_n 1 dX12_leastTree_56 rfl ?_
    refine at_isub dX12_leastTree_57 ?_
    refine at_iload_n 1 dX12_leastTree_58 rfl ?_
    refine at_iand dX12_leastTree_59 ?_
    refine at_istore [(0, .ref (b + 38)), (1, .int v1), (2, .int v2), (3, .int v3), (4, .int ((v4 - v1) &&& v1)), (5, .int s0)] dX12_leastTree_60 (Nat.le_of_ble_eq_true rfl) rfl ?_
    refine at_goto 3 dX12_leastTree_62 (by decide) ?_
    refine at_sub [0, 1, 2, 3, 4] [(0, .ref (b + 38)), (1, .int v1), (2, .int v2), (3, .int v3), (4, .int ((v4 - v1) &&& v1))] rfl ?_
    exact hk3 _ _ _ _ _ h
  · rw [if_neg c8] at h
    refine at_iload 4 dX12_leastTree_51 rfl ?_
    cases h; exact at_iret rfl (Nat.le_refl _) (Nat.le_refl _) ⟨rfl, rfl⟩ dX12_leastTree_53
set_option maxRecDepth 100000 in
theorem t_X12_leastTree_43 {D : va_G} {b : Nat} {K : State → Heap → Prop} {sa : Nat → Nat} (hK : sx_Kk b K sa) (N : Nat) {k3 : Int32 → Int32 → Int32 → Int32 → sx_C → Option (Int32 × sx_C)} {uG uN uD uR uF uP uL uT uA uM uH xA xB xC xD xE xG xH xI xJ xK xL uO : sx_C} {G : sx_H} (res : Int32 × sx_C) (hk3 : ∀ (v1 : Int32) (v2 : Int32) (v3 : Int32) (v4 : Int32) (xF : sx_C), k3 v1 v2 v3 v4 xF = some res → sx_At D b K YX12_leastTree (sx_rm 2) (sx_Ex (some (.int res.1)) (sx_hp b uG uN uD uR uF uP uL uT uA uM uH xA xB xC xD xE (res.2) xG xH xI xJ xK xL uO G)) 3 [(0, .ref (b + 38)), (1, .int v1), (2, .int v2), (3, .int v3), (4, .int v4)] [] (sx_hp b uG uN uD uR uF uP uL uT uA uM uH xA xB xC xD xE xF xG xH xI xJ xK xL uO G) 0 0) : ∀ (v1 : Int32) (v2 : Int32) (v3 : Int32) (v4 : Int32) (xF : sx_C), f_X12_leastTree_43 N k3 xA xE v1 v2 v3 v4 xF = some res → sx_At D b K YX12_leastTree (sx_rm 2) (sx_Ex (some (.int res.1)) (sx_hp b uG uN uD uR uF uP uL uT uA uM uH xA xB xC xD xE (res.2) xG xH xI xJ xK xL uO G)) 43 [(0, .ref (b + 38)), (1, .int v1), (2, .int v2), (3, .int v3), (4, .int v4)] [] (sx_hp b uG uN uD uR uF uP uL uT uA uM uH xA xB xC xD xE xF xG xH xI xJ xK xL uO G) 0 0 := by
  intro v1 v2 v3 v4 xF h
  rw [f_X12_leastTree_43] at h
  refine at_iconst 0 dX12_leastTree_43 ic_0 ?_
  exact t_X12_leastTree_44 hK N _ hk3 _ _ _ _ _ _ h
set_option maxRecDepth 100000 in
theorem t_X12_leastTree_39 {D : va_G} {b : Nat} {K : State → Heap → Prop} {sa : Nat → Nat} (hK : sx_Kk b K sa) (N : Nat) {k3 : Int32 → Int32 → Int32 → Int32 → sx_C → Option (Int32 × sx_C)} {uG uN uD uR uF uP uL uT uA uM uH xA xB xC xD xE xG xH xI xJ xK xL uO : sx_C} {G : sx_H} (res : Int32 × sx_C) (hk3 : ∀ (v1 : Int32) (v2 : Int32) (v3 : Int32) (v4 : Int32) (xF : sx_C), k3 v1 v2 v3 v4 xF = some res → sx_At D b K YX12_leastTree (sx_rm 2) (sx_Ex (some (.int res.1)) (sx_hp b uG uN uD uR uF uP uL uT uA uM uH xA xB xC xD xE (res.2) xG xH xI xJ xK xL uO G)) 3 [(0, .ref (b + 38)), (1, .int v1), (2, .int v2), (3, .int v3), (4, .int v4)] [] (sx_hp b uG uN uD uR uF uP uL uT uA uM uH xA xB xC xD xE xF xG xH xI xJ xK xL uO G) 0 0) : ∀ (v1 : Int32) (v2 : Int32) (v3 : Int32) (v4 : Int32) (xF : sx_C), f_X12_leastTree_39 N k3 xA xE v1 v2 v3 v4 xF = some res → sx_At D b K YX12_leastTree (sx_rm 2) (sx_Ex (some (.int res.1)) (sx_hp b uG uN uD uR uF uP uL uT uA uM uH xA xB xC xD xE (res.2) xG xH xI xJ xK xL uO G)) 39 [(0, .ref (b + 38)), (1, .int v1), (2, .int v2), (3, .int v3), (4, .int v4)] [] (sx_hp b uG uN uD uR uF uP uL uT uA uM uH xA xB xC xD xE xF xG xH xI xJ xK xL uO G) 0 0 := by
  intro v1 v2 v3 v4 xF h
  rw [f_X12_leastTree_39] at h
  refine at_iconst 1 dX12_leastTree_39 ic_1 ?_
  refine at_goto 44 dX12_leastTree_40 (by decide) ?_
  exact t_X12_leastTree_44 hK N _ hk3 _ _ _ _ _ _ h
set_option maxRecDepth 100000 in
theorem t_X12_leastTree_3 {D : va_G} {b : Nat} {K : State → Heap → Prop} {sa : Nat → Nat} (hK : sx_Kk b K sa) (N : Nat) {uG uN uD uR uF uP uL uT uA uM uH xA xB xC xD xE xG xH xI xJ xK xL uO : sx_C} {G : sx_H} (res : Int32 × sx_C) : ∀ (n0 : Nat) (v1 : Int32) (v2 : Int32) (v3 : Int32) (v4 : Int32) (xF : sx_C), f_X12_leastTree_3 N xA xE n0 v1 v2 v3 v4 xF = some res → sx_At D b K YX12_leastTree (sx_rm 2) (sx_Ex (some (.int res.1)) (sx_hp b uG uN uD uR uF uP uL uT uA uM uH xA xB xC xD xE (res.2) xG xH xI xJ xK xL uO G)) 3 [(0, .ref (b + 38)), (1, .int v1), (2, .int v2), (3, .int v3), (4, .int v4)] [] (sx_hp b uG uN uD uR uF uP uL uT uA uM uH xA xB xC xD xE xF xG xH xI xJ xK xL uO G) 0 0 := by
  intro n0
  induction n0 with
  | zero => intro _ _ _ _ _ h; cases h
  | succ n0 ih =>
    intro v1 v2 v3 v4 xF h
    rw [f_X12_leastTree_3] at h
    refine at_iload 4 dX12_leastTree_3 rfl ?_
    obtain ⟨q1, hq1, h⟩ := sp_bind h
    refine at_callSi (st := []) hK mt_X12_bits ml_X12_250 (t_X12_bits hK hq1) rfl rfl (Nat.le_of_ble_eq_true rfl) ⟨Nat.le_of_ble_eq_true rfl, Nat.le_of_ble_eq_true rfl⟩ ⟨Nat.le_refl _, Nat.le_refl _⟩ dX12_leastTree_5 ?_
    refine at_iload_n 2 dX12_leastTree_8 rfl ?_
    refine at_icmp_ne 43 dX12_leastTree_9 (by decide) (fun c2 => ?_) (fun c2 => ?_)
    · rw [if_neg c2] at h
      exact t_X12_leastTree_43 hK N _ ih _ _ _ _ _ h
    · rw [if_pos c2] at h
      refine at_aload_n 0 dX12_leastTree_12 rfl ?_
      refine at_iload 4 dX12_leastTree_13 rfl ?_
      obtain ⟨q3, hq3, h⟩ := sp_bind h
      refine at_callVi (st := []) hK mt_X12_isForest ml_X12_233 cl_X12 hg_38 (t_X12_isForest hK hq3) rfl rfl (Nat.le_of_ble_eq_true rfl) ⟨Nat.le_of_ble_eq_true rfl, Nat.le_of_ble_eq_true rfl⟩ ⟨Nat.le_refl _, Nat.le_refl _⟩ dX12_leastTree_15 ?_
      refine at_zeq 43 dX12_leastTree_18 (by decide) (fun c4 => ?_) (fun c4 => ?_)
      · rw [if_neg c4] at h
        exact t_X12_leastTree_43 hK N _ ih _ _ _ _ _ h
      · rw [if_pos c4] at h
        refine at_iload_n 3 dX12_leastTree_21 rfl ?_
        refine at_if_eq 39 dX12_leastTree_22 (by decide) (fun c5 => ?_) (fun c5 => ?_)
        · rw [if_pos c5] at h
          exact t_X12_leastTree_39 hK N _ ih _ _ _ _ _ h
        · rw [if_neg c5] at h
          refine at_aload_n 0 dX12_leastTree_25 rfl ?_
          refine at_iload_n 1 dX12_leastTree_26 rfl ?_
          refine at_iload 4 dX12_leastTree_27 rfl ?_
          refine at_iconst (-1) dX12_leastTree_29 ic_m1 ?_
          refine at_ixor dX12_leastTree_30 ?_
          refine at_iand dX12_leastTree_31 ?_
          obtain ⟨q6, hq6, h⟩ := sp_bind h
          refine at_callVi (st := []) hK mt_X12_rank ml_X12_275 cl_X12 hg_38 (t_X12_rank hK hq6) rfl rfl (Nat.le_of_ble_eq_true rfl) ⟨Nat.le_of_ble_eq_true rfl, Nat.le_of_ble_eq_true rfl⟩ ⟨Nat.le_refl _, Nat.le_refl _⟩ dX12_leastTree_32 ?_
          refine at_iload_n 2 dX12_leastTree_35 rfl ?_
          refine at_icmp_ne 43 dX12_leastTree_36 (by decide) (fun c7 => ?_) (fun c7 => ?_)
          · rw [if_neg c7] at h
            exact t_X12_leastTree_43 hK N _ ih _ _ _ _ _ h
          · rw [if_pos c7] at h
            exact t_X12_leastTree_39 hK N _ ih _ _ _ _ _ h
set_option maxRecDepth 100000 in
theorem t_X12_leastTree {D : va_G} {b : Nat} {K : State → Heap → Prop} {sa : Nat → Nat} (hK : sx_Kk b K sa) {N : Nat} {uG uN uD uR uF uP uL uT uA uM uH xA xB xC xD xE xG xH xI xJ xK xL uO : sx_C} {G : sx_H} {v1 : Int32} {v2 : Int32} {v3 : Int32} {xF : sx_C} {res : Int32 × sx_C} (h : f_X12_leastTree N xA xE v1 v2 v3 xF = some res) : sx_Runs D b K yX12_leastTree YX12_leastTree (sx_rm 2) [.ref (b + 38), .int v1, .int v2, .int v3] (sx_hp b uG uN uD uR uF uP uL uT uA uM uH xA xB xC xD xE xF xG xH xI xJ xK xL uO G) (sx_Ex (some (.int res.1)) (sx_hp b uG uN uD uR uF uP uL uT uA uM uH xA xB xC xD xE (res.2) xG xH xI xJ xK xL uO G)) := by
  rw [f_X12_leastTree] at h
  refine sx_run (by decide +kernel) rfl rfl (Nat.le_of_ble_eq_true rfl) ?_
  refine at_iconst 0 dX12_leastTree_0 ic_0 ?_
  refine at_istore [(0, .ref (b + 38)), (1, .int v1), (2, .int v2), (3, .int v3), (4, .int 0)] dX12_leastTree_1 (Nat.le_of_ble_eq_true rfl) rfl ?_
  exact t_X12_leastTree_3 hK N _ N _ _ _ _ _ h
set_option maxRecDepth 100000 in
theorem t_X12_laysPair {D : va_G} {b : Nat} {K : State → Heap → Prop} {sa : Nat → Nat} (hK : sx_Kk b K sa) {N : Nat} {uG uN uD uR uF uP uL uT uA uM uH xA xB xC xI xJ xK xL uO : sx_C} {G : sx_H} {v1 : Int32} {v2 : Int32} {xD : sx_C} {xE : sx_C} {xF : sx_C} {xG : sx_C} {xH : sx_C} {res : Bool × sx_C × sx_C × sx_C × sx_C × sx_C} (h : f_X12_laysPair N xA v1 v2 xD xE xF xG xH = some res) : sx_Runs D b K yX12_laysPair YX12_laysPair (sx_rm 5) [.ref (b + 38), .int v1, .int v2] (sx_hp b uG uN uD uR uF uP uL uT uA uM uH xA xB xC xD xE xF xG xH xI xJ xK xL uO G) (sx_Ex (some (.int (sp_b res.1))) (sx_hp b uG uN uD uR uF uP uL uT uA uM uH xA xB xC (res.2.1) (res.2.2.1) (res.2.2.2.1) (res.2.2.2.2.1) (res.2.2.2.2.2) xI xJ xK xL uO G)) := by
  rw [f_X12_laysPair] at h
  refine sx_run (by decide +kernel) rfl rfl (Nat.le_of_ble_eq_true rfl) ?_
  refine at_aload_n 0 dX12_laysPair_0 rfl ?_
  refine at_iload_n 1 dX12_laysPair_1 rfl ?_
  refine at_iload_n 2 dX12_laysPair_2 rfl ?_
  refine at_iconst 0 dX12_laysPair_3 ic_0 ?_
  obtain ⟨q1, hq1, h⟩ := sp_bind h
  refine at_callVi (st := []) hK mt_X12_setAt ml_X12_278 cl_X12 hg_38 (t_X12_setAt hK hq1) rfl rfl (Nat.le_of_ble_eq_true rfl) ⟨Nat.le_of_ble_eq_true rfl, Nat.le_of_ble_eq_true rfl⟩ ⟨Nat.le_refl _, Nat.le_refl _⟩ dX12_laysPair_4 ?_
  refine at_istore_n [(0, .ref (b + 38)), (1, .int v1), (2, .int v2), (3, .int (q1.1))] dX12_laysPair_7 (Nat.le_of_ble_eq_true rfl) rfl ?_
  refine at_iload_n 3 dX12_laysPair_8 rfl ?_
  refine at_iconst (-1) dX12_laysPair_9 ic_m1 ?_
  refine at_icmp_ne 15 dX12_laysPair_10 (by decide) (fun c2 => ?_) (fun c2 => ?_)
  · rw [if_neg c2] at h
    refine at_aload_n 0 dX12_laysPair_15 rfl ?_
    refine at_aload_n 0 dX12_laysPair_16 rfl ?_
    refine at_iload_n 1 dX12_laysPair_17 rfl ?_
    refine at_iload_n 2 dX12_laysPair_18 rfl ?_
    obtain ⟨q3, hq3, h⟩ := sp_bind h
    refine at_callVi (st := [.ref (b + 38)]) hK mt_X12_open ml_X12_226 cl_X12 hg_38 (t_X12_open hK hq3) rfl rfl (Nat.le_of_ble_eq_true rfl) ⟨Nat.le_of_ble_eq_true rfl, Nat.le_of_ble_eq_true rfl⟩ ⟨Nat.le_refl _, Nat.le_refl _⟩ dX12_laysPair_19 ?_
    refine at_iload_n 3 dX12_laysPair_22 rfl ?_
    obtain ⟨q4, hq4, h⟩ := sp_bind h
    refine at_callVi (st := []) hK mt_X12_within ml_X12_247 cl_X12 hg_38 (t_X12_within hK hq4) rfl rfl (Nat.le_of_ble_eq_true rfl) ⟨Nat.le_of_ble_eq_true rfl, Nat.le_of_ble_eq_true rfl⟩ ⟨Nat.le_refl _, Nat.le_refl _⟩ dX12_laysPair_23 ?_
    refine at_istore [(0, .ref (b + 38)), (1, .int v1), (2, .int v2), (3, .int (q1.1)), (4, .int q4)] dX12_laysPair_26 (Nat.le_of_ble_eq_true rfl) rfl ?_
    refine at_iload_n 3 dX12_laysPair_28 rfl ?_
    obtain ⟨q5, hq5, h⟩ := sp_bind h
    refine at_callSi (st := []) hK mt_X12_bits ml_X12_250 (t_X12_bits hK hq5) rfl rfl (Nat.le_of_ble_eq_true rfl) ⟨Nat.le_of_ble_eq_true rfl, Nat.le_of_ble_eq_true rfl⟩ ⟨Nat.le_refl _, Nat.le_refl _⟩ dX12_laysPair_29 ?_
    refine at_iconst 1 dX12_laysPair_32 ic_1 ?_
    refine at_isub dX12_laysPair_33 ?_
    refine at_istore [(0, .ref (b + 38)), (1, .int v1), (2, .int v2), (3, .int (q1.1)), (4, .int q4), (5, .int (q5 - 1))] dX12_laysPair_34 (Nat.le_of_ble_eq_true rfl) rfl ?_
    refine at_aload_n 0 dX12_laysPair_36 rfl ?_
    refine at_iload_n 3 dX12_laysPair_37 rfl ?_
    refine at_putf cl_X12 (by decide) fl_X12_282 rfl hg_38 rfl rfl (Nat.le_of_ble_eq_true rfl) hs_38_43 dX12_laysPair_38 ?_
    refine at_aload_n 0 dX12_laysPair_41 rfl ?_
    refine at_aload_n 0 dX12_laysPair_42 rfl ?_
    refine at_iload 4 dX12_laysPair_43 rfl ?_
    refine at_iload 5 dX12_laysPair_45 rfl ?_
    refine at_iconst 1 dX12_laysPair_47 ic_1 ?_
    obtain ⟨q6, hq6, h⟩ := sp_bind h
    refine at_callVi (st := [.ref (b + 38)]) hK mt_X12_leastTree ml_X12_285 cl_X12 hg_38 (t_X12_leastTree hK hq6) rfl rfl (Nat.le_of_ble_eq_true rfl) ⟨Nat.le_of_ble_eq_true rfl, Nat.le_of_ble_eq_true rfl⟩ ⟨Nat.le_refl _, Nat.le_refl _⟩ dX12_laysPair_48 ?_
    refine at_putf cl_X12 (by decide) fl_X12_289 rfl hg_38 rfl rfl (Nat.le_of_ble_eq_true rfl) hs_38_44 dX12_laysPair_51 ?_
    refine at_aload_n 0 dX12_laysPair_54 rfl ?_
    refine at_aload_n 0 dX12_laysPair_55 rfl ?_
    refine at_iload 4 dX12_laysPair_56 rfl ?_
    refine at_aload_n 0 dX12_laysPair_58 rfl ?_
    refine at_getf cl_X12 (by decide) fl_X12_289 hg_38 rfl dX12_laysPair_59 ?_
    refine at_iconst (-1) dX12_laysPair_62 ic_m1 ?_
    refine at_ixor dX12_laysPair_63 ?_
    refine at_iand dX12_laysPair_64 ?_
    refine at_iload 5 dX12_laysPair_65 rfl ?_
    refine at_iconst 0 dX12_laysPair_67 ic_0 ?_
    obtain ⟨q7, hq7, h⟩ := sp_bind h
    refine at_callVi (st := [.ref (b + 38)]) hK mt_X12_leastTree ml_X12_285 cl_X12 hg_38 (t_X12_leastTree hK hq7) rfl rfl (Nat.le_of_ble_eq_true rfl) ⟨Nat.le_of_ble_eq_true rfl, Nat.le_of_ble_eq_true rfl⟩ ⟨Nat.le_refl _, Nat.le_refl _⟩ dX12_laysPair_68 ?_
    refine at_putf cl_X12 (by decide) fl_X12_292 rfl hg_38 rfl rfl (Nat.le_of_ble_eq_true rfl) hs_38_45 dX12_laysPair_71 ?_
    refine at_iconst 1 dX12_laysPair_74 ic_1 ?_
    cases h; exact at_zret rfl rfl (Nat.le_refl _) (Nat.le_refl _) ⟨rfl, rfl⟩ dX12_laysPair_75
  · rw [if_pos c2] at h
    refine at_iconst 0 dX12_laysPair_13 ic_0 ?_
    cases h; exact at_zret rfl rfl (Nat.le_refl _) (Nat.le_refl _) ⟨rfl, rfl⟩ dX12_laysPair_14
set_option maxRecDepth 100000 in
theorem t_J6_numberOfTrailingZeros_0f7a4_74 {D : va_G} {b : Nat} {K : State → Heap → Prop} {sa : Nat → Nat} (hK : sx_Kk b K sa) {σ : sx_H} (res : Int32) : ∀ (v0 : Int32) (v1 : Int32), f_J6_numberOfTrailingZeros_0f7a4_74 v0 v1 = some res → sx_At D b K YJ6_numberOfTrailingZeros_0f7a4 (sx_rm 0) (sx_Ex (some (.int res)) σ) 74 [(0, .int v0), (1, .int v1)] [] σ 0 0 := by
  intro v0 v1 h
  rw [f_J6_numberOfTrailingZeros_0f7a4_74] at h
  refine at_iload_n 1 dJ6_numberOfTrailingZeros_0f7a4_74 rfl ?_
  refine at_iload_n 0 dJ6_numberOfTrailingZeros_0f7a4_75 rfl ?_
  refine at_iconst 1 dJ6_numberOfTrailingZeros_0f7a4_76 ic_1 ?_
  refine at_iushr dJ6_numberOfTrailingZeros_0f7a4_77 ?_
  refine at_iadd dJ6_numberOfTrailingZeros_0f7a4_78 ?_
  cases h; exact at_iret rfl (Nat.le_refl _) (Nat.le_refl _) ⟨rfl, rfl⟩ dJ6_numberOfTrailingZeros_0f7a4_79
set_option maxRecDepth 100000 in
theorem t_J6_numberOfTrailingZeros_0f7a4_62 {D : va_G} {b : Nat} {K : State → Heap → Prop} {sa : Nat → Nat} (hK : sx_Kk b K sa) {σ : sx_H} (res : Int32) : ∀ (v0 : Int32) (v1 : Int32), f_J6_numberOfTrailingZeros_0f7a4_62 v0 v1 = some res → sx_At D b K YJ6_numberOfTrailingZeros_0f7a4 (sx_rm 0) (sx_Ex (some (.int res)) σ) 62 [(0, .int v0), (1, .int v1)] [] σ 0 0 := by
  intro v0 v1 h
  rw [f_J6_numberOfTrailingZeros_0f7a4_62] at h
  refine at_iload_n 0 dJ6_numberOfTrailingZeros_0f7a4_62 rfl ?_
  refine at_iconst 4 dJ6_numberOfTrailingZeros_0f7a4_63 ic_4 ?_
  refine at_icmp_le 74 dJ6_numberOfTrailingZeros_0f7a4_64 (by decide) (fun c3 => ?_) (fun c3 => ?_)
  · rw [if_pos c3] at h
    exact t_J6_numberOfTrailingZeros_0f7a4_74 hK _ _ _ h
  · rw [if_neg c3] at h
    refine at_iinc 1 2 [(0, .int v0), (1, .int (v1 + 2))] dJ6_numberOfTrailingZeros_0f7a4_67 rfl ic_2 (Nat.le_of_ble_eq_true rfl) rfl ?_
    refine at_iload_n 0 dJ6_numberOfTrailingZeros_0f7a4_70 rfl ?_
    refine at_iconst 2 dJ6_numberOfTrailingZeros_0f7a4_71 ic_2 ?_
    refine at_iushr dJ6_numberOfTrailingZeros_0f7a4_72 ?_
    refine at_istore_n [(0, .int (sp_ushr v0 2)), (1, .int (v1 + 2))] dJ6_numberOfTrailingZeros_0f7a4_73 (Nat.le_of_ble_eq_true rfl) rfl ?_
    exact t_J6_numberOfTrailingZeros_0f7a4_74 hK _ _ _ h
set_option maxRecDepth 100000 in
theorem t_J6_numberOfTrailingZeros_0f7a4_49 {D : va_G} {b : Nat} {K : State → Heap → Prop} {sa : Nat → Nat} (hK : sx_Kk b K sa) {σ : sx_H} (res : Int32) : ∀ (v0 : Int32) (v1 : Int32), f_J6_numberOfTrailingZeros_0f7a4_49 v0 v1 = some res → sx_At D b K YJ6_numberOfTrailingZeros_0f7a4 (sx_rm 0) (sx_Ex (some (.int res)) σ) 49 [(0, .int v0), (1, .int v1)] [] σ 0 0 := by
  intro v0 v1 h
  rw [f_J6_numberOfTrailingZeros_0f7a4_49] at h
  refine at_iload_n 0 dJ6_numberOfTrailingZeros_0f7a4_49 rfl ?_
  refine at_bipush 16 dJ6_numberOfTrailingZeros_0f7a4_50 bp_16 ?_
  refine at_icmp_le 62 dJ6_numberOfTrailingZeros_0f7a4_52 (by decide) (fun c2 => ?_) (fun c2 => ?_)
  · rw [if_pos c2] at h
    exact t_J6_numberOfTrailingZeros_0f7a4_62 hK _ _ _ h
  · rw [if_neg c2] at h
    refine at_iinc 1 4 [(0, .int v0), (1, .int (v1 + 4))] dJ6_numberOfTrailingZeros_0f7a4_55 rfl ic_4 (Nat.le_of_ble_eq_true rfl) rfl ?_
    refine at_iload_n 0 dJ6_numberOfTrailingZeros_0f7a4_58 rfl ?_
    refine at_iconst 4 dJ6_numberOfTrailingZeros_0f7a4_59 ic_4 ?_
    refine at_iushr dJ6_numberOfTrailingZeros_0f7a4_60 ?_
    refine at_istore_n [(0, .int (sp_ushr v0 4)), (1, .int (v1 + 4))] dJ6_numberOfTrailingZeros_0f7a4_61 (Nat.le_of_ble_eq_true rfl) rfl ?_
    exact t_J6_numberOfTrailingZeros_0f7a4_62 hK _ _ _ h
set_option maxRecDepth 100000 in
theorem t_J6_numberOfTrailingZeros_0f7a4_34 {D : va_G} {b : Nat} {K : State → Heap → Prop} {sa : Nat → Nat} (hK : sx_Kk b K sa) {σ : sx_H} (res : Int32) : ∀ (v0 : Int32) (v1 : Int32), f_J6_numberOfTrailingZeros_0f7a4_34 v0 v1 = some res → sx_At D b K YJ6_numberOfTrailingZeros_0f7a4 (sx_rm 0) (sx_Ex (some (.int res)) σ) 34 [(0, .int v0), (1, .int v1)] [] σ 0 0 := by
  intro v0 v1 h
  rw [f_J6_numberOfTrailingZeros_0f7a4_34] at h
  refine at_iload_n 0 dJ6_numberOfTrailingZeros_0f7a4_34 rfl ?_
  refine at_sipush 256 dJ6_numberOfTrailingZeros_0f7a4_35 sh_256 ?_
  refine at_icmp_le 49 dJ6_numberOfTrailingZeros_0f7a4_38 (by decide) (fun c1 => ?_) (fun c1 => ?_)
  · rw [if_pos c1] at h
    exact t_J6_numberOfTrailingZeros_0f7a4_49 hK _ _ _ h
  · rw [if_neg c1] at h
    refine at_iinc 1 8 [(0, .int v0), (1, .int (v1 + 8))] dJ6_numberOfTrailingZeros_0f7a4_41 rfl ic_8 (Nat.le_of_ble_eq_true rfl) rfl ?_
    refine at_iload_n 0 dJ6_numberOfTrailingZeros_0f7a4_44 rfl ?_
    refine at_bipush 8 dJ6_numberOfTrailingZeros_0f7a4_45 bp_8 ?_
    refine at_iushr dJ6_numberOfTrailingZeros_0f7a4_47 ?_
    refine at_istore_n [(0, .int (sp_ushr v0 8)), (1, .int (v1 + 8))] dJ6_numberOfTrailingZeros_0f7a4_48 (Nat.le_of_ble_eq_true rfl) rfl ?_
    exact t_J6_numberOfTrailingZeros_0f7a4_49 hK _ _ _ h
set_option maxRecDepth 100000 in
theorem t_J6_numberOfTrailingZeros_0f7a4 {D : va_G} {b : Nat} {K : State → Heap → Prop} {sa : Nat → Nat} (hK : sx_Kk b K sa) {σ : sx_H} {v0 : Int32} {res : Int32} (h : f_J6_numberOfTrailingZeros_0f7a4 v0 = some res) : sx_Runs D b K yJ6_numberOfTrailingZeros_0f7a4 YJ6_numberOfTrailingZeros_0f7a4 (sx_rm 0) [.int v0] σ (sx_Ex (some (.int res)) σ) := by
  rw [f_J6_numberOfTrailingZeros_0f7a4] at h
  refine sx_run (by decide +kernel) rfl rfl (Nat.le_of_ble_eq_true rfl) ?_
  refine at_iload_n 0 dJ6_numberOfTrailingZeros_0f7a4_0 rfl ?_
  refine at_iconst (-1) dJ6_numberOfTrailingZeros_0f7a4_1 ic_m1 ?_
  refine at_ixor dJ6_numberOfTrailingZeros_0f7a4_2 ?_
  refine at_iload_n 0 dJ6_numberOfTrailingZeros_0f7a4_3 rfl ?_
  refine at_iconst 1 dJ6_numberOfTrailingZeros_0f7a4_4 ic_1 ?_
  refine at_isub dJ6_numberOfTrailingZeros_0f7a4_5 ?_
  refine at_iand dJ6_numberOfTrailingZeros_0f7a4_6 ?_
  refine at_istore_n [(0, .int ((v0 ^^^ (-1)) &&& (v0 - 1)))] dJ6_numberOfTrailingZeros_0f7a4_7 (Nat.le_of_ble_eq_true rfl) rfl ?_
  refine at_iload_n 0 dJ6_numberOfTrailingZeros_0f7a4_8 rfl ?_
  refine at_if_gt 17 dJ6_numberOfTrailingZeros_0f7a4_9 (by decide) (fun c4 => ?_) (fun c4 => ?_)
  · rw [if_pos c4] at h
    refine at_iconst 1 dJ6_numberOfTrailingZeros_0f7a4_17 ic_1 ?_
    refine at_istore_n [(0, .int ((v0 ^^^ (-1)) &&& (v0 - 1))), (1, .int 1)] dJ6_numberOfTrailingZeros_0f7a4_18 (Nat.le_of_ble_eq_true rfl) rfl ?_
    refine at_iload_n 0 dJ6_numberOfTrailingZeros_0f7a4_19 rfl ?_
    refine at_ldcw kn_J6_264 dJ6_numberOfTrailingZeros_0f7a4_20 ?_
    refine at_icmp_le 34 dJ6_numberOfTrailingZeros_0f7a4_23 (by decide) (fun c5 => ?_) (fun c5 => ?_)
    · rw [if_pos c5] at h
      exact t_J6_numberOfTrailingZeros_0f7a4_34 hK _ _ _ h
    · rw [if_neg c5] at h
      refine at_iinc 1 16 [(0, .int ((v0 ^^^ (-1)) &&& (v0 - 1))), (1, .int (1 + 16))] dJ6_numberOfTrailingZeros_0f7a4_26 rfl ic_16 (Nat.le_of_ble_eq_true rfl) rfl ?_
      refine at_iload_n 0 dJ6_numberOfTrailingZeros_0f7a4_29 rfl ?_
      refine at_bipush 16 dJ6_numberOfTrailingZeros_0f7a4_30 bp_16 ?_
      refine at_iushr dJ6_numberOfTrailingZeros_0f7a4_32 ?_
      refine at_istore_n [(0, .int (sp_ushr ((v0 ^^^ (-1)) &&& (v0 - 1)) 16)), (1, .int (1 + 16))] dJ6_numberOfTrailingZeros_0f7a4_33 (Nat.le_of_ble_eq_true rfl) rfl ?_
      exact t_J6_numberOfTrailingZeros_0f7a4_34 hK _ _ _ h
  · rw [if_neg c4] at h
    refine at_iload_n 0 dJ6_numberOfTrailingZeros_0f7a4_12 rfl ?_
    refine at_bipush 32 dJ6_numberOfTrailingZeros_0f7a4_13 bp_32 ?_
    refine at_iand dJ6_numberOfTrailingZeros_0f7a4_15 ?_
    cases h; exact at_iret rfl (Nat.le_refl _) (Nat.le_refl _) ⟨rfl, rfl⟩ dJ6_numberOfTrailingZeros_0f7a4_16
set_option maxRecDepth 100000 in
theorem t_X12_answerOf_123 {D : va_G} {b : Nat} {K : State → Heap → Prop} {sa : Nat → Nat} (hK : sx_Kk b K sa) (N : Nat) {k86 : Int32 → Int32 → Int32 → sx_C → Option (Int32 × sx_C)} {uG uN uD uR uF uP uL uT uA uM uH xA xB xC xD xE xG xH xI xJ xK xL uO : sx_C} {G : sx_H} (res : Int32 × sx_C) (hk86 : ∀ (v4 : Int32) (v5 : Int32) (v6 : Int32) (xF : sx_C), k86 v4 v5 v6 xF = some res → sx_At D b K YX12_answerOf (sx_rm 1) (sx_Ex (some (.int res.1)) (sx_hp b uG uN uD uR uF uP uL uT uA uM uH xA xB xC xD xE (res.2) xG xH xI xJ xK xL uO G)) 86 [(0, .ref (b + 38)), (4, .int v4), (5, .int v5), (6, .int v6)] [] (sx_hp b uG uN uD uR uF uP uL uT uA uM uH xA xB xC xD xE xF xG xH xI xJ xK xL uO G) 0 0) : ∀ (v4 : Int32) (v5 : Int32) (v6 : Int32) (xF : sx_C), f_X12_answerOf_123 N k86 xA xE xH v4 v5 v6 xF = some res → sx_At D b K YX12_answerOf (sx_rm 1) (sx_Ex (some (.int res.1)) (sx_hp b uG uN uD uR uF uP uL uT uA uM uH xA xB xC xD xE (res.2) xG xH xI xJ xK xL uO G)) 123 [(0, .ref (b + 38)), (4, .int v4), (5, .int v5), (6, .int v6)] [] (sx_hp b uG uN uD uR uF uP uL uT uA uM uH xA xB xC xD xE xF xG xH xI xJ xK xL uO G) 0 0 := by
  intro v4 v5 v6 xF h
  rw [f_X12_answerOf_123] at h
  refine at_iinc 3 1 [(0, .ref (b + 38)), (4, .int v4), (5, .int v5), (6, .int (v6 + 1))] dX12_answerOf_123 rfl ic_1 (Nat.le_of_ble_eq_true rfl) rfl ?_
  refine at_goto 86 dX12_answerOf_126 (by decide) ?_
  exact hk86 _ _ _ _ h
set_option maxRecDepth 100000 in
theorem t_X12_answerOf_86 {D : va_G} {b : Nat} {K : State → Heap → Prop} {sa : Nat → Nat} (hK : sx_Kk b K sa) (N : Nat) {uG uN uD uR uF uP uL uT uA uM uH xA xB xC xD xE xG xH xI xJ xK xL uO : sx_C} {G : sx_H} (res : Int32 × sx_C) : ∀ (n0 : Nat) (v4 : Int32) (v5 : Int32) (v6 : Int32) (xF : sx_C), f_X12_answerOf_86 N xA xE xH n0 v4 v5 v6 xF = some res → sx_At D b K YX12_answerOf (sx_rm 1) (sx_Ex (some (.int res.1)) (sx_hp b uG uN uD uR uF uP uL uT uA uM uH xA xB xC xD xE (res.2) xG xH xI xJ xK xL uO G)) 86 [(0, .ref (b + 38)), (4, .int v4), (5, .int v5), (6, .int v6)] [] (sx_hp b uG uN uD uR uF uP uL uT uA uM uH xA xB xC xD xE xF xG xH xI xJ xK xL uO G) 0 0 := by
  intro n0
  induction n0 with
  | zero => intro _ _ _ _ h; cases h
  | succ n0 ih =>
    intro v4 v5 v6 xF h
    rw [f_X12_answerOf_86] at h
    refine at_iload 3 dX12_answerOf_86 rfl ?_
    refine at_aload_n 0 dX12_answerOf_88 rfl ?_
    refine at_getf cl_X12 (by decide) fl_X12_198 hg_38 rfl dX12_answerOf_89 ?_
    refine at_icmp_ge 129 dX12_answerOf_92 (by decide) (fun c6 => ?_) (fun c6 => ?_)
    · rw [if_pos c6] at h
      refine at_iconst (-1) dX12_answerOf_129 ic_m1 ?_
      cases h; exact at_iret rfl (Nat.le_refl _) (Nat.le_refl _) ⟨rfl, rfl⟩ dX12_answerOf_130
    · rw [if_neg c6] at h
      refine at_iload 2 dX12_answerOf_95 rfl ?_
      refine at_iload 3 dX12_answerOf_97 rfl ?_
      refine at_ishr dX12_answerOf_99 ?_
      refine at_iconst 1 dX12_answerOf_100 ic_1 ?_
      refine at_iand dX12_answerOf_101 ?_
      refine at_iconst 1 dX12_answerOf_102 ic_1 ?_
      refine at_icmp_ne 123 dX12_answerOf_103 (by decide) (fun c7 => ?_) (fun c7 => ?_)
      · rw [if_neg c7] at h
        exact t_X12_answerOf_123 hK N _ ih _ _ _ _ h
      · rw [if_pos c7] at h
        refine at_aload_n 0 dX12_answerOf_106 rfl ?_
        refine at_iload 1 dX12_answerOf_107 rfl ?_
        refine at_iconst 1 dX12_answerOf_109 ic_1 ?_
        refine at_iload 3 dX12_answerOf_110 rfl ?_
        refine at_ishl dX12_answerOf_112 ?_
        refine at_ior dX12_answerOf_113 ?_
        obtain ⟨q8, hq8, h⟩ := sp_bind h
        refine at_callVi (st := []) hK mt_X12_isForest ml_X12_233 cl_X12 hg_38 (t_X12_isForest hK hq8) rfl rfl (Nat.le_of_ble_eq_true rfl) ⟨Nat.le_of_ble_eq_true rfl, Nat.le_of_ble_eq_true rfl⟩ ⟨Nat.le_refl _, Nat.le_refl _⟩ dX12_answerOf_114 ?_
        refine at_zeq 123 dX12_answerOf_117 (by decide) (fun c9 => ?_) (fun c9 => ?_)
        · rw [if_neg c9] at h
          exact t_X12_answerOf_123 hK N _ ih _ _ _ _ h
        · rw [if_pos c9] at h
          refine at_iload 3 dX12_answerOf_120 rfl ?_
          cases h; exact at_iret rfl (Nat.le_refl _) (Nat.le_refl _) ⟨rfl, rfl⟩ dX12_answerOf_122
set_option maxRecDepth 100000 in
theorem t_X12_answerOf_81 {D : va_G} {b : Nat} {K : State → Heap → Prop} {sa : Nat → Nat} (hK : sx_Kk b K sa) (N : Nat) {uG uN uD uR uF uP uL uT uA uM uH xA xB xC xD xE xG xH xI xJ xK xL uO : sx_C} {G : sx_H} (res : Int32 × sx_C) : ∀ (v4 : Int32) (s0 : Int32) (xF : sx_C), f_X12_answerOf_81 N xA xE xH v4 s0 xF = some res → sx_At D b K YX12_answerOf (sx_rm 1) (sx_Ex (some (.int res.1)) (sx_hp b uG uN uD uR uF uP uL uT uA uM uH xA xB xC xD xE (res.2) xG xH xI xJ xK xL uO G)) 81 [(0, .ref (b + 38)), (4, .int v4)] [.int s0] (sx_hp b uG uN uD uR uF uP uL uT uA uM uH xA xB xC xD xE xF xG xH xI xJ xK xL uO G) 0 0 := by
  intro v4 s0 xF h
  rw [f_X12_answerOf_81] at h
  refine at_istore [(0, .ref (b + 38)), (4, .int v4), (5, .int s0)] dX12_answerOf_81 (Nat.le_of_ble_eq_true rfl) rfl ?_
  refine at_iconst 0 dX12_answerOf_83 ic_0 ?_
  refine at_istore [(0, .ref (b + 38)), (4, .int v4), (5, .int s0), (6, .int 0)] dX12_answerOf_84 (Nat.le_of_ble_eq_true rfl) rfl ?_
  exact t_X12_answerOf_86 hK N _ N _ _ _ _ h
set_option maxRecDepth 100000 in
theorem t_X12_answerOf_60 {D : va_G} {b : Nat} {K : State → Heap → Prop} {sa : Nat → Nat} (hK : sx_Kk b K sa) (N : Nat) {uG uN uD uR uF uP uL uT uA uM uH xA xB xC xD xE xG xH xI xJ xK xL uO : sx_C} {G : sx_H} (res : Int32 × sx_C) : ∀ (v2 : Int32) (v3 : Int32) (s0 : Int32) (xF : sx_C), f_X12_answerOf_60 N xA xE xH v2 v3 s0 xF = some res → sx_At D b K YX12_answerOf (sx_rm 1) (sx_Ex (some (.int res.1)) (sx_hp b uG uN uD uR uF uP uL uT uA uM uH xA xB xC xD xE (res.2) xG xH xI xJ xK xL uO G)) 60 [(0, .ref (b + 38)), (2, .int v2), (3, .int v3)] [.int s0] (sx_hp b uG uN uD uR uF uP uL uT uA uM uH xA xB xC xD xE xF xG xH xI xJ xK xL uO G) 0 0 := by
  intro v2 v3 s0 xF h
  rw [f_X12_answerOf_60] at h
  refine at_iload_n 1 dX12_answerOf_60 rfl ?_
  refine at_iconst (-1) dX12_answerOf_61 ic_m1 ?_
  refine at_ixor dX12_answerOf_62 ?_
  refine at_iand dX12_answerOf_63 ?_
  refine at_istore [(0, .ref (b + 38)), (2, .int v2), (3, .int v3), (4, .int (s0 &&& (v2 ^^^ (-1))))] dX12_answerOf_64 (Nat.le_of_ble_eq_true rfl) rfl ?_
  refine at_iload_n 2 dX12_answerOf_66 rfl ?_
  refine at_if_eq 77 dX12_answerOf_67 (by decide) (fun c5 => ?_) (fun c5 => ?_)
  · rw [if_pos c5] at h
    refine at_aload_n 0 dX12_answerOf_77 rfl ?_
    refine at_getf cl_X12 (by decide) fl_X12_289 hg_38 rfl dX12_answerOf_78 ?_
    refine at_sub [0, 3] [(0, .ref (b + 38)), (4, .int (s0 &&& (v2 ^^^ (-1))))] rfl ?_
    exact t_X12_answerOf_81 hK N _ _ _ _ h
  · rw [if_neg c5] at h
    refine at_aload_n 0 dX12_answerOf_70 rfl ?_
    refine at_getf cl_X12 (by decide) fl_X12_292 hg_38 rfl dX12_answerOf_71 ?_
    refine at_goto 81 dX12_answerOf_74 (by decide) ?_
    refine at_sub [0, 3] [(0, .ref (b + 38)), (4, .int (s0 &&& (v2 ^^^ (-1))))] rfl ?_
    exact t_X12_answerOf_81 hK N _ _ _ _ h
set_option maxRecDepth 100000 in
theorem t_X12_answerOf_45 {D : va_G} {b : Nat} {K : State → Heap → Prop} {sa : Nat → Nat} (hK : sx_Kk b K sa) (N : Nat) {uG uN uD uR uF uP uL uT uA uM uH xA xB xC xD xE xG xH xI xJ xK xL uO : sx_C} {G : sx_H} (res : Int32 × sx_C) : ∀ (v2 : Int32) (v3 : Int32) (xF : sx_C), f_X12_answerOf_45 N xA xE xH v2 v3 xF = some res → sx_At D b K YX12_answerOf (sx_rm 1) (sx_Ex (some (.int res.1)) (sx_hp b uG uN uD uR uF uP uL uT uA uM uH xA xB xC xD xE (res.2) xG xH xI xJ xK xL uO G)) 45 [(0, .ref (b + 38)), (2, .int v2), (3, .int v3)] [] (sx_hp b uG uN uD uR uF uP uL uT uA uM uH xA xB xC xD xE xF xG xH xI xJ xK xL uO G) 0 0 := by
  intro v2 v3 xF h
  rw [f_X12_answerOf_45] at h
  refine at_iload_n 2 dX12_answerOf_45 rfl ?_
  refine at_if_eq 56 dX12_answerOf_46 (by decide) (fun c4 => ?_) (fun c4 => ?_)
  · rw [if_pos c4] at h
    refine at_aload_n 0 dX12_answerOf_56 rfl ?_
    refine at_getf cl_X12 (by decide) fl_X12_292 hg_38 rfl dX12_answerOf_57 ?_
    exact t_X12_answerOf_60 hK N _ _ _ _ _ h
  · rw [if_neg c4] at h
    refine at_aload_n 0 dX12_answerOf_49 rfl ?_
    refine at_getf cl_X12 (by decide) fl_X12_289 hg_38 rfl dX12_answerOf_50 ?_
    refine at_goto 60 dX12_answerOf_53 (by decide) ?_
    exact t_X12_answerOf_60 hK N _ _ _ _ _ h
set_option maxRecDepth 100000 in
theorem t_X12_answerOf_18 {D : va_G} {b : Nat} {K : State → Heap → Prop} {sa : Nat → Nat} (hK : sx_Kk b K sa) (N : Nat) {uG uN uD uR uF uP uL uT uA uM uH xA xB xC xD xE xG xH xI xJ xK xL uO : sx_C} {G : sx_H} (res : Int32 × sx_C) : ∀ (v2 : Int32) (s0 : Int32) (xF : sx_C), f_X12_answerOf_18 N xA xE xH v2 s0 xF = some res → sx_At D b K YX12_answerOf (sx_rm 1) (sx_Ex (some (.int res.1)) (sx_hp b uG uN uD uR uF uP uL uT uA uM uH xA xB xC xD xE (res.2) xG xH xI xJ xK xL uO G)) 18 [(0, .ref (b + 38)), (2, .int v2)] [.int s0] (sx_hp b uG uN uD uR uF uP uL uT uA uM uH xA xB xC xD xE xF xG xH xI xJ xK xL uO G) 0 0 := by
  intro v2 s0 xF h
  rw [f_X12_answerOf_18] at h
  refine at_istore_n [(0, .ref (b + 38)), (2, .int v2), (3, .int s0)] dX12_answerOf_18 (Nat.le_of_ble_eq_true rfl) rfl ?_
  refine at_iload_n 2 dX12_answerOf_19 rfl ?_
  refine at_if_ne 45 dX12_answerOf_20 (by decide) (fun c1 => ?_) (fun c1 => ?_)
  · rw [if_neg c1] at h
    exact t_X12_answerOf_45 hK N _ _ _ _ h
  · rw [if_pos c1] at h
    refine at_aload_n 0 dX12_answerOf_23 rfl ?_
    refine at_getf cl_X12 (by decide) fl_X12_292 hg_38 rfl dX12_answerOf_24 ?_
    refine at_iload_n 1 dX12_answerOf_27 rfl ?_
    refine at_iand dX12_answerOf_28 ?_
    refine at_if_ne 45 dX12_answerOf_29 (by decide) (fun c2 => ?_) (fun c2 => ?_)
    · rw [if_neg c2] at h
      exact t_X12_answerOf_45 hK N _ _ _ _ h
    · rw [if_pos c2] at h
      refine at_aload_n 0 dX12_answerOf_32 rfl ?_
      refine at_getf cl_X12 (by decide) fl_X12_289 hg_38 rfl dX12_answerOf_33 ?_
      refine at_aload_n 0 dX12_answerOf_36 rfl ?_
      refine at_getf cl_X12 (by decide) fl_X12_292 hg_38 rfl dX12_answerOf_37 ?_
      refine at_ior dX12_answerOf_40 ?_
      obtain ⟨q3, hq3, h⟩ := sp_bind h
      refine at_callSi (st := []) hK mt_J6_numberOfTrailingZeros_0f7a4 ml_X12_295 (t_J6_numberOfTrailingZeros_0f7a4 hK hq3) rfl rfl (Nat.le_of_ble_eq_true rfl) ⟨Nat.le_of_ble_eq_true rfl, Nat.le_of_ble_eq_true rfl⟩ ⟨Nat.le_refl _, Nat.le_refl _⟩ dX12_answerOf_41 ?_
      cases h; exact at_iret rfl (Nat.le_refl _) (Nat.le_refl _) ⟨rfl, rfl⟩ dX12_answerOf_44
set_option maxRecDepth 100000 in
theorem t_X12_answerOf {D : va_G} {b : Nat} {K : State → Heap → Prop} {sa : Nat → Nat} (hK : sx_Kk b K sa) {N : Nat} {uG uN uD uR uF uP uL uT uA uM uH xA xB xC xD xE xG xH xI xJ xK xL uO : sx_C} {G : sx_H} {v1 : Int32} {xF : sx_C} {res : Int32 × sx_C} (h : f_X12_answerOf N xA xE xH v1 xF = some res) : sx_Runs D b K yX12_answerOf YX12_answerOf (sx_rm 1) [.ref (b + 38), .int v1] (sx_hp b uG uN uD uR uF uP uL uT uA uM uH xA xB xC xD xE xF xG xH xI xJ xK xL uO G) (sx_Ex (some (.int res.1)) (sx_hp b uG uN uD uR uF uP uL uT uA uM uH xA xB xC xD xE (res.2) xG xH xI xJ xK xL uO G)) := by
  rw [f_X12_answerOf] at h
  refine sx_run (by decide +kernel) rfl rfl (Nat.le_of_ble_eq_true rfl) ?_
  refine at_iconst 1 dX12_answerOf_0 ic_1 ?_
  refine at_iload_n 1 dX12_answerOf_1 rfl ?_
  refine at_ishl dX12_answerOf_2 ?_
  refine at_istore_n [(0, .ref (b + 38)), (1, .int v1), (2, .int (sp_shl 1 v1))] dX12_answerOf_3 (Nat.le_of_ble_eq_true rfl) rfl ?_
  refine at_aload_n 0 dX12_answerOf_4 rfl ?_
  refine at_getf cl_X12 (by decide) fl_X12_289 hg_38 rfl dX12_answerOf_5 ?_
  refine at_iload_n 2 dX12_answerOf_8 rfl ?_
  refine at_iand dX12_answerOf_9 ?_
  refine at_if_eq 17 dX12_answerOf_10 (by decide) (fun c10 => ?_) (fun c10 => ?_)
  · rw [if_pos c10] at h
    refine at_iconst 0 dX12_answerOf_17 ic_0 ?_
    refine at_sub [0, 2] [(0, .ref (b + 38)), (2, .int (sp_shl 1 v1))] rfl ?_
    exact t_X12_answerOf_18 hK N _ _ _ _ h
  · rw [if_neg c10] at h
    refine at_iconst 1 dX12_answerOf_13 ic_1 ?_
    refine at_goto 18 dX12_answerOf_14 (by decide) ?_
    refine at_sub [0, 2] [(0, .ref (b + 38)), (2, .int (sp_shl 1 v1))] rfl ?_
    exact t_X12_answerOf_18 hK N _ _ _ _ h
set_option maxRecDepth 100000 in
theorem t_X12_exchangeOf_115 {D : va_G} {b : Nat} {K : State → Heap → Prop} {sa : Nat → Nat} (hK : sx_Kk b K sa) (N : Nat) {k60 : Int32 → Int32 → Int32 → Int32 → sx_C → Option (Int32 × sx_C)} {uG uN uD uR uF uP uL uT uA uM uH xA xB xC xD xE xG xH xI xJ xK xL uO : sx_C} {G : sx_H} (res : Int32 × sx_C) (hk60 : ∀ (v2 : Int32) (v4 : Int32) (v5 : Int32) (v6 : Int32) (xF : sx_C), k60 v2 v4 v5 v6 xF = some res → sx_At D b K YX12_exchangeOf (sx_rm 1) (sx_Ex (some (.int res.1)) (sx_hp b uG uN uD uR uF uP uL uT uA uM uH xA xB xC xD xE (res.2) xG xH xI xJ xK xL uO G)) 60 [(0, .ref (b + 38)), (2, .int v2), (4, .int v4), (5, .int v5), (6, .int v6)] [] (sx_hp b uG uN uD uR uF uP uL uT uA uM uH xA xB xC xD xE xF xG xH xI xJ xK xL uO G) 0 0) : ∀ (v2 : Int32) (v4 : Int32) (v5 : Int32) (v6 : Int32) (xF : sx_C), f_X12_exchangeOf_115 N k60 xA xE xH v2 v4 v5 v6 xF = some res → sx_At D b K YX12_exchangeOf (sx_rm 1) (sx_Ex (some (.int res.1)) (sx_hp b uG uN uD uR uF uP uL uT uA uM uH xA xB xC xD xE (res.2) xG xH xI xJ xK xL uO G)) 115 [(0, .ref (b + 38)), (2, .int v2), (4, .int v4), (5, .int v5), (6, .int v6)] [] (sx_hp b uG uN uD uR uF uP uL uT uA uM uH xA xB xC xD xE xF xG xH xI xJ xK xL uO G) 0 0 := by
  intro v2 v4 v5 v6 xF h
  rw [f_X12_exchangeOf_115] at h
  refine at_iinc 4 1 [(0, .ref (b + 38)), (2, .int v2), (4, .int v4), (5, .int v5), (6, .int (v6 + 1))] dX12_exchangeOf_115 rfl ic_1 (Nat.le_of_ble_eq_true rfl) rfl ?_
  refine at_goto 60 dX12_exchangeOf_118 (by decide) ?_
  exact hk60 _ _ _ _ _ h
set_option maxRecDepth 100000 in
theorem t_X12_exchangeOf_60 {D : va_G} {b : Nat} {K : State → Heap → Prop} {sa : Nat → Nat} (hK : sx_Kk b K sa) (N : Nat) {uG uN uD uR uF uP uL uT uA uM uH xA xB xC xD xE xG xH xI xJ xK xL uO : sx_C} {G : sx_H} (res : Int32 × sx_C) : ∀ (n0 : Nat) (v2 : Int32) (v4 : Int32) (v5 : Int32) (v6 : Int32) (xF : sx_C), f_X12_exchangeOf_60 N xA xE xH n0 v2 v4 v5 v6 xF = some res → sx_At D b K YX12_exchangeOf (sx_rm 1) (sx_Ex (some (.int res.1)) (sx_hp b uG uN uD uR uF uP uL uT uA uM uH xA xB xC xD xE (res.2) xG xH xI xJ xK xL uO G)) 60 [(0, .ref (b + 38)), (2, .int v2), (4, .int v4), (5, .int v5), (6, .int v6)] [] (sx_hp b uG uN uD uR uF uP uL uT uA uM uH xA xB xC xD xE xF xG xH xI xJ xK xL uO G) 0 0 := by
  intro n0
  induction n0 with
  | zero => intro _ _ _ _ _ h; cases h
  | succ n0 ih =>
    intro v2 v4 v5 v6 xF h
    rw [f_X12_exchangeOf_60] at h
    refine at_iload 4 dX12_exchangeOf_60 rfl ?_
    refine at_aload_n 0 dX12_exchangeOf_62 rfl ?_
    refine at_getf cl_X12 (by decide) fl_X12_198 hg_38 rfl dX12_exchangeOf_63 ?_
    refine at_icmp_ge 121 dX12_exchangeOf_66 (by decide) (fun c3 => ?_) (fun c3 => ?_)
    · rw [if_pos c3] at h
      refine at_iconst (-1) dX12_exchangeOf_121 ic_m1 ?_
      cases h; exact at_iret rfl (Nat.le_refl _) (Nat.le_refl _) ⟨rfl, rfl⟩ dX12_exchangeOf_122
    · rw [if_neg c3] at h
      refine at_iload 3 dX12_exchangeOf_69 rfl ?_
      refine at_iload 4 dX12_exchangeOf_71 rfl ?_
      refine at_ishr dX12_exchangeOf_73 ?_
      refine at_iconst 1 dX12_exchangeOf_74 ic_1 ?_
      refine at_iand dX12_exchangeOf_75 ?_
      refine at_iconst 1 dX12_exchangeOf_76 ic_1 ?_
      refine at_icmp_ne 115 dX12_exchangeOf_77 (by decide) (fun c4 => ?_) (fun c4 => ?_)
      · rw [if_neg c4] at h
        exact t_X12_exchangeOf_115 hK N _ ih _ _ _ _ _ h
      · rw [if_pos c4] at h
        refine at_aload_n 0 dX12_exchangeOf_80 rfl ?_
        refine at_iload 2 dX12_exchangeOf_81 rfl ?_
        refine at_iconst 1 dX12_exchangeOf_83 ic_1 ?_
        refine at_iload 4 dX12_exchangeOf_84 rfl ?_
        refine at_ishl dX12_exchangeOf_86 ?_
        refine at_ior dX12_exchangeOf_87 ?_
        obtain ⟨q5, hq5, h⟩ := sp_bind h
        refine at_callVi (st := []) hK mt_X12_isForest ml_X12_233 cl_X12 hg_38 (t_X12_isForest hK hq5) rfl rfl (Nat.le_of_ble_eq_true rfl) ⟨Nat.le_of_ble_eq_true rfl, Nat.le_of_ble_eq_true rfl⟩ ⟨Nat.le_refl _, Nat.le_refl _⟩ dX12_exchangeOf_88 ?_
        refine at_zeq 115 dX12_exchangeOf_91 (by decide) (fun c6 => ?_) (fun c6 => ?_)
        · rw [if_neg c6] at h
          exact t_X12_exchangeOf_115 hK N _ ih _ _ _ _ _ h
        · rw [if_pos c6] at h
          refine at_aload_n 0 dX12_exchangeOf_94 rfl ?_
          refine at_iload 3 dX12_exchangeOf_95 rfl ?_
          refine at_iconst 1 dX12_exchangeOf_97 ic_1 ?_
          refine at_iload 4 dX12_exchangeOf_98 rfl ?_
          refine at_ishl dX12_exchangeOf_100 ?_
          refine at_iconst (-1) dX12_exchangeOf_101 ic_m1 ?_
          refine at_ixor dX12_exchangeOf_102 ?_
          refine at_iand dX12_exchangeOf_103 ?_
          refine at_iload_n 1 dX12_exchangeOf_104 rfl ?_
          refine at_ior dX12_exchangeOf_105 ?_
          obtain ⟨q7, hq7, h⟩ := sp_bind h
          refine at_callVi (st := []) hK mt_X12_isForest ml_X12_233 cl_X12 hg_38 (t_X12_isForest hK hq7) rfl rfl (Nat.le_of_ble_eq_true rfl) ⟨Nat.le_of_ble_eq_true rfl, Nat.le_of_ble_eq_true rfl⟩ ⟨Nat.le_refl _, Nat.le_refl _⟩ dX12_exchangeOf_106 ?_
          refine at_zeq 115 dX12_exchangeOf_109 (by decide) (fun c8 => ?_) (fun c8 => ?_)
          · rw [if_neg c8] at h
            exact t_X12_exchangeOf_115 hK N _ ih _ _ _ _ _ h
          · rw [if_pos c8] at h
            refine at_iload 4 dX12_exchangeOf_112 rfl ?_
            cases h; exact at_iret rfl (Nat.le_refl _) (Nat.le_refl _) ⟨rfl, rfl⟩ dX12_exchangeOf_114
set_option maxRecDepth 100000 in
theorem t_X12_exchangeOf_55 {D : va_G} {b : Nat} {K : State → Heap → Prop} {sa : Nat → Nat} (hK : sx_Kk b K sa) (N : Nat) {uG uN uD uR uF uP uL uT uA uM uH xA xB xC xD xE xG xH xI xJ xK xL uO : sx_C} {G : sx_H} (res : Int32 × sx_C) : ∀ (v2 : Int32) (v4 : Int32) (s0 : Int32) (xF : sx_C), f_X12_exchangeOf_55 N xA xE xH v2 v4 s0 xF = some res → sx_At D b K YX12_exchangeOf (sx_rm 1) (sx_Ex (some (.int res.1)) (sx_hp b uG uN uD uR uF uP uL uT uA uM uH xA xB xC xD xE (res.2) xG xH xI xJ xK xL uO G)) 55 [(0, .ref (b + 38)), (2, .int v2), (4, .int v4)] [.int s0] (sx_hp b uG uN uD uR uF uP uL uT uA uM uH xA xB xC xD xE xF xG xH xI xJ xK xL uO G) 0 0 := by
  intro v2 v4 s0 xF h
  rw [f_X12_exchangeOf_55] at h
  refine at_istore [(0, .ref (b + 38)), (2, .int v2), (4, .int v4), (5, .int s0)] dX12_exchangeOf_55 (Nat.le_of_ble_eq_true rfl) rfl ?_
  refine at_iconst 0 dX12_exchangeOf_57 ic_0 ?_
  refine at_istore [(0, .ref (b + 38)), (2, .int v2), (4, .int v4), (5, .int s0), (6, .int 0)] dX12_exchangeOf_58 (Nat.le_of_ble_eq_true rfl) rfl ?_
  exact t_X12_exchangeOf_60 hK N _ N _ _ _ _ _ h
set_option maxRecDepth 100000 in
theorem t_X12_exchangeOf_34 {D : va_G} {b : Nat} {K : State → Heap → Prop} {sa : Nat → Nat} (hK : sx_Kk b K sa) (N : Nat) {uG uN uD uR uF uP uL uT uA uM uH xA xB xC xD xE xG xH xI xJ xK xL uO : sx_C} {G : sx_H} (res : Int32 × sx_C) : ∀ (v2 : Int32) (v3 : Int32) (s0 : Int32) (xF : sx_C), f_X12_exchangeOf_34 N xA xE xH v2 v3 s0 xF = some res → sx_At D b K YX12_exchangeOf (sx_rm 1) (sx_Ex (some (.int res.1)) (sx_hp b uG uN uD uR uF uP uL uT uA uM uH xA xB xC xD xE (res.2) xG xH xI xJ xK xL uO G)) 34 [(0, .ref (b + 38)), (2, .int v2), (3, .int v3)] [.int s0] (sx_hp b uG uN uD uR uF uP uL uT uA uM uH xA xB xC xD xE xF xG xH xI xJ xK xL uO G) 0 0 := by
  intro v2 v3 s0 xF h
  rw [f_X12_exchangeOf_34] at h
  refine at_iload_n 1 dX12_exchangeOf_34 rfl ?_
  refine at_iconst (-1) dX12_exchangeOf_35 ic_m1 ?_
  refine at_ixor dX12_exchangeOf_36 ?_
  refine at_iand dX12_exchangeOf_37 ?_
  refine at_istore [(0, .ref (b + 38)), (2, .int v2), (3, .int v3), (4, .int (s0 &&& (v2 ^^^ (-1))))] dX12_exchangeOf_38 (Nat.le_of_ble_eq_true rfl) rfl ?_
  refine at_iload_n 2 dX12_exchangeOf_40 rfl ?_
  refine at_if_eq 51 dX12_exchangeOf_41 (by decide) (fun c2 => ?_) (fun c2 => ?_)
  · rw [if_pos c2] at h
    refine at_aload_n 0 dX12_exchangeOf_51 rfl ?_
    refine at_getf cl_X12 (by decide) fl_X12_289 hg_38 rfl dX12_exchangeOf_52 ?_
    refine at_sub [0, 1, 3] [(0, .ref (b + 38)), (2, .int v2), (4, .int (s0 &&& (v2 ^^^ (-1))))] rfl ?_
    exact t_X12_exchangeOf_55 hK N _ _ _ _ _ h
  · rw [if_neg c2] at h
    refine at_aload_n 0 dX12_exchangeOf_44 rfl ?_
    refine at_getf cl_X12 (by decide) fl_X12_292 hg_38 rfl dX12_exchangeOf_45 ?_
    refine at_goto 55 dX12_exchangeOf_48 (by decide) ?_
    refine at_sub [0, 1, 3] [(0, .ref (b + 38)), (2, .int v2), (4, .int (s0 &&& (v2 ^^^ (-1))))] rfl ?_
    exact t_X12_exchangeOf_55 hK N _ _ _ _ _ h
set_option maxRecDepth 100000 in
theorem t_X12_exchangeOf_18 {D : va_G} {b : Nat} {K : State → Heap → Prop} {sa : Nat → Nat} (hK : sx_Kk b K sa) (N : Nat) {uG uN uD uR uF uP uL uT uA uM uH xA xB xC xD xE xG xH xI xJ xK xL uO : sx_C} {G : sx_H} (res : Int32 × sx_C) : ∀ (v2 : Int32) (s0 : Int32) (xF : sx_C), f_X12_exchangeOf_18 N xA xE xH v2 s0 xF = some res → sx_At D b K YX12_exchangeOf (sx_rm 1) (sx_Ex (some (.int res.1)) (sx_hp b uG uN uD uR uF uP uL uT uA uM uH xA xB xC xD xE (res.2) xG xH xI xJ xK xL uO G)) 18 [(0, .ref (b + 38)), (2, .int v2)] [.int s0] (sx_hp b uG uN uD uR uF uP uL uT uA uM uH xA xB xC xD xE xF xG xH xI xJ xK xL uO G) 0 0 := by
  intro v2 s0 xF h
  rw [f_X12_exchangeOf_18] at h
  refine at_istore_n [(0, .ref (b + 38)), (2, .int v2), (3, .int s0)] dX12_exchangeOf_18 (Nat.le_of_ble_eq_true rfl) rfl ?_
  refine at_iload_n 2 dX12_exchangeOf_19 rfl ?_
  refine at_if_eq 30 dX12_exchangeOf_20 (by decide) (fun c1 => ?_) (fun c1 => ?_)
  · rw [if_pos c1] at h
    refine at_aload_n 0 dX12_exchangeOf_30 rfl ?_
    refine at_getf cl_X12 (by decide) fl_X12_292 hg_38 rfl dX12_exchangeOf_31 ?_
    exact t_X12_exchangeOf_34 hK N _ _ _ _ _ h
  · rw [if_neg c1] at h
    refine at_aload_n 0 dX12_exchangeOf_23 rfl ?_
    refine at_getf cl_X12 (by decide) fl_X12_289 hg_38 rfl dX12_exchangeOf_24 ?_
    refine at_goto 34 dX12_exchangeOf_27 (by decide) ?_
    exact t_X12_exchangeOf_34 hK N _ _ _ _ _ h
set_option maxRecDepth 100000 in
theorem t_X12_exchangeOf {D : va_G} {b : Nat} {K : State → Heap → Prop} {sa : Nat → Nat} (hK : sx_Kk b K sa) {N : Nat} {uG uN uD uR uF uP uL uT uA uM uH xA xB xC xD xE xG xH xI xJ xK xL uO : sx_C} {G : sx_H} {v1 : Int32} {xF : sx_C} {res : Int32 × sx_C} (h : f_X12_exchangeOf N xA xE xH v1 xF = some res) : sx_Runs D b K yX12_exchangeOf YX12_exchangeOf (sx_rm 1) [.ref (b + 38), .int v1] (sx_hp b uG uN uD uR uF uP uL uT uA uM uH xA xB xC xD xE xF xG xH xI xJ xK xL uO G) (sx_Ex (some (.int res.1)) (sx_hp b uG uN uD uR uF uP uL uT uA uM uH xA xB xC xD xE (res.2) xG xH xI xJ xK xL uO G)) := by
  rw [f_X12_exchangeOf] at h
  refine sx_run (by decide +kernel) rfl rfl (Nat.le_of_ble_eq_true rfl) ?_
  refine at_iconst 1 dX12_exchangeOf_0 ic_1 ?_
  refine at_iload_n 1 dX12_exchangeOf_1 rfl ?_
  refine at_ishl dX12_exchangeOf_2 ?_
  refine at_istore_n [(0, .ref (b + 38)), (1, .int v1), (2, .int (sp_shl 1 v1))] dX12_exchangeOf_3 (Nat.le_of_ble_eq_true rfl) rfl ?_
  refine at_aload_n 0 dX12_exchangeOf_4 rfl ?_
  refine at_getf cl_X12 (by decide) fl_X12_289 hg_38 rfl dX12_exchangeOf_5 ?_
  refine at_iload_n 2 dX12_exchangeOf_8 rfl ?_
  refine at_iand dX12_exchangeOf_9 ?_
  refine at_if_eq 17 dX12_exchangeOf_10 (by decide) (fun c9 => ?_) (fun c9 => ?_)
  · rw [if_pos c9] at h
    refine at_iconst 0 dX12_exchangeOf_17 ic_0 ?_
    refine at_sub [0, 2] [(0, .ref (b + 38)), (2, .int (sp_shl 1 v1))] rfl ?_
    exact t_X12_exchangeOf_18 hK N _ _ _ _ h
  · rw [if_neg c9] at h
    refine at_iconst 1 dX12_exchangeOf_13 ic_1 ?_
    refine at_goto 18 dX12_exchangeOf_14 (by decide) ?_
    refine at_sub [0, 2] [(0, .ref (b + 38)), (2, .int (sp_shl 1 v1))] rfl ?_
    exact t_X12_exchangeOf_18 hK N _ _ _ _ h
set_option maxRecDepth 100000 in
theorem t_X12_isKnot {D : va_G} {b : Nat} {K : State → Heap → Prop} {sa : Nat → Nat} (hK : sx_Kk b K sa) {uG uN uD uR uF uP uL uT uA uM uH xA xB xC xD xE xF xG xH xI xJ xK xL uO : sx_C} {G : sx_H} {v1 : Int32} {res : Bool} (h : f_X12_isKnot xA v1 = some res) : sx_Runs D b K yX12_isKnot YX12_isKnot (sx_rm 0) [.ref (b + 38), .int v1] (sx_hp b uG uN uD uR uF uP uL uT uA uM uH xA xB xC xD xE xF xG xH xI xJ xK xL uO G) (sx_Ex (some (.int (sp_b res))) (sx_hp b uG uN uD uR uF uP uL uT uA uM uH xA xB xC xD xE xF xG xH xI xJ xK xL uO G)) := by
  rw [f_X12_isKnot] at h
  refine sx_run (by decide +kernel) rfl rfl (Nat.le_of_ble_eq_true rfl) ?_
  refine at_iload_n 1 dX12_isKnot_0 rfl ?_
  refine at_if_lt 16 dX12_isKnot_1 (by decide) (fun c1 => ?_) (fun c1 => ?_)
  · rw [if_pos c1] at h
    refine at_iconst 0 dX12_isKnot_16 ic_0 ?_
    cases h; exact at_zret rfl rfl (Nat.le_refl _) (Nat.le_refl _) ⟨rfl, rfl⟩ dX12_isKnot_17
  · rw [if_neg c1] at h
    refine at_iload_n 1 dX12_isKnot_4 rfl ?_
    refine at_aload_n 0 dX12_isKnot_5 rfl ?_
    refine at_getf cl_X12 (by decide) fl_X12_64 hg_38 rfl dX12_isKnot_6 ?_
    refine at_icmp_ge 16 dX12_isKnot_9 (by decide) (fun c2 => ?_) (fun c2 => ?_)
    · rw [if_pos c2] at h
      refine at_iconst 0 dX12_isKnot_16 ic_0 ?_
      cases h; exact at_zret rfl rfl (Nat.le_refl _) (Nat.le_refl _) ⟨rfl, rfl⟩ dX12_isKnot_17
    · rw [if_neg c2] at h
      refine at_iconst 1 dX12_isKnot_12 ic_1 ?_
      refine at_goto 17 dX12_isKnot_13 (by decide) ?_
      cases h; exact at_zret rfl rfl (Nat.le_refl _) (Nat.le_refl _) ⟨rfl, rfl⟩ dX12_isKnot_17
set_option maxRecDepth 100000 in
theorem t_X12_isLine {D : va_G} {b : Nat} {K : State → Heap → Prop} {sa : Nat → Nat} (hK : sx_Kk b K sa) {uG uN uD uR uF uP uL uT uA uM uH xA xB xC xD xE xF xG xH xI xJ xK xL uO : sx_C} {G : sx_H} {v1 : Int32} {res : Bool} (h : f_X12_isLine xA v1 = some res) : sx_Runs D b K yX12_isLine YX12_isLine (sx_rm 0) [.ref (b + 38), .int v1] (sx_hp b uG uN uD uR uF uP uL uT uA uM uH xA xB xC xD xE xF xG xH xI xJ xK xL uO G) (sx_Ex (some (.int (sp_b res))) (sx_hp b uG uN uD uR uF uP uL uT uA uM uH xA xB xC xD xE xF xG xH xI xJ xK xL uO G)) := by
  rw [f_X12_isLine] at h
  refine sx_run (by decide +kernel) rfl rfl (Nat.le_of_ble_eq_true rfl) ?_
  refine at_iload_n 1 dX12_isLine_0 rfl ?_
  refine at_if_lt 16 dX12_isLine_1 (by decide) (fun c1 => ?_) (fun c1 => ?_)
  · rw [if_pos c1] at h
    refine at_iconst 0 dX12_isLine_16 ic_0 ?_
    cases h; exact at_zret rfl rfl (Nat.le_refl _) (Nat.le_refl _) ⟨rfl, rfl⟩ dX12_isLine_17
  · rw [if_neg c1] at h
    refine at_iload_n 1 dX12_isLine_4 rfl ?_
    refine at_aload_n 0 dX12_isLine_5 rfl ?_
    refine at_getf cl_X12 (by decide) fl_X12_198 hg_38 rfl dX12_isLine_6 ?_
    refine at_icmp_ge 16 dX12_isLine_9 (by decide) (fun c2 => ?_) (fun c2 => ?_)
    · rw [if_pos c2] at h
      refine at_iconst 0 dX12_isLine_16 ic_0 ?_
      cases h; exact at_zret rfl rfl (Nat.le_refl _) (Nat.le_refl _) ⟨rfl, rfl⟩ dX12_isLine_17
    · rw [if_neg c2] at h
      refine at_iconst 1 dX12_isLine_12 ic_1 ?_
      refine at_goto 17 dX12_isLine_13 (by decide) ?_
      cases h; exact at_zret rfl rfl (Nat.le_refl _) (Nat.le_refl _) ⟨rfl, rfl⟩ dX12_isLine_17
set_option maxRecDepth 100000 in
theorem t_X12_isOpen {D : va_G} {b : Nat} {K : State → Heap → Prop} {sa : Nat → Nat} (hK : sx_Kk b K sa) {uG uN uD uR uF uP uL uT uA uM uH xA xB xC xD xE xF xG xH xI xJ xK xL uO : sx_C} {G : sx_H} {v1 : Int32} {res : Bool} (h : f_X12_isOpen xA v1 = some res) : sx_Runs D b K yX12_isOpen YX12_isOpen (sx_rm 3) [.ref (b + 38), .int v1] (sx_hp b uG uN uD uR uF uP uL uT uA uM uH xA xB xC xD xE xF xG xH xI xJ xK xL uO G) (sx_Ex (some (.int (sp_b res))) (sx_hp b uG uN uD uR uF uP uL uT uA uM uH xA xB xC xD xE xF xG xH xI xJ xK xL uO G)) := by
  rw [f_X12_isOpen] at h
  refine sx_run (by decide +kernel) rfl rfl (Nat.le_of_ble_eq_true rfl) ?_
  refine at_aload_n 0 dX12_isOpen_0 rfl ?_
  obtain ⟨q1, hq1, h⟩ := sp_bind h
  refine at_callVi (st := []) hK mt_X12_openNow ml_X12_298 cl_X12 hg_38 (t_X12_openNow hK hq1) rfl rfl (Nat.le_of_ble_eq_true rfl) ⟨Nat.le_of_ble_eq_true rfl, Nat.le_of_ble_eq_true rfl⟩ ⟨Nat.le_refl _, Nat.le_refl _⟩ dX12_isOpen_1 ?_
  refine at_iload_n 1 dX12_isOpen_4 rfl ?_
  refine at_ishr dX12_isOpen_5 ?_
  refine at_iconst 1 dX12_isOpen_6 ic_1 ?_
  refine at_iand dX12_isOpen_7 ?_
  refine at_iconst 1 dX12_isOpen_8 ic_1 ?_
  refine at_icmp_ne 16 dX12_isOpen_9 (by decide) (fun c2 => ?_) (fun c2 => ?_)
  · rw [if_neg c2] at h
    refine at_iconst 0 dX12_isOpen_16 ic_0 ?_
    cases h; exact at_zret rfl rfl (Nat.le_refl _) (Nat.le_refl _) ⟨rfl, rfl⟩ dX12_isOpen_17
  · rw [if_pos c2] at h
    refine at_iconst 1 dX12_isOpen_12 ic_1 ?_
    refine at_goto 17 dX12_isOpen_13 (by decide) ?_
    cases h; exact at_zret rfl rfl (Nat.le_refl _) (Nat.le_refl _) ⟨rfl, rfl⟩ dX12_isOpen_17
set_option maxRecDepth 100000 in
theorem t_X12_isOver {D : va_G} {b : Nat} {K : State → Heap → Prop} {sa : Nat → Nat} (hK : sx_Kk b K sa) {N : Nat} {uG uN uD uR uF uP uL uT uA uM uH xA xB xC xE xF xG xH xI xJ xK xL uO : sx_C} {G : sx_H} {xD : sx_C} {res : Bool × sx_C} (h : f_X12_isOver N xA xD = some res) : sx_Runs D b K yX12_isOver YX12_isOver (sx_rm 4) [.ref (b + 38)] (sx_hp b uG uN uD uR uF uP uL uT uA uM uH xA xB xC xD xE xF xG xH xI xJ xK xL uO G) (sx_Ex (some (.int (sp_b res.1))) (sx_hp b uG uN uD uR uF uP uL uT uA uM uH xA xB xC (res.2) xE xF xG xH xI xJ xK xL uO G)) := by
  rw [f_X12_isOver] at h
  refine sx_run (by decide +kernel) rfl rfl (Nat.le_of_ble_eq_true rfl) ?_
  refine at_aload_n 0 dX12_isOver_0 rfl ?_
  refine at_aload_n 0 dX12_isOver_1 rfl ?_
  refine at_getf cl_X12 (by decide) fl_X12_201 hg_38 rfl dX12_isOver_2 ?_
  refine at_aload_n 0 dX12_isOver_5 rfl ?_
  refine at_getf cl_X12 (by decide) fl_X12_204 hg_38 rfl dX12_isOver_6 ?_
  obtain ⟨q1, hq1, h⟩ := sp_bind h
  refine at_callVi (st := []) hK mt_X12_has ml_X12_301 cl_X12 hg_38 (t_X12_has hK hq1) rfl rfl (Nat.le_of_ble_eq_true rfl) ⟨Nat.le_of_ble_eq_true rfl, Nat.le_of_ble_eq_true rfl⟩ ⟨Nat.le_refl _, Nat.le_refl _⟩ dX12_isOver_9 ?_
  refine at_iconst 2 dX12_isOver_12 ic_2 ?_
  refine at_icmp_eq 20 dX12_isOver_13 (by decide) (fun c2 => ?_) (fun c2 => ?_)
  · rw [if_pos c2] at h
    refine at_iconst 0 dX12_isOver_20 ic_0 ?_
    cases h; exact at_zret rfl rfl (Nat.le_refl _) (Nat.le_refl _) ⟨rfl, rfl⟩ dX12_isOver_21
  · rw [if_neg c2] at h
    refine at_iconst 1 dX12_isOver_16 ic_1 ?_
    refine at_goto 21 dX12_isOver_17 (by decide) ?_
    cases h; exact at_zret rfl rfl (Nat.le_refl _) (Nat.le_refl _) ⟨rfl, rfl⟩ dX12_isOver_21
set_option maxRecDepth 100000 in
theorem t_X12_line {D : va_G} {b : Nat} {K : State → Heap → Prop} {sa : Nat → Nat} (hK : sx_Kk b K sa) {uG uN uD uR uF uP uL uT uA uM uH xA xC xD xE xF xG xH xI xJ xK xL uO : sx_C} {G : sx_H} {v1 : Int32} {v2 : Int32} {xB : sx_C} {res : Int32 × sx_C} (h : f_X12_line xA v1 v2 xB = some res) : sx_Runs D b K yX12_line YX12_line (sx_rm 1) [.ref (b + 38), .int v1, .int v2] (sx_hp b uG uN uD uR uF uP uL uT uA uM uH xA xB xC xD xE xF xG xH xI xJ xK xL uO G) (sx_Ex (some (.int res.1)) (sx_hp b uG uN uD uR uF uP uL uT uA uM uH xA (res.2) xC xD xE xF xG xH xI xJ xK xL uO G)) := by
  rw [f_X12_line] at h
  refine sx_run (by decide +kernel) rfl rfl (Nat.le_of_ble_eq_true rfl) ?_
  refine at_aload_n 0 dX12_line_0 rfl ?_
  refine at_iconst 0 dX12_line_1 ic_0 ?_
  refine at_putf cl_X12 (by decide) fl_X12_73 rfl hg_38 rfl rfl (Nat.le_of_ble_eq_true rfl) hs_38_0 dX12_line_2 ?_
  refine at_aload_n 0 dX12_line_5 rfl ?_
  refine at_iload_n 1 dX12_line_6 rfl ?_
  obtain ⟨q1, hq1, h⟩ := sp_bind h
  refine at_callVi (st := []) hK mt_X12_isLine ml_X12_304 cl_X12 hg_38 (t_X12_isLine hK hq1) rfl rfl (Nat.le_of_ble_eq_true rfl) ⟨Nat.le_of_ble_eq_true rfl, Nat.le_of_ble_eq_true rfl⟩ ⟨Nat.le_refl _, Nat.le_refl _⟩ dX12_line_7 ?_
  refine at_zne 20 dX12_line_10 (by decide) (fun c2 => ?_) (fun c2 => ?_)
  · rw [if_pos c2] at h
    refine at_iload_n 2 dX12_line_20 rfl ?_
    by_cases c3 : v2 = 0
    · rw [if_pos c3] at h
      refine at_tbC c3 48 dX12_line_21 (by decide) (by decide) rfl (by decide) ?_
      refine at_aload_n 0 dX12_line_48 rfl ?_
      refine at_getf cl_X12 (by decide) fl_X12_13 hg_38 rfl dX12_line_49 ?_
      refine at_iload_n 1 dX12_line_52 rfl ?_
      obtain ⟨w4, hw4, h⟩ := sp_bind h
      refine at_iald hg_40 hw4 dX12_line_53 ?_
      cases h; exact at_iret rfl (Nat.le_refl _) (Nat.le_refl _) ⟨rfl, rfl⟩ dX12_line_54
    · rw [if_neg c3] at h
      by_cases c5 : v2 = 1
      · rw [if_pos c5] at h
        refine at_tbC c5 55 dX12_line_21 (by decide) (by decide) rfl (by decide) ?_
        refine at_aload_n 0 dX12_line_55 rfl ?_
        refine at_getf cl_X12 (by decide) fl_X12_16 hg_38 rfl dX12_line_56 ?_
        refine at_iload_n 1 dX12_line_59 rfl ?_
        obtain ⟨w6, hw6, h⟩ := sp_bind h
        refine at_iald hg_41 hw6 dX12_line_60 ?_
        cases h; exact at_iret rfl (Nat.le_refl _) (Nat.le_refl _) ⟨rfl, rfl⟩ dX12_line_61
      · rw [if_neg c5] at h
        by_cases c7 : v2 = 2
        · rw [if_pos c7] at h
          refine at_tbC c7 62 dX12_line_21 (by decide) (by decide) rfl (by decide) ?_
          refine at_aload_n 0 dX12_line_62 rfl ?_
          refine at_getf cl_X12 (by decide) fl_X12_201 hg_38 rfl dX12_line_63 ?_
          refine at_iload_n 1 dX12_line_66 rfl ?_
          refine at_ishr dX12_line_67 ?_
          refine at_iconst 1 dX12_line_68 ic_1 ?_
          refine at_iand dX12_line_69 ?_
          refine at_iconst 1 dX12_line_70 ic_1 ?_
          refine at_icmp_ne 78 dX12_line_71 (by decide) (fun c8 => ?_) (fun c8 => ?_)
          · rw [if_neg c8] at h
            refine at_aload_n 0 dX12_line_78 rfl ?_
            refine at_getf cl_X12 (by decide) fl_X12_204 hg_38 rfl dX12_line_79 ?_
            refine at_iload_n 1 dX12_line_82 rfl ?_
            refine at_ishr dX12_line_83 ?_
            refine at_iconst 1 dX12_line_84 ic_1 ?_
            refine at_iand dX12_line_85 ?_
            refine at_iconst 1 dX12_line_86 ic_1 ?_
            refine at_icmp_ne 94 dX12_line_87 (by decide) (fun c9 => ?_) (fun c9 => ?_)
            · rw [if_neg c9] at h
              refine at_iconst 0 dX12_line_94 ic_0 ?_
              cases h; exact at_iret rfl (Nat.le_refl _) (Nat.le_refl _) ⟨rfl, rfl⟩ dX12_line_95
            · rw [if_pos c9] at h
              refine at_iconst 2 dX12_line_90 ic_2 ?_
              refine at_goto 95 dX12_line_91 (by decide) ?_
              cases h; exact at_iret rfl (Nat.le_refl _) (Nat.le_refl _) ⟨rfl, rfl⟩ dX12_line_95
          · rw [if_pos c8] at h
            refine at_iconst 1 dX12_line_74 ic_1 ?_
            refine at_goto 95 dX12_line_75 (by decide) ?_
            cases h; exact at_iret rfl (Nat.le_refl _) (Nat.le_refl _) ⟨rfl, rfl⟩ dX12_line_95
        · rw [if_neg c7] at h
          refine at_tbOut 96 dX12_line_21 (by have e0 := sp_ne (0) (by decide) c3; have e1 := sp_ne (1) (by decide) c5; have e2 := sp_ne (2) (by decide) c7; omega) (by decide) ?_
          refine at_aload_n 0 dX12_line_96 rfl ?_
          refine at_iconst 2 dX12_line_97 ic_2 ?_
          refine at_putf cl_X12 (by decide) fl_X12_73 rfl hg_38 rfl rfl (Nat.le_of_ble_eq_true rfl) hs_38_0 dX12_line_98 ?_
          refine at_iconst 0 dX12_line_101 ic_0 ?_
          cases h; exact at_iret rfl (Nat.le_refl _) (Nat.le_refl _) ⟨rfl, rfl⟩ dX12_line_102
  · rw [if_neg c2] at h
    refine at_aload_n 0 dX12_line_13 rfl ?_
    refine at_iconst 1 dX12_line_14 ic_1 ?_
    refine at_putf cl_X12 (by decide) fl_X12_73 rfl hg_38 rfl rfl (Nat.le_of_ble_eq_true rfl) hs_38_0 dX12_line_15 ?_
    refine at_iconst 0 dX12_line_18 ic_0 ?_
    cases h; exact at_iret rfl (Nat.le_refl _) (Nat.le_refl _) ⟨rfl, rfl⟩ dX12_line_19
set_option maxRecDepth 100000 in
theorem t_X12_place {D : va_G} {b : Nat} {K : State → Heap → Prop} {sa : Nat → Nat} (hK : sx_Kk b K sa) {N : Nat} {uG uN uD uR uF uP uL uT uA uM uH xA xC xE xF xG xH xI xJ xK xL uO : sx_C} {G : sx_H} {v1 : Int32} {xB : sx_C} {xD : sx_C} {res : Int32 × sx_C × sx_C} (h : f_X12_place N xA v1 xB xD = some res) : sx_Runs D b K yX12_place YX12_place (sx_rm 2) [.ref (b + 38), .int v1] (sx_hp b uG uN uD uR uF uP uL uT uA uM uH xA xB xC xD xE xF xG xH xI xJ xK xL uO G) (sx_Ex (some (.int res.1)) (sx_hp b uG uN uD uR uF uP uL uT uA uM uH xA (res.2.1) xC (res.2.2) xE xF xG xH xI xJ xK xL uO G)) := by
  rw [f_X12_place] at h
  refine sx_run (by decide +kernel) rfl rfl (Nat.le_of_ble_eq_true rfl) ?_
  refine at_aload_n 0 dX12_place_0 rfl ?_
  refine at_iconst 0 dX12_place_1 ic_0 ?_
  refine at_putf cl_X12 (by decide) fl_X12_73 rfl hg_38 rfl rfl (Nat.le_of_ble_eq_true rfl) hs_38_0 dX12_place_2 ?_
  refine at_aload_n 0 dX12_place_5 rfl ?_
  refine at_iload_n 1 dX12_place_6 rfl ?_
  obtain ⟨q1, hq1, h⟩ := sp_bind h
  refine at_callVi (st := []) hK mt_X12_isKnot ml_X12_307 cl_X12 hg_38 (t_X12_isKnot hK hq1) rfl rfl (Nat.le_of_ble_eq_true rfl) ⟨Nat.le_of_ble_eq_true rfl, Nat.le_of_ble_eq_true rfl⟩ ⟨Nat.le_refl _, Nat.le_refl _⟩ dX12_place_7 ?_
  refine at_zne 15 dX12_place_10 (by decide) (fun c2 => ?_) (fun c2 => ?_)
  · rw [if_pos c2] at h
    refine at_aload_n 0 dX12_place_15 rfl ?_
    refine at_aload_n 0 dX12_place_16 rfl ?_
    refine at_getf cl_X12 (by decide) fl_X12_201 hg_38 rfl dX12_place_17 ?_
    obtain ⟨q3, hq3, h⟩ := sp_bind h
    refine at_callVv (st := []) hK mt_X12_laysParts ml_X12_220 cl_X12 hg_38 (t_X12_laysParts hK hq3) rfl rfl (Nat.le_of_ble_eq_true rfl) ⟨Nat.le_of_ble_eq_true rfl, Nat.le_of_ble_eq_true rfl⟩ ⟨Nat.le_refl _, Nat.le_refl _⟩ dX12_place_20 ?_
    refine at_aload_n 0 dX12_place_23 rfl ?_
    refine at_getf cl_X12 (by decide) fl_X12_32 hg_38 rfl dX12_place_24 ?_
    refine at_iload_n 1 dX12_place_27 rfl ?_
    obtain ⟨w4, hw4, h⟩ := sp_bind h
    refine at_iald hg_45 hw4 dX12_place_28 ?_
    cases h; exact at_iret rfl (Nat.le_refl _) (Nat.le_refl _) ⟨rfl, rfl⟩ dX12_place_29
  · rw [if_neg c2] at h
    refine at_iconst (-1) dX12_place_13 ic_m1 ?_
    cases h; exact at_iret rfl (Nat.le_refl _) (Nat.le_refl _) ⟨rfl, rfl⟩ dX12_place_14
set_option maxRecDepth 100000 in
theorem t_X12_reaches_89 {D : va_G} {b : Nat} {K : State → Heap → Prop} {sa : Nat → Nat} (hK : sx_Kk b K sa) (N : Nat) {k55 : Int32 → Int32 → Int32 → sx_C → sx_C → Option (Int32 × sx_C × sx_C)} {uG uN uD uR uF uP uL uT uA uM uH xA xC xE xF xG xH xI xJ xK xL uO : sx_C} {G : sx_H} (res : Int32 × sx_C × sx_C) (hk55 : ∀ (v1 : Int32) (v3 : Int32) (v4 : Int32) (xB : sx_C) (xD : sx_C), k55 v1 v3 v4 xB xD = some res → sx_At D b K YX12_reaches (sx_rm 2) (sx_Ex (some (.int res.1)) (sx_hp b uG uN uD uR uF uP uL uT uA uM uH xA (res.2.1) xC (res.2.2) xE xF xG xH xI xJ xK xL uO G)) 55 [(0, .ref (b + 38)), (1, .int v1), (3, .int v3), (4, .int v4)] [] (sx_hp b uG uN uD uR uF uP uL uT uA uM uH xA xB xC xD xE xF xG xH xI xJ xK xL uO G) 0 0) : ∀ (v1 : Int32) (v4 : Int32) (s0 : Int32) (s1 : Int32) (xB : sx_C) (xD : sx_C), f_X12_reaches_89 N k55 xA v1 v4 s0 s1 xB xD = some res → sx_At D b K YX12_reaches (sx_rm 2) (sx_Ex (some (.int res.1)) (sx_hp b uG uN uD uR uF uP uL uT uA uM uH xA (res.2.1) xC (res.2.2) xE xF xG xH xI xJ xK xL uO G)) 89 [(0, .ref (b + 38)), (1, .int v1), (4, .int v4)] [.int s1, .int s0] (sx_hp b uG uN uD uR uF uP uL uT uA uM uH xA xB xC xD xE xF xG xH xI xJ xK xL uO G) 0 0 := by
  intro v1 v4 s0 s1 xB xD h
  rw [f_X12_reaches_89] at h
  refine at_ior dX12_reaches_89 ?_
  refine at_istore_n [(0, .ref (b + 38)), (1, .int v1), (3, .int (s0 ||| s1)), (4, .int v4)] dX12_reaches_90 (Nat.le_of_ble_eq_true rfl) rfl ?_
  refine at_iinc 3 1 [(0, .ref (b + 38)), (1, .int v1), (3, .int (s0 ||| s1)), (4, .int (v4 + 1))] dX12_reaches_91 rfl ic_1 (Nat.le_of_ble_eq_true rfl) rfl ?_
  refine at_goto 55 dX12_reaches_94 (by decide) ?_
  exact hk55 _ _ _ _ _ h
set_option maxRecDepth 100000 in
theorem t_X12_reaches_55 {D : va_G} {b : Nat} {K : State → Heap → Prop} {sa : Nat → Nat} (hK : sx_Kk b K sa) (N : Nat) {uG uN uD uR uF uP uL uT uA uM uH xA xC xE xF xG xH xI xJ xK xL uO : sx_C} {G : sx_H} (res : Int32 × sx_C × sx_C) : ∀ (n0 : Nat) (v1 : Int32) (v3 : Int32) (v4 : Int32) (xB : sx_C) (xD : sx_C), f_X12_reaches_55 N xA n0 v1 v3 v4 xB xD = some res → sx_At D b K YX12_reaches (sx_rm 2) (sx_Ex (some (.int res.1)) (sx_hp b uG uN uD uR uF uP uL uT uA uM uH xA (res.2.1) xC (res.2.2) xE xF xG xH xI xJ xK xL uO G)) 55 [(0, .ref (b + 38)), (1, .int v1), (3, .int v3), (4, .int v4)] [] (sx_hp b uG uN uD uR uF uP uL uT uA uM uH xA xB xC xD xE xF xG xH xI xJ xK xL uO G) 0 0 := by
  intro n0
  induction n0 with
  | zero => intro _ _ _ _ _ h; cases h
  | succ n0 ih =>
    intro v1 v3 v4 xB xD h
    rw [f_X12_reaches_55] at h
    refine at_iload 3 dX12_reaches_55 rfl ?_
    refine at_aload_n 0 dX12_reaches_57 rfl ?_
    refine at_getf cl_X12 (by decide) fl_X12_64 hg_38 rfl dX12_reaches_58 ?_
    refine at_icmp_ge 97 dX12_reaches_61 (by decide) (fun c2 => ?_) (fun c2 => ?_)
    · rw [if_pos c2] at h
      refine at_iload_n 2 dX12_reaches_97 rfl ?_
      cases h; exact at_iret rfl (Nat.le_refl _) (Nat.le_refl _) ⟨rfl, rfl⟩ dX12_reaches_98
    · rw [if_neg c2] at h
      refine at_iload_n 2 dX12_reaches_64 rfl ?_
      refine at_aload_n 0 dX12_reaches_65 rfl ?_
      refine at_getf cl_X12 (by decide) fl_X12_32 hg_38 rfl dX12_reaches_66 ?_
      refine at_iload 3 dX12_reaches_69 rfl ?_
      obtain ⟨w3, hw3, h⟩ := sp_bind h
      refine at_iald hg_45 hw3 dX12_reaches_71 ?_
      refine at_aload_n 0 dX12_reaches_72 rfl ?_
      refine at_getf cl_X12 (by decide) fl_X12_32 hg_38 rfl dX12_reaches_73 ?_
      refine at_iload_n 1 dX12_reaches_76 rfl ?_
      obtain ⟨w4, hw4, h⟩ := sp_bind h
      refine at_iald hg_45 hw4 dX12_reaches_77 ?_
      refine at_icmp_ne 88 dX12_reaches_78 (by decide) (fun c5 => ?_) (fun c5 => ?_)
      · rw [if_neg c5] at h
        refine at_iconst 0 dX12_reaches_88 ic_0 ?_
        refine at_sub [0, 1, 3] [(0, .ref (b + 38)), (1, .int v1), (4, .int v4)] rfl ?_
        exact t_X12_reaches_89 hK N _ ih _ _ _ _ _ _ h
      · rw [if_pos c5] at h
        refine at_iconst 1 dX12_reaches_81 ic_1 ?_
        refine at_iload 3 dX12_reaches_82 rfl ?_
        refine at_ishl dX12_reaches_84 ?_
        refine at_goto 89 dX12_reaches_85 (by decide) ?_
        refine at_sub [0, 1, 3] [(0, .ref (b + 38)), (1, .int v1), (4, .int v4)] rfl ?_
        exact t_X12_reaches_89 hK N _ ih _ _ _ _ _ _ h
set_option maxRecDepth 100000 in
theorem t_X12_reaches_47 {D : va_G} {b : Nat} {K : State → Heap → Prop} {sa : Nat → Nat} (hK : sx_Kk b K sa) (N : Nat) {uG uN uD uR uF uP uL uT uA uM uH xA xC xE xF xG xH xI xJ xK xL uO : sx_C} {G : sx_H} (res : Int32 × sx_C × sx_C) : ∀ (v1 : Int32) (s1 : Int32) (xB : sx_C) (xD : sx_C), f_X12_reaches_47 N xA v1 s1 xB xD = some res → sx_At D b K YX12_reaches (sx_rm 2) (sx_Ex (some (.int res.1)) (sx_hp b uG uN uD uR uF uP uL uT uA uM uH xA (res.2.1) xC (res.2.2) xE xF xG xH xI xJ xK xL uO G)) 47 [(0, .ref (b + 38)), (1, .int v1)] [.int s1, .ref (b + 38)] (sx_hp b uG uN uD uR uF uP uL uT uA uM uH xA xB xC xD xE xF xG xH xI xJ xK xL uO G) 0 0 := by
  intro v1 s1 xB xD h
  rw [f_X12_reaches_47] at h
  obtain ⟨q1, hq1, h⟩ := sp_bind h
  refine at_callVv (st := []) hK mt_X12_laysParts ml_X12_220 cl_X12 hg_38 (t_X12_laysParts hK hq1) rfl rfl (Nat.le_of_ble_eq_true rfl) ⟨Nat.le_of_ble_eq_true rfl, Nat.le_of_ble_eq_true rfl⟩ ⟨Nat.le_refl _, Nat.le_refl _⟩ dX12_reaches_47 ?_
  refine at_iconst 0 dX12_reaches_50 ic_0 ?_
  refine at_istore_n [(0, .ref (b + 38)), (1, .int v1), (3, .int 0)] dX12_reaches_51 (Nat.le_of_ble_eq_true rfl) rfl ?_
  refine at_iconst 0 dX12_reaches_52 ic_0 ?_
  refine at_istore [(0, .ref (b + 38)), (1, .int v1), (3, .int 0), (4, .int 0)] dX12_reaches_53 (Nat.le_of_ble_eq_true rfl) rfl ?_
  exact t_X12_reaches_55 hK N _ N _ _ _ _ _ h
set_option maxRecDepth 100000 in
theorem t_X12_reaches {D : va_G} {b : Nat} {K : State → Heap → Prop} {sa : Nat → Nat} (hK : sx_Kk b K sa) {N : Nat} {uG uN uD uR uF uP uL uT uA uM uH xA xC xE xF xG xH xI xJ xK xL uO : sx_C} {G : sx_H} {v1 : Int32} {v2 : Int32} {xB : sx_C} {xD : sx_C} {res : Int32 × sx_C × sx_C} (h : f_X12_reaches N xA v1 v2 xB xD = some res) : sx_Runs D b K yX12_reaches YX12_reaches (sx_rm 2) [.ref (b + 38), .int v1, .int v2] (sx_hp b uG uN uD uR uF uP uL uT uA uM uH xA xB xC xD xE xF xG xH xI xJ xK xL uO G) (sx_Ex (some (.int res.1)) (sx_hp b uG uN uD uR uF uP uL uT uA uM uH xA (res.2.1) xC (res.2.2) xE xF xG xH xI xJ xK xL uO G)) := by
  rw [f_X12_reaches] at h
  refine sx_run (by decide +kernel) rfl rfl (Nat.le_of_ble_eq_true rfl) ?_
  refine at_aload_n 0 dX12_reaches_0 rfl ?_
  refine at_iconst 0 dX12_reaches_1 ic_0 ?_
  refine at_putf cl_X12 (by decide) fl_X12_73 rfl hg_38 rfl rfl (Nat.le_of_ble_eq_true rfl) hs_38_0 dX12_reaches_2 ?_
  refine at_aload_n 0 dX12_reaches_5 rfl ?_
  refine at_iload_n 1 dX12_reaches_6 rfl ?_
  obtain ⟨q6, hq6, h⟩ := sp_bind h
  refine at_callVi (st := []) hK mt_X12_isKnot ml_X12_307 cl_X12 hg_38 (t_X12_isKnot hK hq6) rfl rfl (Nat.le_of_ble_eq_true rfl) ⟨Nat.le_of_ble_eq_true rfl, Nat.le_of_ble_eq_true rfl⟩ ⟨Nat.le_refl _, Nat.le_refl _⟩ dX12_reaches_7 ?_
  refine at_zeq 22 dX12_reaches_10 (by decide) (fun c7 => ?_) (fun c7 => ?_)
  · rw [if_neg c7] at h
    refine at_iconst (-1) dX12_reaches_22 ic_m1 ?_
    cases h; exact at_iret rfl (Nat.le_refl _) (Nat.le_refl _) ⟨rfl, rfl⟩ dX12_reaches_23
  · rw [if_pos c7] at h
    refine at_iload_n 2 dX12_reaches_13 rfl ?_
    refine at_if_lt 22 dX12_reaches_14 (by decide) (fun c8 => ?_) (fun c8 => ?_)
    · rw [if_pos c8] at h
      refine at_iconst (-1) dX12_reaches_22 ic_m1 ?_
      cases h; exact at_iret rfl (Nat.le_refl _) (Nat.le_refl _) ⟨rfl, rfl⟩ dX12_reaches_23
    · rw [if_neg c8] at h
      refine at_iload_n 2 dX12_reaches_17 rfl ?_
      refine at_iconst 1 dX12_reaches_18 ic_1 ?_
      refine at_icmp_le 24 dX12_reaches_19 (by decide) (fun c9 => ?_) (fun c9 => ?_)
      · rw [if_pos c9] at h
        refine at_aload_n 0 dX12_reaches_24 rfl ?_
        refine at_iload_n 2 dX12_reaches_25 rfl ?_
        refine at_if_ne 36 dX12_reaches_26 (by decide) (fun c10 => ?_) (fun c10 => ?_)
        · rw [if_neg c10] at h
          refine at_aload_n 0 dX12_reaches_36 rfl ?_
          obtain ⟨q11, hq11, h⟩ := sp_bind h
          refine at_callVi (st := [.ref (b + 38)]) hK mt_X12_all ml_X12_223 cl_X12 hg_38 (t_X12_all hK hq11) rfl rfl (Nat.le_of_ble_eq_true rfl) ⟨Nat.le_of_ble_eq_true rfl, Nat.le_of_ble_eq_true rfl⟩ ⟨Nat.le_refl _, Nat.le_refl _⟩ dX12_reaches_37 ?_
          refine at_aload_n 0 dX12_reaches_40 rfl ?_
          refine at_getf cl_X12 (by decide) fl_X12_204 hg_38 rfl dX12_reaches_41 ?_
          refine at_iconst (-1) dX12_reaches_44 ic_m1 ?_
          refine at_ixor dX12_reaches_45 ?_
          refine at_iand dX12_reaches_46 ?_
          refine at_sub [0, 1] [(0, .ref (b + 38)), (1, .int v1)] rfl ?_
          exact t_X12_reaches_47 hK N _ _ _ _ _ h
        · rw [if_pos c10] at h
          refine at_aload_n 0 dX12_reaches_29 rfl ?_
          refine at_getf cl_X12 (by decide) fl_X12_201 hg_38 rfl dX12_reaches_30 ?_
          refine at_goto 47 dX12_reaches_33 (by decide) ?_
          refine at_sub [0, 1] [(0, .ref (b + 38)), (1, .int v1)] rfl ?_
          exact t_X12_reaches_47 hK N _ _ _ _ _ h
      · rw [if_neg c9] at h
        refine at_iconst (-1) dX12_reaches_22 ic_m1 ?_
        cases h; exact at_iret rfl (Nat.le_refl _) (Nat.le_refl _) ⟨rfl, rfl⟩ dX12_reaches_23
set_option maxRecDepth 100000 in
theorem t_X12_writes_49 {D : va_G} {b : Nat} {K : State → Heap → Prop} {sa : Nat → Nat} (hK : sx_Kk b K sa) (N : Nat) {uG uN uD uR uF uP uL uT uA uM uH xB xC xD xE xF xG xH xI xJ xK xL uO : sx_C} {G : sx_H} (res : sx_C) : ∀ (v1 : Int32) (xA : sx_C), f_X12_writes_49 N v1 xA = some res → sx_At D b K YX12_writes (sx_rm 0) (sx_Ex none (sx_hp b uG uN uD uR uF uP uL uT uA uM uH res xB xC xD xE xF xG xH xI xJ xK xL uO G)) 49 [(0, .ref (b + 38)), (1, .int v1)] [] (sx_hp b uG uN uD uR uF uP uL uT uA uM uH xA xB xC xD xE xF xG xH xI xJ xK xL uO G) 0 0 := by
  intro v1 xA h
  rw [f_X12_writes_49] at h
  refine at_aload_n 0 dX12_writes_49 rfl ?_
  refine at_getf cl_X12 (by decide) fl_X12_19 hg_38 rfl dX12_writes_50 ?_
  refine at_aload_n 0 dX12_writes_53 rfl ?_
  refine at_getf cl_X12 (by decide) fl_X12_213 hg_38 rfl dX12_writes_54 ?_
  refine at_iload_n 1 dX12_writes_57 rfl ?_
  obtain ⟨hi4, h⟩ := sp_chk h
  refine at_iast hg_42 hi4 hs_42 dX12_writes_58 ?_
  refine at_aload_n 0 dX12_writes_59 rfl ?_
  refine at_dup dX12_writes_60 rfl ?_
  refine at_getf cl_X12 (by decide) fl_X12_213 hg_38 rfl dX12_writes_61 ?_
  refine at_iconst 1 dX12_writes_64 ic_1 ?_
  refine at_iadd dX12_writes_65 ?_
  refine at_putf cl_X12 (by decide) fl_X12_213 rfl hg_38 rfl rfl (Nat.le_of_ble_eq_true rfl) hs_38_14 dX12_writes_66 ?_
  refine at_aload_n 0 dX12_writes_69 rfl ?_
  refine at_iconst 1 dX12_writes_70 ic_1 ?_
  refine at_aload_n 0 dX12_writes_71 rfl ?_
  refine at_getf cl_X12 (by decide) fl_X12_70 hg_38 rfl dX12_writes_72 ?_
  refine at_isub dX12_writes_75 ?_
  refine at_putf cl_X12 (by decide) fl_X12_70 rfl hg_38 rfl rfl (Nat.le_of_ble_eq_true rfl) hs_38_11 dX12_writes_76 ?_
  cases h; exact at_vret rfl (Nat.le_refl _) (Nat.le_refl _) ⟨rfl, rfl⟩ dX12_writes_79
set_option maxRecDepth 100000 in
theorem t_X12_writes_11 {D : va_G} {b : Nat} {K : State → Heap → Prop} {sa : Nat → Nat} (hK : sx_Kk b K sa) (N : Nat) {uG uN uD uR uF uP uL uT uA uM uH xB xC xD xE xF xG xH xI xJ xK xL uO : sx_C} {G : sx_H} (res : sx_C) : ∀ (n0 : Nat) (v1 : Int32) (v2 : Int32) (xA : sx_C), f_X12_writes_11 N n0 v1 v2 xA = some res → sx_At D b K YX12_writes (sx_rm 0) (sx_Ex none (sx_hp b uG uN uD uR uF uP uL uT uA uM uH res xB xC xD xE xF xG xH xI xJ xK xL uO G)) 11 [(0, .ref (b + 38)), (1, .int v1), (2, .int v2)] [] (sx_hp b uG uN uD uR uF uP uL uT uA uM uH xA xB xC xD xE xF xG xH xI xJ xK xL uO G) 0 0 := by
  intro n0
  induction n0 with
  | zero => intro _ _ _ h; cases h
  | succ n0 ih =>
    intro v1 v2 xA h
    rw [f_X12_writes_11] at h
    refine at_iload_n 2 dX12_writes_11 rfl ?_
    refine at_iconst 1 dX12_writes_12 ic_1 ?_
    refine at_iadd dX12_writes_13 ?_
    refine at_bipush 40 dX12_writes_14 bp_40 ?_
    refine at_icmp_ge 39 dX12_writes_16 (by decide) (fun c1 => ?_) (fun c1 => ?_)
    · rw [if_pos c1] at h
      refine at_aload_n 0 dX12_writes_39 rfl ?_
      refine at_dup dX12_writes_40 rfl ?_
      refine at_getf cl_X12 (by decide) fl_X12_213 hg_38 rfl dX12_writes_41 ?_
      refine at_iconst 1 dX12_writes_44 ic_1 ?_
      refine at_isub dX12_writes_45 ?_
      refine at_putf cl_X12 (by decide) fl_X12_213 rfl hg_38 rfl rfl (Nat.le_of_ble_eq_true rfl) hs_38_14 dX12_writes_46 ?_
      refine at_sub [0, 1] [(0, .ref (b + 38)), (1, .int v1)] rfl ?_
      exact t_X12_writes_49 hK N _ _ _ h
    · rw [if_neg c1] at h
      refine at_aload_n 0 dX12_writes_19 rfl ?_
      refine at_getf cl_X12 (by decide) fl_X12_19 hg_38 rfl dX12_writes_20 ?_
      refine at_iload_n 2 dX12_writes_23 rfl ?_
      refine at_aload_n 0 dX12_writes_24 rfl ?_
      refine at_getf cl_X12 (by decide) fl_X12_19 hg_38 rfl dX12_writes_25 ?_
      refine at_iload_n 2 dX12_writes_28 rfl ?_
      refine at_iconst 1 dX12_writes_29 ic_1 ?_
      refine at_iadd dX12_writes_30 ?_
      obtain ⟨w2, hw2, h⟩ := sp_bind h
      refine at_iald hg_42 hw2 dX12_writes_31 ?_
      obtain ⟨hi3, h⟩ := sp_chk h
      refine at_iast hg_42 hi3 hs_42 dX12_writes_32 ?_
      refine at_iinc 2 1 [(0, .ref (b + 38)), (1, .int v1), (2, .int (v2 + 1))] dX12_writes_33 rfl ic_1 (Nat.le_of_ble_eq_true rfl) rfl ?_
      refine at_goto 11 dX12_writes_36 (by decide) ?_
      exact ih _ _ _ h
set_option maxRecDepth 100000 in
theorem t_X12_writes {D : va_G} {b : Nat} {K : State → Heap → Prop} {sa : Nat → Nat} (hK : sx_Kk b K sa) {N : Nat} {uG uN uD uR uF uP uL uT uA uM uH xB xC xD xE xF xG xH xI xJ xK xL uO : sx_C} {G : sx_H} {v1 : Int32} {xA : sx_C} {res : sx_C} (h : f_X12_writes N v1 xA = some res) : sx_Runs D b K yX12_writes YX12_writes (sx_rm 0) [.ref (b + 38), .int v1] (sx_hp b uG uN uD uR uF uP uL uT uA uM uH xA xB xC xD xE xF xG xH xI xJ xK xL uO G) (sx_Ex none (sx_hp b uG uN uD uR uF uP uL uT uA uM uH res xB xC xD xE xF xG xH xI xJ xK xL uO G)) := by
  rw [f_X12_writes] at h
  refine sx_run (by decide +kernel) rfl rfl (Nat.le_of_ble_eq_true rfl) ?_
  refine at_aload_n 0 dX12_writes_0 rfl ?_
  refine at_getf cl_X12 (by decide) fl_X12_213 hg_38 rfl dX12_writes_1 ?_
  refine at_bipush 40 dX12_writes_4 bp_40 ?_
  refine at_icmp_ne 49 dX12_writes_6 (by decide) (fun c5 => ?_) (fun c5 => ?_)
  · rw [if_neg c5] at h
    exact t_X12_writes_49 hK N _ _ _ h
  · rw [if_pos c5] at h
    refine at_iconst 0 dX12_writes_9 ic_0 ?_
    refine at_istore_n [(0, .ref (b + 38)), (1, .int v1), (2, .int 0)] dX12_writes_10 (Nat.le_of_ble_eq_true rfl) rfl ?_
    exact t_X12_writes_11 hK N _ N _ _ _ h
set_option maxRecDepth 100000 in
theorem t_X12_move_70 {D : va_G} {b : Nat} {K : State → Heap → Prop} {sa : Nat → Nat} (hK : sx_Kk b K sa) (N : Nat) {uG uN uD uR uF uP uL uT uA uM uH xC xE xF xG xH xI xJ xK xL uO : sx_C} {G : sx_H} (res : Int32 × sx_C × sx_C × sx_C) : ∀ (v1 : Int32) (xA : sx_C) (xB : sx_C) (xD : sx_C), f_X12_move_70 N v1 xA xB xD = some res → sx_At D b K YX12_move (sx_rm 5) (sx_Ex (some (.int res.1)) (sx_hp b uG uN uD uR uF uP uL uT uA uM uH (res.2.1) (res.2.2.1) xC (res.2.2.2) xE xF xG xH xI xJ xK xL uO G)) 70 [(0, .ref (b + 38)), (1, .int v1)] [] (sx_hp b uG uN uD uR uF uP uL uT uA uM uH xA xB xC xD xE xF xG xH xI xJ xK xL uO G) 0 0 := by
  intro v1 xA xB xD h
  rw [f_X12_move_70] at h
  refine at_aload_n 0 dX12_move_70 rfl ?_
  refine at_iload_n 1 dX12_move_71 rfl ?_
  obtain ⟨q1, hq1, h⟩ := sp_bind h
  refine at_callVv (st := []) hK mt_X12_writes ml_X12_317 cl_X12 hg_38 (t_X12_writes hK hq1) rfl rfl (Nat.le_of_ble_eq_true rfl) ⟨Nat.le_of_ble_eq_true rfl, Nat.le_of_ble_eq_true rfl⟩ ⟨Nat.le_refl _, Nat.le_refl _⟩ dX12_move_72 ?_
  refine at_aload_n 0 dX12_move_75 rfl ?_
  refine at_aload_n 0 dX12_move_76 rfl ?_
  refine at_getf cl_X12 (by decide) fl_X12_201 hg_38 rfl dX12_move_77 ?_
  refine at_aload_n 0 dX12_move_80 rfl ?_
  refine at_getf cl_X12 (by decide) fl_X12_204 hg_38 rfl dX12_move_81 ?_
  obtain ⟨q2, hq2, h⟩ := sp_bind h
  refine at_callVi (st := []) hK mt_X12_has ml_X12_301 cl_X12 hg_38 (t_X12_has hK hq2) rfl rfl (Nat.le_of_ble_eq_true rfl) ⟨Nat.le_of_ble_eq_true rfl, Nat.le_of_ble_eq_true rfl⟩ ⟨Nat.le_refl _, Nat.le_refl _⟩ dX12_move_84 ?_
  cases h; exact at_iret rfl (Nat.le_refl _) (Nat.le_refl _) ⟨rfl, rfl⟩ dX12_move_87
set_option maxRecDepth 100000 in
theorem t_X12_move {D : va_G} {b : Nat} {K : State → Heap → Prop} {sa : Nat → Nat} (hK : sx_Kk b K sa) {N : Nat} {uG uN uD uR uF uP uL uT uA uM uH xC xE xF xG xH xI xJ xK xL uO : sx_C} {G : sx_H} {v1 : Int32} {xA : sx_C} {xB : sx_C} {xD : sx_C} {res : Int32 × sx_C × sx_C × sx_C} (h : f_X12_move N v1 xA xB xD = some res) : sx_Runs D b K yX12_move YX12_move (sx_rm 5) [.ref (b + 38), .int v1] (sx_hp b uG uN uD uR uF uP uL uT uA uM uH xA xB xC xD xE xF xG xH xI xJ xK xL uO G) (sx_Ex (some (.int res.1)) (sx_hp b uG uN uD uR uF uP uL uT uA uM uH (res.2.1) (res.2.2.1) xC (res.2.2.2) xE xF xG xH xI xJ xK xL uO G)) := by
  rw [f_X12_move] at h
  refine sx_run (by decide +kernel) rfl rfl (Nat.le_of_ble_eq_true rfl) ?_
  refine at_aload_n 0 dX12_move_0 rfl ?_
  refine at_iconst 0 dX12_move_1 ic_0 ?_
  refine at_putf cl_X12 (by decide) fl_X12_73 rfl hg_38 rfl rfl (Nat.le_of_ble_eq_true rfl) hs_38_0 dX12_move_2 ?_
  refine at_aload_n 0 dX12_move_5 rfl ?_
  refine at_iload_n 1 dX12_move_6 rfl ?_
  obtain ⟨q3, hq3, h⟩ := sp_bind h
  refine at_callVi (st := []) hK mt_X12_isLine ml_X12_304 cl_X12 hg_38 (t_X12_isLine hK hq3) rfl rfl (Nat.le_of_ble_eq_true rfl) ⟨Nat.le_of_ble_eq_true rfl, Nat.le_of_ble_eq_true rfl⟩ ⟨Nat.le_refl _, Nat.le_refl _⟩ dX12_move_7 ?_
  refine at_zne 15 dX12_move_10 (by decide) (fun c4 => ?_) (fun c4 => ?_)
  · rw [if_pos c4] at h
    refine at_aload_n 0 dX12_move_15 rfl ?_
    refine at_iload_n 1 dX12_move_16 rfl ?_
    obtain ⟨q5, hq5, h⟩ := sp_bind h
    refine at_callVi (st := []) hK mt_X12_isOpen ml_X12_310 cl_X12 hg_38 (t_X12_isOpen hK hq5) rfl rfl (Nat.le_of_ble_eq_true rfl) ⟨Nat.le_of_ble_eq_true rfl, Nat.le_of_ble_eq_true rfl⟩ ⟨Nat.le_refl _, Nat.le_refl _⟩ dX12_move_17 ?_
    refine at_zne 26 dX12_move_20 (by decide) (fun c6 => ?_) (fun c6 => ?_)
    · rw [if_pos c6] at h
      refine at_aload_n 0 dX12_move_26 rfl ?_
      obtain ⟨q7, hq7, h⟩ := sp_bind h
      refine at_callVi (st := []) hK mt_X12_isOver ml_X12_313 cl_X12 hg_38 (t_X12_isOver hK hq7) rfl rfl (Nat.le_of_ble_eq_true rfl) ⟨Nat.le_of_ble_eq_true rfl, Nat.le_of_ble_eq_true rfl⟩ ⟨Nat.le_refl _, Nat.le_refl _⟩ dX12_move_27 ?_
      refine at_zeq 36 dX12_move_30 (by decide) (fun c8 => ?_) (fun c8 => ?_)
      · rw [if_neg c8] at h
        refine at_aload_n 0 dX12_move_36 rfl ?_
        refine at_getf cl_X12 (by decide) fl_X12_70 hg_38 rfl dX12_move_37 ?_
        refine at_if_ne 58 dX12_move_40 (by decide) (fun c9 => ?_) (fun c9 => ?_)
        · rw [if_neg c9] at h
          refine at_aload_n 0 dX12_move_58 rfl ?_
          refine at_dup dX12_move_59 rfl ?_
          refine at_getf cl_X12 (by decide) fl_X12_204 hg_38 rfl dX12_move_60 ?_
          refine at_iconst 1 dX12_move_63 ic_1 ?_
          refine at_iload_n 1 dX12_move_64 rfl ?_
          refine at_ishl dX12_move_65 ?_
          refine at_ior dX12_move_66 ?_
          refine at_putf cl_X12 (by decide) fl_X12_204 rfl hg_38 rfl rfl (Nat.le_of_ble_eq_true rfl) hs_38_8 dX12_move_67 ?_
          exact t_X12_move_70 hK N _ _ _ _ _ h
        · rw [if_pos c9] at h
          refine at_aload_n 0 dX12_move_43 rfl ?_
          refine at_dup dX12_move_44 rfl ?_
          refine at_getf cl_X12 (by decide) fl_X12_201 hg_38 rfl dX12_move_45 ?_
          refine at_iconst 1 dX12_move_48 ic_1 ?_
          refine at_iload_n 1 dX12_move_49 rfl ?_
          refine at_ishl dX12_move_50 ?_
          refine at_ior dX12_move_51 ?_
          refine at_putf cl_X12 (by decide) fl_X12_201 rfl hg_38 rfl rfl (Nat.le_of_ble_eq_true rfl) hs_38_7 dX12_move_52 ?_
          refine at_goto 70 dX12_move_55 (by decide) ?_
          exact t_X12_move_70 hK N _ _ _ _ _ h
      · rw [if_pos c8] at h
        refine at_bipush (-3) dX12_move_33 bp_m3 ?_
        cases h; exact at_iret rfl (Nat.le_refl _) (Nat.le_refl _) ⟨rfl, rfl⟩ dX12_move_35
    · rw [if_neg c6] at h
      refine at_bipush (-2) dX12_move_23 bp_m2 ?_
      cases h; exact at_iret rfl (Nat.le_refl _) (Nat.le_refl _) ⟨rfl, rfl⟩ dX12_move_25
  · rw [if_neg c4] at h
    refine at_iconst (-1) dX12_move_13 ic_m1 ?_
    cases h; exact at_iret rfl (Nat.le_refl _) (Nat.le_refl _) ⟨rfl, rfl⟩ dX12_move_14
set_option maxRecDepth 100000 in
theorem t_X12_pass {D : va_G} {b : Nat} {K : State → Heap → Prop} {sa : Nat → Nat} (hK : sx_Kk b K sa) {N : Nat} {uG uN uD uR uF uP uL uT uA uM uH xC xE xF xG xH xI xJ xK xL uO : sx_C} {G : sx_H} {xA : sx_C} {xB : sx_C} {xD : sx_C} {res : Bool × sx_C × sx_C × sx_C} (h : f_X12_pass N xA xB xD = some res) : sx_Runs D b K yX12_pass YX12_pass (sx_rm 5) [.ref (b + 38)] (sx_hp b uG uN uD uR uF uP uL uT uA uM uH xA xB xC xD xE xF xG xH xI xJ xK xL uO G) (sx_Ex (some (.int (sp_b res.1))) (sx_hp b uG uN uD uR uF uP uL uT uA uM uH (res.2.1) (res.2.2.1) xC (res.2.2.2) xE xF xG xH xI xJ xK xL uO G)) := by
  rw [f_X12_pass] at h
  refine sx_run (by decide +kernel) rfl rfl (Nat.le_of_ble_eq_true rfl) ?_
  refine at_aload_n 0 dX12_pass_0 rfl ?_
  refine at_iconst 0 dX12_pass_1 ic_0 ?_
  refine at_putf cl_X12 (by decide) fl_X12_73 rfl hg_38 rfl rfl (Nat.le_of_ble_eq_true rfl) hs_38_0 dX12_pass_2 ?_
  refine at_aload_n 0 dX12_pass_5 rfl ?_
  obtain ⟨q1, hq1, h⟩ := sp_bind h
  refine at_callVi (st := []) hK mt_X12_isOver ml_X12_313 cl_X12 hg_38 (t_X12_isOver hK hq1) rfl rfl (Nat.le_of_ble_eq_true rfl) ⟨Nat.le_of_ble_eq_true rfl, Nat.le_of_ble_eq_true rfl⟩ ⟨Nat.le_refl _, Nat.le_refl _⟩ dX12_pass_6 ?_
  refine at_zeq 14 dX12_pass_9 (by decide) (fun c2 => ?_) (fun c2 => ?_)
  · rw [if_neg c2] at h
    refine at_aload_n 0 dX12_pass_14 rfl ?_
    refine at_bipush (-2) dX12_pass_15 bp_m2 ?_
    obtain ⟨q3, hq3, h⟩ := sp_bind h
    refine at_callVv (st := []) hK mt_X12_writes ml_X12_317 cl_X12 hg_38 (t_X12_writes hK hq3) rfl rfl (Nat.le_of_ble_eq_true rfl) ⟨Nat.le_of_ble_eq_true rfl, Nat.le_of_ble_eq_true rfl⟩ ⟨Nat.le_refl _, Nat.le_refl _⟩ dX12_pass_17 ?_
    refine at_iconst 1 dX12_pass_20 ic_1 ?_
    cases h; exact at_zret rfl rfl (Nat.le_refl _) (Nat.le_refl _) ⟨rfl, rfl⟩ dX12_pass_21
  · rw [if_pos c2] at h
    refine at_iconst 0 dX12_pass_12 ic_0 ?_
    cases h; exact at_zret rfl rfl (Nat.le_refl _) (Nat.le_refl _) ⟨rfl, rfl⟩ dX12_pass_13
set_option maxRecDepth 100000 in
theorem t_X12_undo {D : va_G} {b : Nat} {K : State → Heap → Prop} {sa : Nat → Nat} (hK : sx_Kk b K sa) {uG uN uD uR uF uP uL uT uA uM uH xC xD xE xF xG xH xI xJ xK xL uO : sx_C} {G : sx_H} {xA : sx_C} {xB : sx_C} {res : Int32 × sx_C × sx_C} (h : f_X12_undo xA xB = some res) : sx_Runs D b K yX12_undo YX12_undo (sx_rm 0) [.ref (b + 38)] (sx_hp b uG uN uD uR uF uP uL uT uA uM uH xA xB xC xD xE xF xG xH xI xJ xK xL uO G) (sx_Ex (some (.int res.1)) (sx_hp b uG uN uD uR uF uP uL uT uA uM uH (res.2.1) (res.2.2) xC xD xE xF xG xH xI xJ xK xL uO G)) := by
  rw [f_X12_undo] at h
  refine sx_run (by decide +kernel) rfl rfl (Nat.le_of_ble_eq_true rfl) ?_
  refine at_aload_n 0 dX12_undo_0 rfl ?_
  refine at_iconst 0 dX12_undo_1 ic_0 ?_
  refine at_putf cl_X12 (by decide) fl_X12_73 rfl hg_38 rfl rfl (Nat.le_of_ble_eq_true rfl) hs_38_0 dX12_undo_2 ?_
  refine at_aload_n 0 dX12_undo_5 rfl ?_
  refine at_getf cl_X12 (by decide) fl_X12_213 hg_38 rfl dX12_undo_6 ?_
  refine at_if_ne 14 dX12_undo_9 (by decide) (fun c1 => ?_) (fun c1 => ?_)
  · rw [if_neg c1] at h
    refine at_aload_n 0 dX12_undo_14 rfl ?_
    refine at_dup dX12_undo_15 rfl ?_
    refine at_getf cl_X12 (by decide) fl_X12_213 hg_38 rfl dX12_undo_16 ?_
    refine at_iconst 1 dX12_undo_19 ic_1 ?_
    refine at_isub dX12_undo_20 ?_
    refine at_putf cl_X12 (by decide) fl_X12_213 rfl hg_38 rfl rfl (Nat.le_of_ble_eq_true rfl) hs_38_14 dX12_undo_21 ?_
    refine at_aload_n 0 dX12_undo_24 rfl ?_
    refine at_iconst 1 dX12_undo_25 ic_1 ?_
    refine at_aload_n 0 dX12_undo_26 rfl ?_
    refine at_getf cl_X12 (by decide) fl_X12_70 hg_38 rfl dX12_undo_27 ?_
    refine at_isub dX12_undo_30 ?_
    refine at_putf cl_X12 (by decide) fl_X12_70 rfl hg_38 rfl rfl (Nat.le_of_ble_eq_true rfl) hs_38_11 dX12_undo_31 ?_
    refine at_aload_n 0 dX12_undo_34 rfl ?_
    refine at_getf cl_X12 (by decide) fl_X12_19 hg_38 rfl dX12_undo_35 ?_
    refine at_aload_n 0 dX12_undo_38 rfl ?_
    refine at_getf cl_X12 (by decide) fl_X12_213 hg_38 rfl dX12_undo_39 ?_
    obtain ⟨w2, hw2, h⟩ := sp_bind h
    refine at_iald hg_42 hw2 dX12_undo_42 ?_
    refine at_istore_n [(0, .ref (b + 38)), (1, .int w2)] dX12_undo_43 (Nat.le_of_ble_eq_true rfl) rfl ?_
    refine at_iload_n 1 dX12_undo_44 rfl ?_
    refine at_if_lt 76 dX12_undo_45 (by decide) (fun c3 => ?_) (fun c3 => ?_)
    · rw [if_pos c3] at h
      refine at_iload_n 1 dX12_undo_76 rfl ?_
      cases h; exact at_iret rfl (Nat.le_refl _) (Nat.le_refl _) ⟨rfl, rfl⟩ dX12_undo_77
    · rw [if_neg c3] at h
      refine at_aload_n 0 dX12_undo_48 rfl ?_
      refine at_dup dX12_undo_49 rfl ?_
      refine at_getf cl_X12 (by decide) fl_X12_201 hg_38 rfl dX12_undo_50 ?_
      refine at_iconst 1 dX12_undo_53 ic_1 ?_
      refine at_iload_n 1 dX12_undo_54 rfl ?_
      refine at_ishl dX12_undo_55 ?_
      refine at_iconst (-1) dX12_undo_56 ic_m1 ?_
      refine at_ixor dX12_undo_57 ?_
      refine at_iand dX12_undo_58 ?_
      refine at_putf cl_X12 (by decide) fl_X12_201 rfl hg_38 rfl rfl (Nat.le_of_ble_eq_true rfl) hs_38_7 dX12_undo_59 ?_
      refine at_aload_n 0 dX12_undo_62 rfl ?_
      refine at_dup dX12_undo_63 rfl ?_
      refine at_getf cl_X12 (by decide) fl_X12_204 hg_38 rfl dX12_undo_64 ?_
      refine at_iconst 1 dX12_undo_67 ic_1 ?_
      refine at_iload_n 1 dX12_undo_68 rfl ?_
      refine at_ishl dX12_undo_69 ?_
      refine at_iconst (-1) dX12_undo_70 ic_m1 ?_
      refine at_ixor dX12_undo_71 ?_
      refine at_iand dX12_undo_72 ?_
      refine at_putf cl_X12 (by decide) fl_X12_204 rfl hg_38 rfl rfl (Nat.le_of_ble_eq_true rfl) hs_38_8 dX12_undo_73 ?_
      refine at_iload_n 1 dX12_undo_76 rfl ?_
      cases h; exact at_iret rfl (Nat.le_refl _) (Nat.le_refl _) ⟨rfl, rfl⟩ dX12_undo_77
  · rw [if_pos c1] at h
    refine at_iconst (-1) dX12_undo_12 ic_m1 ?_
    cases h; exact at_iret rfl (Nat.le_refl _) (Nat.le_refl _) ⟨rfl, rfl⟩ dX12_undo_13
set_option maxRecDepth 100000 in
theorem t_X12_written {D : va_G} {b : Nat} {K : State → Heap → Prop} {sa : Nat → Nat} (hK : sx_Kk b K sa) {uG uN uD uR uF uP uL uT uA uM uH xA xC xD xE xF xG xH xI xJ xK xL uO : sx_C} {G : sx_H} {v1 : Int32} {xB : sx_C} {res : Int32 × sx_C} (h : f_X12_written xA v1 xB = some res) : sx_Runs D b K yX12_written YX12_written (sx_rm 0) [.ref (b + 38), .int v1] (sx_hp b uG uN uD uR uF uP uL uT uA uM uH xA xB xC xD xE xF xG xH xI xJ xK xL uO G) (sx_Ex (some (.int res.1)) (sx_hp b uG uN uD uR uF uP uL uT uA uM uH xA (res.2) xC xD xE xF xG xH xI xJ xK xL uO G)) := by
  rw [f_X12_written] at h
  refine sx_run (by decide +kernel) rfl rfl (Nat.le_of_ble_eq_true rfl) ?_
  refine at_aload_n 0 dX12_written_0 rfl ?_
  refine at_iconst 0 dX12_written_1 ic_0 ?_
  refine at_putf cl_X12 (by decide) fl_X12_73 rfl hg_38 rfl rfl (Nat.le_of_ble_eq_true rfl) hs_38_0 dX12_written_2 ?_
  refine at_iload_n 1 dX12_written_5 rfl ?_
  refine at_if_ge 11 dX12_written_6 (by decide) (fun c1 => ?_) (fun c1 => ?_)
  · rw [if_pos c1] at h
    refine at_iload_n 1 dX12_written_11 rfl ?_
    refine at_aload_n 0 dX12_written_12 rfl ?_
    refine at_getf cl_X12 (by decide) fl_X12_213 hg_38 rfl dX12_written_13 ?_
    refine at_icmp_lt 24 dX12_written_16 (by decide) (fun c2 => ?_) (fun c2 => ?_)
    · rw [if_pos c2] at h
      refine at_aload_n 0 dX12_written_24 rfl ?_
      refine at_getf cl_X12 (by decide) fl_X12_19 hg_38 rfl dX12_written_25 ?_
      refine at_iload_n 1 dX12_written_28 rfl ?_
      obtain ⟨w3, hw3, h⟩ := sp_bind h
      refine at_iald hg_42 hw3 dX12_written_29 ?_
      refine at_bipush (-2) dX12_written_30 bp_m2 ?_
      refine at_icmp_ne 40 dX12_written_32 (by decide) (fun c4 => ?_) (fun c4 => ?_)
      · rw [if_neg c4] at h
        refine at_aload_n 0 dX12_written_40 rfl ?_
        refine at_getf cl_X12 (by decide) fl_X12_19 hg_38 rfl dX12_written_41 ?_
        refine at_iload_n 1 dX12_written_44 rfl ?_
        obtain ⟨w5, hw5, h⟩ := sp_bind h
        refine at_iald hg_42 hw5 dX12_written_45 ?_
        cases h; exact at_iret rfl (Nat.le_refl _) (Nat.le_refl _) ⟨rfl, rfl⟩ dX12_written_46
      · rw [if_pos c4] at h
        refine at_bipush (-3) dX12_written_35 bp_m3 ?_
        refine at_goto 46 dX12_written_37 (by decide) ?_
        cases h; exact at_iret rfl (Nat.le_refl _) (Nat.le_refl _) ⟨rfl, rfl⟩ dX12_written_46
    · rw [if_neg c2] at h
      refine at_bipush (-2) dX12_written_19 bp_m2 ?_
      refine at_goto 46 dX12_written_21 (by decide) ?_
      cases h; exact at_iret rfl (Nat.le_refl _) (Nat.le_refl _) ⟨rfl, rfl⟩ dX12_written_46
  · rw [if_neg c1] at h
    refine at_iconst (-1) dX12_written_9 ic_m1 ?_
    cases h; exact at_iret rfl (Nat.le_refl _) (Nat.le_refl _) ⟨rfl, rfl⟩ dX12_written_10
set_option maxRecDepth 100000 in
theorem t_X12_placesNow {D : va_G} {b : Nat} {K : State → Heap → Prop} {sa : Nat → Nat} (hK : sx_Kk b K sa) {N : Nat} {uG uN uD uR uF uP uL uT uA uM uH xA xB xC xF xG xH xI xJ xK xL uO : sx_C} {G : sx_H} {xD : sx_C} {xE : sx_C} {res : Int32 × sx_C × sx_C} (h : f_X12_placesNow N xA xD xE = some res) : sx_Runs D b K yX12_placesNow YX12_placesNow (sx_rm 3) [.ref (b + 38)] (sx_hp b uG uN uD uR uF uP uL uT uA uM uH xA xB xC xD xE xF xG xH xI xJ xK xL uO G) (sx_Ex (some (.int res.1)) (sx_hp b uG uN uD uR uF uP uL uT uA uM uH xA xB xC (res.2.1) (res.2.2) xF xG xH xI xJ xK xL uO G)) := by
  rw [f_X12_placesNow] at h
  refine sx_run (by decide +kernel) rfl rfl (Nat.le_of_ble_eq_true rfl) ?_
  refine at_aload_n 0 dX12_placesNow_0 rfl ?_
  refine at_aload_n 0 dX12_placesNow_1 rfl ?_
  refine at_getf cl_X12 (by decide) fl_X12_201 hg_38 rfl dX12_placesNow_2 ?_
  obtain ⟨q1, hq1, h⟩ := sp_bind h
  refine at_callVv (st := []) hK mt_X12_laysPlaces ml_X12_256 cl_X12 hg_38 (t_X12_laysPlaces hK hq1) rfl rfl (Nat.le_of_ble_eq_true rfl) ⟨Nat.le_of_ble_eq_true rfl, Nat.le_of_ble_eq_true rfl⟩ ⟨Nat.le_refl _, Nat.le_refl _⟩ dX12_placesNow_5 ?_
  refine at_aload_n 0 dX12_placesNow_8 rfl ?_
  obtain ⟨q2, hq2, h⟩ := sp_bind h
  refine at_callVi (st := []) hK mt_X12_placeBits ml_X12_259 cl_X12 hg_38 (t_X12_placeBits hK hq2) rfl rfl (Nat.le_of_ble_eq_true rfl) ⟨Nat.le_of_ble_eq_true rfl, Nat.le_of_ble_eq_true rfl⟩ ⟨Nat.le_refl _, Nat.le_refl _⟩ dX12_placesNow_9 ?_
  obtain ⟨q3, hq3, h⟩ := sp_bind h
  refine at_callSi (st := []) hK mt_X12_bits ml_X12_250 (t_X12_bits hK hq3) rfl rfl (Nat.le_of_ble_eq_true rfl) ⟨Nat.le_of_ble_eq_true rfl, Nat.le_of_ble_eq_true rfl⟩ ⟨Nat.le_refl _, Nat.le_refl _⟩ dX12_placesNow_12 ?_
  cases h; exact at_iret rfl (Nat.le_refl _) (Nat.le_refl _) ⟨rfl, rfl⟩ dX12_placesNow_15
set_option maxRecDepth 100000 in
theorem t_X12_now {D : va_G} {b : Nat} {K : State → Heap → Prop} {sa : Nat → Nat} (hK : sx_Kk b K sa) {N : Nat} {uG uN uD uR uF uP uL uT uA uM uH xA xC xF xG xH xI xJ xK xL uO : sx_C} {G : sx_H} {v1 : Int32} {xB : sx_C} {xD : sx_C} {xE : sx_C} {res : Int32 × sx_C × sx_C × sx_C} (h : f_X12_now N xA v1 xB xD xE = some res) : sx_Runs D b K yX12_now YX12_now (sx_rm 4) [.ref (b + 38), .int v1] (sx_hp b uG uN uD uR uF uP uL uT uA uM uH xA xB xC xD xE xF xG xH xI xJ xK xL uO G) (sx_Ex (some (.int res.1)) (sx_hp b uG uN uD uR uF uP uL uT uA uM uH xA (res.2.1) xC (res.2.2.1) (res.2.2.2) xF xG xH xI xJ xK xL uO G)) := by
  rw [f_X12_now] at h
  refine sx_run (by decide +kernel) rfl rfl (Nat.le_of_ble_eq_true rfl) ?_
  refine at_aload_n 0 dX12_now_0 rfl ?_
  refine at_iconst 0 dX12_now_1 ic_0 ?_
  refine at_putf cl_X12 (by decide) fl_X12_73 rfl hg_38 rfl rfl (Nat.le_of_ble_eq_true rfl) hs_38_0 dX12_now_2 ?_
  refine at_iload_n 1 dX12_now_5 rfl ?_
  by_cases c1 : v1 = 0
  · rw [if_pos c1] at h
    refine at_tbC c1 48 dX12_now_6 (by decide) (by decide) rfl (by decide) ?_
    refine at_aload_n 0 dX12_now_48 rfl ?_
    refine at_getf cl_X12 (by decide) fl_X12_70 hg_38 rfl dX12_now_49 ?_
    cases h; exact at_iret rfl (Nat.le_refl _) (Nat.le_refl _) ⟨rfl, rfl⟩ dX12_now_52
  · rw [if_neg c1] at h
    by_cases c2 : v1 = 1
    · rw [if_pos c2] at h
      refine at_tbC c2 53 dX12_now_6 (by decide) (by decide) rfl (by decide) ?_
      refine at_aload_n 0 dX12_now_53 rfl ?_
      refine at_aload_n 0 dX12_now_54 rfl ?_
      refine at_getf cl_X12 (by decide) fl_X12_201 hg_38 rfl dX12_now_55 ?_
      refine at_aload_n 0 dX12_now_58 rfl ?_
      refine at_getf cl_X12 (by decide) fl_X12_204 hg_38 rfl dX12_now_59 ?_
      obtain ⟨q3, hq3, h⟩ := sp_bind h
      refine at_callVi (st := []) hK mt_X12_has ml_X12_301 cl_X12 hg_38 (t_X12_has hK hq3) rfl rfl (Nat.le_of_ble_eq_true rfl) ⟨Nat.le_of_ble_eq_true rfl, Nat.le_of_ble_eq_true rfl⟩ ⟨Nat.le_refl _, Nat.le_refl _⟩ dX12_now_62 ?_
      cases h; exact at_iret rfl (Nat.le_refl _) (Nat.le_refl _) ⟨rfl, rfl⟩ dX12_now_65
    · rw [if_neg c2] at h
      by_cases c4 : v1 = 2
      · rw [if_pos c4] at h
        refine at_tbC c4 66 dX12_now_6 (by decide) (by decide) rfl (by decide) ?_
        refine at_aload_n 0 dX12_now_66 rfl ?_
        obtain ⟨q5, hq5, h⟩ := sp_bind h
        refine at_callVi (st := []) hK mt_X12_openNow ml_X12_298 cl_X12 hg_38 (t_X12_openNow hK hq5) rfl rfl (Nat.le_of_ble_eq_true rfl) ⟨Nat.le_of_ble_eq_true rfl, Nat.le_of_ble_eq_true rfl⟩ ⟨Nat.le_refl _, Nat.le_refl _⟩ dX12_now_67 ?_
        obtain ⟨q6, hq6, h⟩ := sp_bind h
        refine at_callSi (st := []) hK mt_X12_bits ml_X12_250 (t_X12_bits hK hq6) rfl rfl (Nat.le_of_ble_eq_true rfl) ⟨Nat.le_of_ble_eq_true rfl, Nat.le_of_ble_eq_true rfl⟩ ⟨Nat.le_refl _, Nat.le_refl _⟩ dX12_now_70 ?_
        cases h; exact at_iret rfl (Nat.le_refl _) (Nat.le_refl _) ⟨rfl, rfl⟩ dX12_now_73
      · rw [if_neg c4] at h
        by_cases c7 : v1 = 3
        · rw [if_pos c7] at h
          refine at_tbC c7 74 dX12_now_6 (by decide) (by decide) rfl (by decide) ?_
          refine at_aload_n 0 dX12_now_74 rfl ?_
          refine at_getf cl_X12 (by decide) fl_X12_201 hg_38 rfl dX12_now_75 ?_
          obtain ⟨q8, hq8, h⟩ := sp_bind h
          refine at_callSi (st := []) hK mt_X12_bits ml_X12_250 (t_X12_bits hK hq8) rfl rfl (Nat.le_of_ble_eq_true rfl) ⟨Nat.le_of_ble_eq_true rfl, Nat.le_of_ble_eq_true rfl⟩ ⟨Nat.le_refl _, Nat.le_refl _⟩ dX12_now_78 ?_
          cases h; exact at_iret rfl (Nat.le_refl _) (Nat.le_refl _) ⟨rfl, rfl⟩ dX12_now_81
        · rw [if_neg c7] at h
          by_cases c9 : v1 = 4
          · rw [if_pos c9] at h
            refine at_tbC c9 82 dX12_now_6 (by decide) (by decide) rfl (by decide) ?_
            refine at_aload_n 0 dX12_now_82 rfl ?_
            refine at_getf cl_X12 (by decide) fl_X12_204 hg_38 rfl dX12_now_83 ?_
            obtain ⟨q10, hq10, h⟩ := sp_bind h
            refine at_callSi (st := []) hK mt_X12_bits ml_X12_250 (t_X12_bits hK hq10) rfl rfl (Nat.le_of_ble_eq_true rfl) ⟨Nat.le_of_ble_eq_true rfl, Nat.le_of_ble_eq_true rfl⟩ ⟨Nat.le_refl _, Nat.le_refl _⟩ dX12_now_86 ?_
            cases h; exact at_iret rfl (Nat.le_refl _) (Nat.le_refl _) ⟨rfl, rfl⟩ dX12_now_89
          · rw [if_neg c9] at h
            by_cases c11 : v1 = 5
            · rw [if_pos c11] at h
              refine at_tbC c11 90 dX12_now_6 (by decide) (by decide) rfl (by decide) ?_
              refine at_aload_n 0 dX12_now_90 rfl ?_
              obtain ⟨q12, hq12, h⟩ := sp_bind h
              refine at_callVi (st := []) hK mt_X12_placesNow ml_X12_320 cl_X12 hg_38 (t_X12_placesNow hK hq12) rfl rfl (Nat.le_of_ble_eq_true rfl) ⟨Nat.le_of_ble_eq_true rfl, Nat.le_of_ble_eq_true rfl⟩ ⟨Nat.le_refl _, Nat.le_refl _⟩ dX12_now_91 ?_
              cases h; exact at_iret rfl (Nat.le_refl _) (Nat.le_refl _) ⟨rfl, rfl⟩ dX12_now_94
            · rw [if_neg c11] at h
              by_cases c13 : v1 = 6
              · rw [if_pos c13] at h
                refine at_tbC c13 95 dX12_now_6 (by decide) (by decide) rfl (by decide) ?_
                refine at_aload_n 0 dX12_now_95 rfl ?_
                refine at_getf cl_X12 (by decide) fl_X12_213 hg_38 rfl dX12_now_96 ?_
                cases h; exact at_iret rfl (Nat.le_refl _) (Nat.le_refl _) ⟨rfl, rfl⟩ dX12_now_99
              · rw [if_neg c13] at h
                refine at_tbOut 100 dX12_now_6 (by have e0 := sp_ne (0) (by decide) c1; have e1 := sp_ne (1) (by decide) c2; have e2 := sp_ne (2) (by decide) c4; have e3 := sp_ne (3) (by decide) c7; have e4 := sp_ne (4) (by decide) c9; have e5 := sp_ne (5) (by decide) c11; have e6 := sp_ne (6) (by decide) c13; omega) (by decide) ?_
                refine at_iconst (-1) dX12_now_100 ic_m1 ?_
                cases h; exact at_iret rfl (Nat.le_refl _) (Nat.le_refl _) ⟨rfl, rfl⟩ dX12_now_101
