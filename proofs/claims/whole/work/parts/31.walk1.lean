set_option maxRecDepth 100000 in
theorem t_X11_reaches_51 {D : va_G} {b : Nat} {K : State → Heap → Prop} {sa : Nat → Nat} (hK : sx_Kk b K sa) (N : Nat) {uG uN uD uR uF uP uL uT uA uM uH xA xB xC xD xE xF xG xH xI xJ xK xL uO : sx_C} {G : sx_H} (res : Int32) : ∀ (v1 : Int32) (s1 : Int32), f_X11_reaches_51 N uG uN v1 s1 = some res → sx_At D b K YX11_reaches (sx_rm 3) (sx_Ex (some (.int res)) (sx_hp b uG uN uD uR uF uP uL uT uA uM uH xA xB xC xD xE xF xG xH xI xJ xK xL uO G)) 51 [(0, .ref (b + 0)), (1, .int v1)] [.int s1, .ref (b + 2)] (sx_hp b uG uN uD uR uF uP uL uT uA uM uH xA xB xC xD xE xF xG xH xI xJ xK xL uO G) 0 0 := by
  intro v1 s1 h
  rw [f_X11_reaches_51] at h
  obtain ⟨q1, hq1, h⟩ := sp_bind h
  refine at_callVi (st := []) hK mt_X6_placesBy ml_X11_151 cl_X6 hg_2 (t_X6_placesBy hK hq1) rfl rfl (Nat.le_of_ble_eq_true rfl) ⟨Nat.le_of_ble_eq_true rfl, Nat.le_of_ble_eq_true rfl⟩ ⟨Nat.le_refl _, Nat.le_refl _⟩ dX11_reaches_51 ?_
  refine at_istore_n [(0, .ref (b + 0)), (1, .int v1), (3, .int q1)] dX11_reaches_54 (Nat.le_of_ble_eq_true rfl) rfl ?_
  refine at_iload_n 2 dX11_reaches_55 rfl ?_
  refine at_iload_n 2 dX11_reaches_56 rfl ?_
  refine at_iload_n 1 dX11_reaches_57 rfl ?_
  obtain ⟨q2, hq2, h⟩ := sp_bind h
  refine at_callSi (st := [.int q1]) hK mt_X8_numberOf ml_X11_154 (t_X8_numberOf hK hq2) rfl rfl (Nat.le_of_ble_eq_true rfl) ⟨Nat.le_of_ble_eq_true rfl, Nat.le_of_ble_eq_true rfl⟩ ⟨Nat.le_refl _, Nat.le_refl _⟩ dX11_reaches_58 ?_
  refine at_aload_n 0 dX11_reaches_61 rfl ?_
  refine at_getf cl_X11 (by decide) fl_X11_16 hg_0 rfl dX11_reaches_62 ?_
  refine at_getf cl_X6 (by decide) fl_X11_164 hg_2 rfl dX11_reaches_65 ?_
  obtain ⟨q3, hq3, h⟩ := sp_bind h
  refine at_callSi (st := []) hK mt_X8_knotsOf ml_X11_167 (t_X8_knotsOf hK hq3) rfl rfl (Nat.le_of_ble_eq_true rfl) ⟨Nat.le_of_ble_eq_true rfl, Nat.le_of_ble_eq_true rfl⟩ ⟨Nat.le_refl _, Nat.le_refl _⟩ dX11_reaches_68 ?_
  cases h; exact at_iret rfl (Nat.le_refl _) (Nat.le_refl _) ⟨rfl, rfl⟩ dX11_reaches_71
set_option maxRecDepth 100000 in
theorem t_X11_reaches {D : va_G} {b : Nat} {K : State → Heap → Prop} {sa : Nat → Nat} (hK : sx_Kk b K sa) {N : Nat} {uG uN uD uR uF uP uL uT uA uM uH xA xB xC xD xE xF xG xH xI xJ xK xL uO : sx_C} {G : sx_H} {v1 : Int32} {v2 : Int32} {res : Int32} (h : f_X11_reaches N uG uN v1 v2 = some res) : sx_Runs D b K yX11_reaches YX11_reaches (sx_rm 3) [.ref (b + 0), .int v1, .int v2] (sx_hp b uG uN uD uR uF uP uL uT uA uM uH xA xB xC xD xE xF xG xH xI xJ xK xL uO G) (sx_Ex (some (.int res)) (sx_hp b uG uN uD uR uF uP uL uT uA uM uH xA xB xC xD xE xF xG xH xI xJ xK xL uO G)) := by
  rw [f_X11_reaches] at h
  refine sx_run (by decide +kernel) rfl rfl (Nat.le_of_ble_eq_true rfl) ?_
  refine at_aload_n 0 dX11_reaches_0 rfl ?_
  refine at_getf cl_X11 (by decide) fl_X11_16 hg_0 rfl dX11_reaches_1 ?_
  refine at_iload_n 1 dX11_reaches_4 rfl ?_
  obtain ⟨q4, hq4, h⟩ := sp_bind h
  refine at_callVi (st := []) hK mt_X6_isKnot ml_X11_148 cl_X6 hg_2 (t_X6_isKnot hK hq4) rfl rfl (Nat.le_of_ble_eq_true rfl) ⟨Nat.le_of_ble_eq_true rfl, Nat.le_of_ble_eq_true rfl⟩ ⟨Nat.le_refl _, Nat.le_refl _⟩ dX11_reaches_5 ?_
  refine at_zeq 20 dX11_reaches_8 (by decide) (fun c5 => ?_) (fun c5 => ?_)
  · rw [if_neg c5] at h
    refine at_iconst (-1) dX11_reaches_20 ic_m1 ?_
    cases h; exact at_iret rfl (Nat.le_refl _) (Nat.le_refl _) ⟨rfl, rfl⟩ dX11_reaches_21
  · rw [if_pos c5] at h
    refine at_iload_n 2 dX11_reaches_11 rfl ?_
    refine at_if_lt 20 dX11_reaches_12 (by decide) (fun c6 => ?_) (fun c6 => ?_)
    · rw [if_pos c6] at h
      refine at_iconst (-1) dX11_reaches_20 ic_m1 ?_
      cases h; exact at_iret rfl (Nat.le_refl _) (Nat.le_refl _) ⟨rfl, rfl⟩ dX11_reaches_21
    · rw [if_neg c6] at h
      refine at_iload_n 2 dX11_reaches_15 rfl ?_
      refine at_iconst 1 dX11_reaches_16 ic_1 ?_
      refine at_icmp_le 22 dX11_reaches_17 (by decide) (fun c7 => ?_) (fun c7 => ?_)
      · rw [if_pos c7] at h
        refine at_aload_n 0 dX11_reaches_22 rfl ?_
        refine at_getf cl_X11 (by decide) fl_X11_16 hg_0 rfl dX11_reaches_23 ?_
        refine at_iload_n 2 dX11_reaches_26 rfl ?_
        refine at_if_ne 37 dX11_reaches_27 (by decide) (fun c8 => ?_) (fun c8 => ?_)
        · rw [if_neg c8] at h
          refine at_aload_n 0 dX11_reaches_37 rfl ?_
          refine at_getf cl_X11 (by decide) fl_X11_16 hg_0 rfl dX11_reaches_38 ?_
          obtain ⟨q9, hq9, h⟩ := sp_bind h
          refine at_callVi (st := [.ref (b + 2)]) hK mt_X6_all ml_X11_160 cl_X6 hg_2 (t_X6_all hK hq9) rfl rfl (Nat.le_of_ble_eq_true rfl) ⟨Nat.le_of_ble_eq_true rfl, Nat.le_of_ble_eq_true rfl⟩ ⟨Nat.le_refl _, Nat.le_refl _⟩ dX11_reaches_41 ?_
          refine at_aload_n 0 dX11_reaches_44 rfl ?_
          refine at_getf cl_X11 (by decide) fl_X11_94 hg_0 rfl dX11_reaches_45 ?_
          refine at_iconst (-1) dX11_reaches_48 ic_m1 ?_
          refine at_ixor dX11_reaches_49 ?_
          refine at_iand dX11_reaches_50 ?_
          refine at_sub [0, 1] [(0, .ref (b + 0)), (1, .int v1)] rfl ?_
          exact t_X11_reaches_51 hK N _ _ _ h
        · rw [if_pos c8] at h
          refine at_aload_n 0 dX11_reaches_30 rfl ?_
          refine at_getf cl_X11 (by decide) fl_X11_91 hg_0 rfl dX11_reaches_31 ?_
          refine at_goto 51 dX11_reaches_34 (by decide) ?_
          refine at_sub [0, 1] [(0, .ref (b + 0)), (1, .int v1)] rfl ?_
          exact t_X11_reaches_51 hK N _ _ _ h
      · rw [if_neg c7] at h
        refine at_iconst (-1) dX11_reaches_20 ic_m1 ?_
        cases h; exact at_iret rfl (Nat.le_refl _) (Nat.le_refl _) ⟨rfl, rfl⟩ dX11_reaches_21
set_option maxRecDepth 100000 in
theorem t_X6_openOf {D : va_G} {b : Nat} {K : State → Heap → Prop} {sa : Nat → Nat} (hK : sx_Kk b K sa) {uG uN uD uR uF uP uL uT uA uM uH xA xB xC xD xE xF xG xH xI xJ xK xL uO : sx_C} {G : sx_H} {v1 : Int32} {v2 : Int32} {res : Int32} (h : f_X6_openOf uN v1 v2 = some res) : sx_Runs D b K yX6_openOf YX6_openOf (sx_rm 1) [.ref (b + 2), .int v1, .int v2] (sx_hp b uG uN uD uR uF uP uL uT uA uM uH xA xB xC xD xE xF xG xH xI xJ xK xL uO G) (sx_Ex (some (.int res)) (sx_hp b uG uN uD uR uF uP uL uT uA uM uH xA xB xC xD xE xF xG xH xI xJ xK xL uO G)) := by
  rw [f_X6_openOf] at h
  refine sx_run (by decide +kernel) rfl rfl (Nat.le_of_ble_eq_true rfl) ?_
  refine at_aload_n 0 dX6_openOf_0 rfl ?_
  obtain ⟨q1, hq1, h⟩ := sp_bind h
  refine at_callVi (st := []) hK mt_X6_all ml_X6_52 cl_X6 hg_2 (t_X6_all hK hq1) rfl rfl (Nat.le_of_ble_eq_true rfl) ⟨Nat.le_of_ble_eq_true rfl, Nat.le_of_ble_eq_true rfl⟩ ⟨Nat.le_refl _, Nat.le_refl _⟩ dX6_openOf_1 ?_
  refine at_iload_n 1 dX6_openOf_4 rfl ?_
  refine at_iload_n 2 dX6_openOf_5 rfl ?_
  refine at_ior dX6_openOf_6 ?_
  refine at_iconst (-1) dX6_openOf_7 ic_m1 ?_
  refine at_ixor dX6_openOf_8 ?_
  refine at_iand dX6_openOf_9 ?_
  cases h; exact at_iret rfl (Nat.le_refl _) (Nat.le_refl _) ⟨rfl, rfl⟩ dX6_openOf_10
set_option maxRecDepth 100000 in
theorem t_X11_open {D : va_G} {b : Nat} {K : State → Heap → Prop} {sa : Nat → Nat} (hK : sx_Kk b K sa) {uG uN uD uR uF uP uL uT uA uM uH xA xB xC xD xE xF xG xH xI xJ xK xL uO : sx_C} {G : sx_H} {res : Int32} (h : f_X11_open uG uN  = some res) : sx_Runs D b K yX11_open YX11_open (sx_rm 2) [.ref (b + 0)] (sx_hp b uG uN uD uR uF uP uL uT uA uM uH xA xB xC xD xE xF xG xH xI xJ xK xL uO G) (sx_Ex (some (.int res)) (sx_hp b uG uN uD uR uF uP uL uT uA uM uH xA xB xC xD xE xF xG xH xI xJ xK xL uO G)) := by
  rw [f_X11_open] at h
  refine sx_run (by decide +kernel) rfl rfl (Nat.le_of_ble_eq_true rfl) ?_
  refine at_aload_n 0 dX11_open_0 rfl ?_
  refine at_getf cl_X11 (by decide) fl_X11_16 hg_0 rfl dX11_open_1 ?_
  refine at_aload_n 0 dX11_open_4 rfl ?_
  refine at_getf cl_X11 (by decide) fl_X11_91 hg_0 rfl dX11_open_5 ?_
  refine at_aload_n 0 dX11_open_8 rfl ?_
  refine at_getf cl_X11 (by decide) fl_X11_94 hg_0 rfl dX11_open_9 ?_
  obtain ⟨q1, hq1, h⟩ := sp_bind h
  refine at_callVi (st := []) hK mt_X6_openOf ml_X11_344 cl_X6 hg_2 (t_X6_openOf hK hq1) rfl rfl (Nat.le_of_ble_eq_true rfl) ⟨Nat.le_of_ble_eq_true rfl, Nat.le_of_ble_eq_true rfl⟩ ⟨Nat.le_refl _, Nat.le_refl _⟩ dX11_open_12 ?_
  cases h; exact at_iret rfl (Nat.le_refl _) (Nat.le_refl _) ⟨rfl, rfl⟩ dX11_open_15
set_option maxRecDepth 100000 in
theorem t_X11_isOpen {D : va_G} {b : Nat} {K : State → Heap → Prop} {sa : Nat → Nat} (hK : sx_Kk b K sa) {uG uN uD uR uF uP uL uT uA uM uH xA xB xC xD xE xF xG xH xI xJ xK xL uO : sx_C} {G : sx_H} {v1 : Int32} {res : Bool} (h : f_X11_isOpen uG uN v1 = some res) : sx_Runs D b K yX11_isOpen YX11_isOpen (sx_rm 3) [.ref (b + 0), .int v1] (sx_hp b uG uN uD uR uF uP uL uT uA uM uH xA xB xC xD xE xF xG xH xI xJ xK xL uO G) (sx_Ex (some (.int (sp_b res))) (sx_hp b uG uN uD uR uF uP uL uT uA uM uH xA xB xC xD xE xF xG xH xI xJ xK xL uO G)) := by
  rw [f_X11_isOpen] at h
  refine sx_run (by decide +kernel) rfl rfl (Nat.le_of_ble_eq_true rfl) ?_
  refine at_aload_n 0 dX11_isOpen_0 rfl ?_
  obtain ⟨q1, hq1, h⟩ := sp_bind h
  refine at_callVi (st := []) hK mt_X11_open ml_X11_193 cl_X11 hg_0 (t_X11_open hK hq1) rfl rfl (Nat.le_of_ble_eq_true rfl) ⟨Nat.le_of_ble_eq_true rfl, Nat.le_of_ble_eq_true rfl⟩ ⟨Nat.le_refl _, Nat.le_refl _⟩ dX11_isOpen_1 ?_
  refine at_iload_n 1 dX11_isOpen_4 rfl ?_
  obtain ⟨q2, hq2, h⟩ := sp_bind h
  refine at_callSi (st := []) hK mt_X11_has ml_X11_347 (t_X11_has hK hq2) rfl rfl (Nat.le_of_ble_eq_true rfl) ⟨Nat.le_of_ble_eq_true rfl, Nat.le_of_ble_eq_true rfl⟩ ⟨Nat.le_refl _, Nat.le_refl _⟩ dX11_isOpen_5 ?_
  cases h; exact at_zret rfl (sp_bz _) (Nat.le_refl _) (Nat.le_refl _) ⟨rfl, rfl⟩ dX11_isOpen_8
set_option maxRecDepth 100000 in
theorem t_X8_together {D : va_G} {b : Nat} {K : State → Heap → Prop} {sa : Nat → Nat} (hK : sx_Kk b K sa) {σ : sx_H} {v0 : Int32} {v1 : Int32} {v2 : Int32} {res : Bool} (h : f_X8_together v0 v1 v2 = some res) : sx_Runs D b K yX8_together YX8_together (sx_rm 1) [.int v0, .int v1, .int v2] σ (sx_Ex (some (.int (sp_b res))) σ) := by
  rw [f_X8_together] at h
  refine sx_run (by decide +kernel) rfl rfl (Nat.le_of_ble_eq_true rfl) ?_
  refine at_iload_n 0 dX8_together_0 rfl ?_
  refine at_iload_n 1 dX8_together_1 rfl ?_
  obtain ⟨q1, hq1, h⟩ := sp_bind h
  refine at_callSi (st := []) hK mt_X8_numberOf ml_X8_9 (t_X8_numberOf hK hq1) rfl rfl (Nat.le_of_ble_eq_true rfl) ⟨Nat.le_of_ble_eq_true rfl, Nat.le_of_ble_eq_true rfl⟩ ⟨Nat.le_refl _, Nat.le_refl _⟩ dX8_together_2 ?_
  refine at_iload_n 0 dX8_together_5 rfl ?_
  refine at_iload_n 2 dX8_together_6 rfl ?_
  obtain ⟨q2, hq2, h⟩ := sp_bind h
  refine at_callSi (st := [.int q1]) hK mt_X8_numberOf ml_X8_9 (t_X8_numberOf hK hq2) rfl rfl (Nat.le_of_ble_eq_true rfl) ⟨Nat.le_of_ble_eq_true rfl, Nat.le_of_ble_eq_true rfl⟩ ⟨Nat.le_refl _, Nat.le_refl _⟩ dX8_together_7 ?_
  refine at_icmp_ne 17 dX8_together_10 (by decide) (fun c3 => ?_) (fun c3 => ?_)
  · rw [if_neg c3] at h
    refine at_iconst 0 dX8_together_17 ic_0 ?_
    cases h; exact at_zret rfl rfl (Nat.le_refl _) (Nat.le_refl _) ⟨rfl, rfl⟩ dX8_together_18
  · rw [if_pos c3] at h
    refine at_iconst 1 dX8_together_13 ic_1 ?_
    refine at_goto 18 dX8_together_14 (by decide) ?_
    cases h; exact at_zret rfl rfl (Nat.le_refl _) (Nat.le_refl _) ⟨rfl, rfl⟩ dX8_together_18
set_option maxRecDepth 100000 in
theorem t_X6_endsMeet {D : va_G} {b : Nat} {K : State → Heap → Prop} {sa : Nat → Nat} (hK : sx_Kk b K sa) {uG uN uD uR uF uP uL uT uA uM uH xA xB xC xD xE xF xG xH xI xJ xK xL uO : sx_C} {G : sx_H} {v1 : Int32} {res : Bool} (h : f_X6_endsMeet uN v1 = some res) : sx_Runs D b K yX6_endsMeet YX6_endsMeet (sx_rm 2) [.ref (b + 2), .int v1] (sx_hp b uG uN uD uR uF uP uL uT uA uM uH xA xB xC xD xE xF xG xH xI xJ xK xL uO G) (sx_Ex (some (.int (sp_b res))) (sx_hp b uG uN uD uR uF uP uL uT uA uM uH xA xB xC xD xE xF xG xH xI xJ xK xL uO G)) := by
  rw [f_X6_endsMeet] at h
  refine sx_run (by decide +kernel) rfl rfl (Nat.le_of_ble_eq_true rfl) ?_
  refine at_iload_n 1 dX6_endsMeet_0 rfl ?_
  refine at_aload_n 0 dX6_endsMeet_1 rfl ?_
  refine at_getf cl_X6 (by decide) fl_X6_25 hg_2 rfl dX6_endsMeet_2 ?_
  refine at_aload_n 0 dX6_endsMeet_5 rfl ?_
  refine at_getf cl_X6 (by decide) fl_X6_28 hg_2 rfl dX6_endsMeet_6 ?_
  obtain ⟨q1, hq1, h⟩ := sp_bind h
  refine at_callSi (st := []) hK mt_X8_together ml_X6_71 (t_X8_together hK hq1) rfl rfl (Nat.le_of_ble_eq_true rfl) ⟨Nat.le_of_ble_eq_true rfl, Nat.le_of_ble_eq_true rfl⟩ ⟨Nat.le_refl _, Nat.le_refl _⟩ dX6_endsMeet_9 ?_
  cases h; exact at_zret rfl (sp_bz _) (Nat.le_refl _) (Nat.le_refl _) ⟨rfl, rfl⟩ dX6_endsMeet_12
set_option maxRecDepth 100000 in
theorem t_X6_holder {D : va_G} {b : Nat} {K : State → Heap → Prop} {sa : Nat → Nat} (hK : sx_Kk b K sa) {N : Nat} {uG uN uD uR uF uP uL uT uA uM uH xA xB xC xD xE xF xG xH xI xJ xK xL uO : sx_C} {G : sx_H} {v1 : Int32} {v2 : Int32} {res : Int32} (h : f_X6_holder N uN v1 v2 = some res) : sx_Runs D b K yX6_holder YX6_holder (sx_rm 3) [.ref (b + 2), .int v1, .int v2] (sx_hp b uG uN uD uR uF uP uL uT uA uM uH xA xB xC xD xE xF xG xH xI xJ xK xL uO G) (sx_Ex (some (.int res)) (sx_hp b uG uN uD uR uF uP uL uT uA uM uH xA xB xC xD xE xF xG xH xI xJ xK xL uO G)) := by
  rw [f_X6_holder] at h
  refine sx_run (by decide +kernel) rfl rfl (Nat.le_of_ble_eq_true rfl) ?_
  refine at_aload_n 0 dX6_holder_0 rfl ?_
  refine at_aload_n 0 dX6_holder_1 rfl ?_
  refine at_iload_n 1 dX6_holder_2 rfl ?_
  obtain ⟨q1, hq1, h⟩ := sp_bind h
  refine at_callVi (st := [.ref (b + 2)]) hK mt_X6_placesBy ml_X6_75 cl_X6 hg_2 (t_X6_placesBy hK hq1) rfl rfl (Nat.le_of_ble_eq_true rfl) ⟨Nat.le_of_ble_eq_true rfl, Nat.le_of_ble_eq_true rfl⟩ ⟨Nat.le_refl _, Nat.le_refl _⟩ dX6_holder_3 ?_
  obtain ⟨q2, hq2, h⟩ := sp_bind h
  refine at_callVi (st := []) hK mt_X6_endsMeet ml_X6_79 cl_X6 hg_2 (t_X6_endsMeet hK hq2) rfl rfl (Nat.le_of_ble_eq_true rfl) ⟨Nat.le_of_ble_eq_true rfl, Nat.le_of_ble_eq_true rfl⟩ ⟨Nat.le_refl _, Nat.le_refl _⟩ dX6_holder_6 ?_
  refine at_zeq 14 dX6_holder_9 (by decide) (fun c3 => ?_) (fun c3 => ?_)
  · rw [if_neg c3] at h
    refine at_aload_n 0 dX6_holder_14 rfl ?_
    refine at_aload_n 0 dX6_holder_15 rfl ?_
    refine at_aload_n 0 dX6_holder_16 rfl ?_
    obtain ⟨q4, hq4, h⟩ := sp_bind h
    refine at_callVi (st := [.ref (b + 2), .ref (b + 2)]) hK mt_X6_all ml_X6_52 cl_X6 hg_2 (t_X6_all hK hq4) rfl rfl (Nat.le_of_ble_eq_true rfl) ⟨Nat.le_of_ble_eq_true rfl, Nat.le_of_ble_eq_true rfl⟩ ⟨Nat.le_refl _, Nat.le_refl _⟩ dX6_holder_17 ?_
    refine at_iload_n 2 dX6_holder_20 rfl ?_
    refine at_iconst (-1) dX6_holder_21 ic_m1 ?_
    refine at_ixor dX6_holder_22 ?_
    refine at_iand dX6_holder_23 ?_
    obtain ⟨q5, hq5, h⟩ := sp_bind h
    refine at_callVi (st := [.ref (b + 2)]) hK mt_X6_placesBy ml_X6_75 cl_X6 hg_2 (t_X6_placesBy hK hq5) rfl rfl (Nat.le_of_ble_eq_true rfl) ⟨Nat.le_of_ble_eq_true rfl, Nat.le_of_ble_eq_true rfl⟩ ⟨Nat.le_refl _, Nat.le_refl _⟩ dX6_holder_24 ?_
    obtain ⟨q6, hq6, h⟩ := sp_bind h
    refine at_callVi (st := []) hK mt_X6_endsMeet ml_X6_79 cl_X6 hg_2 (t_X6_endsMeet hK hq6) rfl rfl (Nat.le_of_ble_eq_true rfl) ⟨Nat.le_of_ble_eq_true rfl, Nat.le_of_ble_eq_true rfl⟩ ⟨Nat.le_refl _, Nat.le_refl _⟩ dX6_holder_27 ?_
    refine at_zeq 37 dX6_holder_30 (by decide) (fun c7 => ?_) (fun c7 => ?_)
    · rw [if_neg c7] at h
      refine at_iconst 1 dX6_holder_37 ic_1 ?_
      cases h; exact at_iret rfl (Nat.le_refl _) (Nat.le_refl _) ⟨rfl, rfl⟩ dX6_holder_38
    · rw [if_pos c7] at h
      refine at_iconst 2 dX6_holder_33 ic_2 ?_
      refine at_goto 38 dX6_holder_34 (by decide) ?_
      cases h; exact at_iret rfl (Nat.le_refl _) (Nat.le_refl _) ⟨rfl, rfl⟩ dX6_holder_38
  · rw [if_pos c3] at h
    refine at_iconst 0 dX6_holder_12 ic_0 ?_
    cases h; exact at_iret rfl (Nat.le_refl _) (Nat.le_refl _) ⟨rfl, rfl⟩ dX6_holder_13
set_option maxRecDepth 100000 in
theorem t_X11_isOver {D : va_G} {b : Nat} {K : State → Heap → Prop} {sa : Nat → Nat} (hK : sx_Kk b K sa) {N : Nat} {uG uN uD uR uF uP uL uT uA uM uH xA xB xC xD xE xF xG xH xI xJ xK xL uO : sx_C} {G : sx_H} {res : Bool} (h : f_X11_isOver N uG uN  = some res) : sx_Runs D b K yX11_isOver YX11_isOver (sx_rm 4) [.ref (b + 0)] (sx_hp b uG uN uD uR uF uP uL uT uA uM uH xA xB xC xD xE xF xG xH xI xJ xK xL uO G) (sx_Ex (some (.int (sp_b res))) (sx_hp b uG uN uD uR uF uP uL uT uA uM uH xA xB xC xD xE xF xG xH xI xJ xK xL uO G)) := by
  rw [f_X11_isOver] at h
  refine sx_run (by decide +kernel) rfl rfl (Nat.le_of_ble_eq_true rfl) ?_
  refine at_aload_n 0 dX11_isOver_0 rfl ?_
  refine at_getf cl_X11 (by decide) fl_X11_16 hg_0 rfl dX11_isOver_1 ?_
  refine at_aload_n 0 dX11_isOver_4 rfl ?_
  refine at_getf cl_X11 (by decide) fl_X11_91 hg_0 rfl dX11_isOver_5 ?_
  refine at_aload_n 0 dX11_isOver_8 rfl ?_
  refine at_getf cl_X11 (by decide) fl_X11_94 hg_0 rfl dX11_isOver_9 ?_
  obtain ⟨q1, hq1, h⟩ := sp_bind h
  refine at_callVi (st := []) hK mt_X6_holder ml_X11_181 cl_X6 hg_2 (t_X6_holder hK hq1) rfl rfl (Nat.le_of_ble_eq_true rfl) ⟨Nat.le_of_ble_eq_true rfl, Nat.le_of_ble_eq_true rfl⟩ ⟨Nat.le_refl _, Nat.le_refl _⟩ dX11_isOver_12 ?_
  refine at_iconst 2 dX11_isOver_15 ic_2 ?_
  refine at_icmp_eq 23 dX11_isOver_16 (by decide) (fun c2 => ?_) (fun c2 => ?_)
  · rw [if_pos c2] at h
    refine at_iconst 0 dX11_isOver_23 ic_0 ?_
    cases h; exact at_zret rfl rfl (Nat.le_refl _) (Nat.le_refl _) ⟨rfl, rfl⟩ dX11_isOver_24
  · rw [if_neg c2] at h
    refine at_iconst 1 dX11_isOver_19 ic_1 ?_
    refine at_goto 24 dX11_isOver_20 (by decide) ?_
    cases h; exact at_zret rfl rfl (Nat.le_refl _) (Nat.le_refl _) ⟨rfl, rfl⟩ dX11_isOver_24
set_option maxRecDepth 100000 in
theorem t_J9_floorMod_7cf53 {D : va_G} {b : Nat} {K : State → Heap → Prop} {sa : Nat → Nat} (hK : sx_Kk b K sa) {σ : sx_H} {v0 : Int32} {v1 : Int32} {res : Int32} (h : f_J9_floorMod_7cf53 v0 v1 = some res) : sx_Runs D b K yJ9_floorMod_7cf53 YJ9_floorMod_7cf53 (sx_rm 0) [.int v0, .int v1] σ (sx_Ex (some (.int res)) σ) := by
  rw [f_J9_floorMod_7cf53] at h
  refine sx_run (by decide +kernel) rfl rfl (Nat.le_of_ble_eq_true rfl) ?_
  refine at_iload_n 0 dJ9_floorMod_7cf53_0 rfl ?_
  refine at_iload_n 1 dJ9_floorMod_7cf53_1 rfl ?_
  obtain ⟨hz1, h⟩ := sp_chk h
  refine at_irem dJ9_floorMod_7cf53_2 hz1 ?_
  refine at_istore_n [(0, .int v0), (1, .int v1), (2, .int (sp_rem v0 v1))] dJ9_floorMod_7cf53_3 (Nat.le_of_ble_eq_true rfl) rfl ?_
  refine at_iload_n 0 dJ9_floorMod_7cf53_4 rfl ?_
  refine at_iload_n 1 dJ9_floorMod_7cf53_5 rfl ?_
  refine at_ixor dJ9_floorMod_7cf53_6 ?_
  refine at_if_ge 18 dJ9_floorMod_7cf53_7 (by decide) (fun c2 => ?_) (fun c2 => ?_)
  · rw [if_pos c2] at h
    refine at_iload_n 2 dJ9_floorMod_7cf53_18 rfl ?_
    cases h; exact at_iret rfl (Nat.le_refl _) (Nat.le_refl _) ⟨rfl, rfl⟩ dJ9_floorMod_7cf53_19
  · rw [if_neg c2] at h
    refine at_iload_n 2 dJ9_floorMod_7cf53_10 rfl ?_
    refine at_if_eq 18 dJ9_floorMod_7cf53_11 (by decide) (fun c3 => ?_) (fun c3 => ?_)
    · rw [if_pos c3] at h
      refine at_iload_n 2 dJ9_floorMod_7cf53_18 rfl ?_
      cases h; exact at_iret rfl (Nat.le_refl _) (Nat.le_refl _) ⟨rfl, rfl⟩ dJ9_floorMod_7cf53_19
    · rw [if_neg c3] at h
      refine at_iload_n 2 dJ9_floorMod_7cf53_14 rfl ?_
      refine at_iload_n 1 dJ9_floorMod_7cf53_15 rfl ?_
      refine at_iadd dJ9_floorMod_7cf53_16 ?_
      cases h; exact at_iret rfl (Nat.le_refl _) (Nat.le_refl _) ⟨rfl, rfl⟩ dJ9_floorMod_7cf53_17
set_option maxRecDepth 100000 in
theorem t_X2_slotOf {D : va_G} {b : Nat} {K : State → Heap → Prop} {sa : Nat → Nat} (hK : sx_Kk b K sa) {uG uN uD uR uF uP uL uT uA uM uH xA xB xC xD xE xF xG xH xI xJ xK xL uO : sx_C} {G : sx_H} {v1 : Int32} {res : Int32} (h : f_X2_slotOf uH v1 = some res) : sx_Runs D b K yX2_slotOf YX2_slotOf (sx_rm 1) [.ref (b + 36), .int v1] (sx_hp b uG uN uD uR uF uP uL uT uA uM uH xA xB xC xD xE xF xG xH xI xJ xK xL uO G) (sx_Ex (some (.int res)) (sx_hp b uG uN uD uR uF uP uL uT uA uM uH xA xB xC xD xE xF xG xH xI xJ xK xL uO G)) := by
  rw [f_X2_slotOf] at h
  refine sx_run (by decide +kernel) rfl rfl (Nat.le_of_ble_eq_true rfl) ?_
  refine at_aload_n 0 dX2_slotOf_0 rfl ?_
  refine at_getf cl_X2 (by decide) fl_X2_15 hg_36 rfl dX2_slotOf_1 ?_
  refine at_iload_n 1 dX2_slotOf_4 rfl ?_
  refine at_iadd dX2_slotOf_5 ?_
  refine at_bipush 40 dX2_slotOf_6 bp_40 ?_
  obtain ⟨q1, hq1, h⟩ := sp_bind h
  refine at_callSi (st := []) hK mt_J9_floorMod_7cf53 ml_X2_22 (t_J9_floorMod_7cf53 hK hq1) rfl rfl (Nat.le_of_ble_eq_true rfl) ⟨Nat.le_of_ble_eq_true rfl, Nat.le_of_ble_eq_true rfl⟩ ⟨Nat.le_refl _, Nat.le_refl _⟩ dX2_slotOf_8 ?_
  cases h; exact at_iret rfl (Nat.le_refl _) (Nat.le_refl _) ⟨rfl, rfl⟩ dX2_slotOf_11
set_option maxRecDepth 100000 in
theorem t_X2_add {D : va_G} {b : Nat} {K : State → Heap → Prop} {sa : Nat → Nat} (hK : sx_Kk b K sa) {uG uN uD uR uF uP uL uT uA uM xA xB xC xD xE xF xG xH xI xJ xK xL uO : sx_C} {G : sx_H} {v1 : Int32} {uH : sx_C} {res : sx_C} (h : f_X2_add v1 uH = some res) : sx_Runs D b K yX2_add YX2_add (sx_rm 2) [.ref (b + 36), .int v1] (sx_hp b uG uN uD uR uF uP uL uT uA uM uH xA xB xC xD xE xF xG xH xI xJ xK xL uO G) (sx_Ex none (sx_hp b uG uN uD uR uF uP uL uT uA uM res xA xB xC xD xE xF xG xH xI xJ xK xL uO G)) := by
  rw [f_X2_add] at h
  refine sx_run (by decide +kernel) rfl rfl (Nat.le_of_ble_eq_true rfl) ?_
  refine at_aload_n 0 dX2_add_0 rfl ?_
  refine at_getf cl_X2 (by decide) fl_X2_9 hg_36 rfl dX2_add_1 ?_
  refine at_aload_n 0 dX2_add_4 rfl ?_
  refine at_aload_n 0 dX2_add_5 rfl ?_
  refine at_getf cl_X2 (by decide) fl_X2_19 hg_36 rfl dX2_add_6 ?_
  obtain ⟨q1, hq1, h⟩ := sp_bind h
  refine at_callVi (st := [.ref (b + 37)]) hK mt_X2_slotOf ml_X2_28 cl_X2 hg_36 (t_X2_slotOf hK hq1) rfl rfl (Nat.le_of_ble_eq_true rfl) ⟨Nat.le_of_ble_eq_true rfl, Nat.le_of_ble_eq_true rfl⟩ ⟨Nat.le_refl _, Nat.le_refl _⟩ dX2_add_9 ?_
  refine at_iload_n 1 dX2_add_12 rfl ?_
  obtain ⟨hi2, h⟩ := sp_chk h
  refine at_iast hg_37 hi2 hs_37 dX2_add_13 ?_
  refine at_aload_n 0 dX2_add_14 rfl ?_
  refine at_getf cl_X2 (by decide) fl_X2_19 hg_36 rfl dX2_add_15 ?_
  refine at_bipush 40 dX2_add_18 bp_40 ?_
  refine at_icmp_ge 36 dX2_add_20 (by decide) (fun c3 => ?_) (fun c3 => ?_)
  · rw [if_pos c3] at h
    refine at_aload_n 0 dX2_add_36 rfl ?_
    refine at_aload_n 0 dX2_add_37 rfl ?_
    refine at_iconst 1 dX2_add_38 ic_1 ?_
    obtain ⟨q4, hq4, h⟩ := sp_bind h
    refine at_callVi (st := [.ref (b + 36)]) hK mt_X2_slotOf ml_X2_28 cl_X2 hg_36 (t_X2_slotOf hK hq4) rfl rfl (Nat.le_of_ble_eq_true rfl) ⟨Nat.le_of_ble_eq_true rfl, Nat.le_of_ble_eq_true rfl⟩ ⟨Nat.le_refl _, Nat.le_refl _⟩ dX2_add_39 ?_
    refine at_putf cl_X2 (by decide) fl_X2_15 rfl hg_36 rfl rfl (Nat.le_of_ble_eq_true rfl) hs_36_1 dX2_add_42 ?_
    cases h; exact at_vret rfl (Nat.le_refl _) (Nat.le_refl _) ⟨rfl, rfl⟩ dX2_add_45
  · rw [if_neg c3] at h
    refine at_aload_n 0 dX2_add_23 rfl ?_
    refine at_dup dX2_add_24 rfl ?_
    refine at_getf cl_X2 (by decide) fl_X2_19 hg_36 rfl dX2_add_25 ?_
    refine at_iconst 1 dX2_add_28 ic_1 ?_
    refine at_iadd dX2_add_29 ?_
    refine at_putf cl_X2 (by decide) fl_X2_19 rfl hg_36 rfl rfl (Nat.le_of_ble_eq_true rfl) hs_36_2 dX2_add_30 ?_
    refine at_goto 45 dX2_add_33 (by decide) ?_
    cases h; exact at_vret rfl (Nat.le_refl _) (Nat.le_refl _) ⟨rfl, rfl⟩ dX2_add_45
set_option maxRecDepth 100000 in
theorem t_X11_turn {D : va_G} {b : Nat} {K : State → Heap → Prop} {sa : Nat → Nat} (hK : sx_Kk b K sa) {uN uD uR uF uP uL uT uA uM xA xB xC xD xE xF xG xH xI xJ xK xL uO : sx_C} {G : sx_H} {v1 : Int32} {uG : sx_C} {uH : sx_C} {res : sx_C × sx_C} (h : f_X11_turn v1 uG uH = some res) : sx_Runs D b K yX11_turn YX11_turn (sx_rm 3) [.ref (b + 0), .int v1] (sx_hp b uG uN uD uR uF uP uL uT uA uM uH xA xB xC xD xE xF xG xH xI xJ xK xL uO G) (sx_Ex none (sx_hp b (res.1) uN uD uR uF uP uL uT uA uM (res.2) xA xB xC xD xE xF xG xH xI xJ xK xL uO G)) := by
  rw [f_X11_turn] at h
  refine sx_run (by decide +kernel) rfl rfl (Nat.le_of_ble_eq_true rfl) ?_
  refine at_aload_n 0 dX11_turn_0 rfl ?_
  refine at_getf cl_X11 (by decide) fl_X11_83 hg_0 rfl dX11_turn_1 ?_
  refine at_iload_n 1 dX11_turn_4 rfl ?_
  obtain ⟨q1, hq1, h⟩ := sp_bind h
  refine at_callVv (st := []) hK mt_X2_add ml_X11_341 cl_X2 hg_36 (t_X2_add hK hq1) rfl rfl (Nat.le_of_ble_eq_true rfl) ⟨Nat.le_of_ble_eq_true rfl, Nat.le_of_ble_eq_true rfl⟩ ⟨Nat.le_refl _, Nat.le_refl _⟩ dX11_turn_5 ?_
  refine at_aload_n 0 dX11_turn_8 rfl ?_
  refine at_iconst 1 dX11_turn_9 ic_1 ?_
  refine at_aload_n 0 dX11_turn_10 rfl ?_
  refine at_getf cl_X11 (by decide) fl_X11_97 hg_0 rfl dX11_turn_11 ?_
  refine at_isub dX11_turn_14 ?_
  refine at_putf cl_X11 (by decide) fl_X11_97 rfl hg_0 rfl rfl (Nat.le_of_ble_eq_true rfl) hs_0_14 dX11_turn_15 ?_
  cases h; exact at_vret rfl (Nat.le_refl _) (Nat.le_refl _) ⟨rfl, rfl⟩ dX11_turn_18
set_option maxRecDepth 100000 in
theorem t_X11_move_68 {D : va_G} {b : Nat} {K : State → Heap → Prop} {sa : Nat → Nat} (hK : sx_Kk b K sa) (N : Nat) {uN uD uR uF uP uL uT uA uM xA xB xC xD xE xF xG xH xI xJ xK xL uO : sx_C} {G : sx_H} (res : Int32 × sx_C × sx_C) : ∀ (v1 : Int32) (uG : sx_C) (uH : sx_C), f_X11_move_68 N uN v1 uG uH = some res → sx_At D b K YX11_move (sx_rm 5) (sx_Ex (some (.int res.1)) (sx_hp b (res.2.1) uN uD uR uF uP uL uT uA uM (res.2.2) xA xB xC xD xE xF xG xH xI xJ xK xL uO G)) 68 [(0, .ref (b + 0)), (1, .int v1)] [] (sx_hp b uG uN uD uR uF uP uL uT uA uM uH xA xB xC xD xE xF xG xH xI xJ xK xL uO G) 0 0 := by
  intro v1 uG uH h
  rw [f_X11_move_68] at h
  refine at_aload_n 0 dX11_move_68 rfl ?_
  refine at_iload_n 1 dX11_move_69 rfl ?_
  obtain ⟨q1, hq1, h⟩ := sp_bind h
  refine at_callVv (st := []) hK mt_X11_turn ml_X11_178 cl_X11 hg_0 (t_X11_turn hK hq1) rfl rfl (Nat.le_of_ble_eq_true rfl) ⟨Nat.le_of_ble_eq_true rfl, Nat.le_of_ble_eq_true rfl⟩ ⟨Nat.le_refl _, Nat.le_refl _⟩ dX11_move_70 ?_
  refine at_aload_n 0 dX11_move_73 rfl ?_
  refine at_getf cl_X11 (by decide) fl_X11_16 hg_0 rfl dX11_move_74 ?_
  refine at_aload_n 0 dX11_move_77 rfl ?_
  refine at_getf cl_X11 (by decide) fl_X11_91 hg_0 rfl dX11_move_78 ?_
  refine at_aload_n 0 dX11_move_81 rfl ?_
  refine at_getf cl_X11 (by decide) fl_X11_94 hg_0 rfl dX11_move_82 ?_
  obtain ⟨q2, hq2, h⟩ := sp_bind h
  refine at_callVi (st := []) hK mt_X6_holder ml_X11_181 cl_X6 hg_2 (t_X6_holder hK hq2) rfl rfl (Nat.le_of_ble_eq_true rfl) ⟨Nat.le_of_ble_eq_true rfl, Nat.le_of_ble_eq_true rfl⟩ ⟨Nat.le_refl _, Nat.le_refl _⟩ dX11_move_85 ?_
  cases h; exact at_iret rfl (Nat.le_refl _) (Nat.le_refl _) ⟨rfl, rfl⟩ dX11_move_88
set_option maxRecDepth 100000 in
theorem t_X11_move {D : va_G} {b : Nat} {K : State → Heap → Prop} {sa : Nat → Nat} (hK : sx_Kk b K sa) {N : Nat} {uN uD uR uF uP uL uT uA uM xA xB xC xD xE xF xG xH xI xJ xK xL uO : sx_C} {G : sx_H} {v1 : Int32} {uG : sx_C} {uH : sx_C} {res : Int32 × sx_C × sx_C} (h : f_X11_move N uN v1 uG uH = some res) : sx_Runs D b K yX11_move YX11_move (sx_rm 5) [.ref (b + 0), .int v1] (sx_hp b uG uN uD uR uF uP uL uT uA uM uH xA xB xC xD xE xF xG xH xI xJ xK xL uO G) (sx_Ex (some (.int res.1)) (sx_hp b (res.2.1) uN uD uR uF uP uL uT uA uM (res.2.2) xA xB xC xD xE xF xG xH xI xJ xK xL uO G)) := by
  rw [f_X11_move] at h
  refine sx_run (by decide +kernel) rfl rfl (Nat.le_of_ble_eq_true rfl) ?_
  refine at_aload_n 0 dX11_move_0 rfl ?_
  refine at_getf cl_X11 (by decide) fl_X11_16 hg_0 rfl dX11_move_1 ?_
  refine at_iload_n 1 dX11_move_4 rfl ?_
  obtain ⟨q3, hq3, h⟩ := sp_bind h
  refine at_callVi (st := []) hK mt_X6_isLine ml_X11_122 cl_X6 hg_2 (t_X6_isLine hK hq3) rfl rfl (Nat.le_of_ble_eq_true rfl) ⟨Nat.le_of_ble_eq_true rfl, Nat.le_of_ble_eq_true rfl⟩ ⟨Nat.le_refl _, Nat.le_refl _⟩ dX11_move_5 ?_
  refine at_zne 13 dX11_move_8 (by decide) (fun c4 => ?_) (fun c4 => ?_)
  · rw [if_pos c4] at h
    refine at_aload_n 0 dX11_move_13 rfl ?_
    refine at_iload_n 1 dX11_move_14 rfl ?_
    obtain ⟨q5, hq5, h⟩ := sp_bind h
    refine at_callVi (st := []) hK mt_X11_isOpen ml_X11_171 cl_X11 hg_0 (t_X11_isOpen hK hq5) rfl rfl (Nat.le_of_ble_eq_true rfl) ⟨Nat.le_of_ble_eq_true rfl, Nat.le_of_ble_eq_true rfl⟩ ⟨Nat.le_refl _, Nat.le_refl _⟩ dX11_move_15 ?_
    refine at_zne 24 dX11_move_18 (by decide) (fun c6 => ?_) (fun c6 => ?_)
    · rw [if_pos c6] at h
      refine at_aload_n 0 dX11_move_24 rfl ?_
      obtain ⟨q7, hq7, h⟩ := sp_bind h
      refine at_callVi (st := []) hK mt_X11_isOver ml_X11_174 cl_X11 hg_0 (t_X11_isOver hK hq7) rfl rfl (Nat.le_of_ble_eq_true rfl) ⟨Nat.le_of_ble_eq_true rfl, Nat.le_of_ble_eq_true rfl⟩ ⟨Nat.le_refl _, Nat.le_refl _⟩ dX11_move_25 ?_
      refine at_zeq 34 dX11_move_28 (by decide) (fun c8 => ?_) (fun c8 => ?_)
      · rw [if_neg c8] at h
        refine at_aload_n 0 dX11_move_34 rfl ?_
        refine at_getf cl_X11 (by decide) fl_X11_97 hg_0 rfl dX11_move_35 ?_
        refine at_if_ne 56 dX11_move_38 (by decide) (fun c9 => ?_) (fun c9 => ?_)
        · rw [if_neg c9] at h
          refine at_aload_n 0 dX11_move_56 rfl ?_
          refine at_dup dX11_move_57 rfl ?_
          refine at_getf cl_X11 (by decide) fl_X11_94 hg_0 rfl dX11_move_58 ?_
          refine at_iconst 1 dX11_move_61 ic_1 ?_
          refine at_iload_n 1 dX11_move_62 rfl ?_
          refine at_ishl dX11_move_63 ?_
          refine at_ior dX11_move_64 ?_
          refine at_putf cl_X11 (by decide) fl_X11_94 rfl hg_0 rfl rfl (Nat.le_of_ble_eq_true rfl) hs_0_13 dX11_move_65 ?_
          exact t_X11_move_68 hK N _ _ _ _ h
        · rw [if_pos c9] at h
          refine at_aload_n 0 dX11_move_41 rfl ?_
          refine at_dup dX11_move_42 rfl ?_
          refine at_getf cl_X11 (by decide) fl_X11_91 hg_0 rfl dX11_move_43 ?_
          refine at_iconst 1 dX11_move_46 ic_1 ?_
          refine at_iload_n 1 dX11_move_47 rfl ?_
          refine at_ishl dX11_move_48 ?_
          refine at_ior dX11_move_49 ?_
          refine at_putf cl_X11 (by decide) fl_X11_91 rfl hg_0 rfl rfl (Nat.le_of_ble_eq_true rfl) hs_0_12 dX11_move_50 ?_
          refine at_goto 68 dX11_move_53 (by decide) ?_
          exact t_X11_move_68 hK N _ _ _ _ h
      · rw [if_pos c8] at h
        refine at_bipush (-3) dX11_move_31 bp_m3 ?_
        cases h; exact at_iret rfl (Nat.le_refl _) (Nat.le_refl _) ⟨rfl, rfl⟩ dX11_move_33
    · rw [if_neg c6] at h
      refine at_bipush (-2) dX11_move_21 bp_m2 ?_
      cases h; exact at_iret rfl (Nat.le_refl _) (Nat.le_refl _) ⟨rfl, rfl⟩ dX11_move_23
  · rw [if_neg c4] at h
    refine at_iconst (-1) dX11_move_11 ic_m1 ?_
    cases h; exact at_iret rfl (Nat.le_refl _) (Nat.le_refl _) ⟨rfl, rfl⟩ dX11_move_12
set_option maxRecDepth 100000 in
theorem t_X11_pass {D : va_G} {b : Nat} {K : State → Heap → Prop} {sa : Nat → Nat} (hK : sx_Kk b K sa) {N : Nat} {uN uD uR uF uP uL uT uA uM xA xB xC xD xE xF xG xH xI xJ xK xL uO : sx_C} {G : sx_H} {uG : sx_C} {uH : sx_C} {res : Bool × sx_C × sx_C} (h : f_X11_pass N uN uG uH = some res) : sx_Runs D b K yX11_pass YX11_pass (sx_rm 5) [.ref (b + 0)] (sx_hp b uG uN uD uR uF uP uL uT uA uM uH xA xB xC xD xE xF xG xH xI xJ xK xL uO G) (sx_Ex (some (.int (sp_b res.1))) (sx_hp b (res.2.1) uN uD uR uF uP uL uT uA uM (res.2.2) xA xB xC xD xE xF xG xH xI xJ xK xL uO G)) := by
  rw [f_X11_pass] at h
  refine sx_run (by decide +kernel) rfl rfl (Nat.le_of_ble_eq_true rfl) ?_
  refine at_aload_n 0 dX11_pass_0 rfl ?_
  obtain ⟨q1, hq1, h⟩ := sp_bind h
  refine at_callVi (st := []) hK mt_X11_isOver ml_X11_174 cl_X11 hg_0 (t_X11_isOver hK hq1) rfl rfl (Nat.le_of_ble_eq_true rfl) ⟨Nat.le_of_ble_eq_true rfl, Nat.le_of_ble_eq_true rfl⟩ ⟨Nat.le_refl _, Nat.le_refl _⟩ dX11_pass_1 ?_
  refine at_zeq 9 dX11_pass_4 (by decide) (fun c2 => ?_) (fun c2 => ?_)
  · rw [if_neg c2] at h
    refine at_aload_n 0 dX11_pass_9 rfl ?_
    refine at_iconst (-1) dX11_pass_10 ic_m1 ?_
    obtain ⟨q3, hq3, h⟩ := sp_bind h
    refine at_callVv (st := []) hK mt_X11_turn ml_X11_178 cl_X11 hg_0 (t_X11_turn hK hq3) rfl rfl (Nat.le_of_ble_eq_true rfl) ⟨Nat.le_of_ble_eq_true rfl, Nat.le_of_ble_eq_true rfl⟩ ⟨Nat.le_refl _, Nat.le_refl _⟩ dX11_pass_11 ?_
    refine at_iconst 1 dX11_pass_14 ic_1 ?_
    cases h; exact at_zret rfl rfl (Nat.le_refl _) (Nat.le_refl _) ⟨rfl, rfl⟩ dX11_pass_15
  · rw [if_pos c2] at h
    refine at_iconst 0 dX11_pass_7 ic_0 ?_
    cases h; exact at_zret rfl rfl (Nat.le_refl _) (Nat.le_refl _) ⟨rfl, rfl⟩ dX11_pass_8
set_option maxRecDepth 100000 in
theorem t_X2_takeLatest {D : va_G} {b : Nat} {K : State → Heap → Prop} {sa : Nat → Nat} (hK : sx_Kk b K sa) {uG uN uD uR uF uP uL uT uA uM xA xB xC xD xE xF xG xH xI xJ xK xL uO : sx_C} {G : sx_H} {uH : sx_C} {res : Int32 × sx_C} (h : f_X2_takeLatest uH = some res) : sx_Runs D b K yX2_takeLatest YX2_takeLatest (sx_rm 2) [.ref (b + 36)] (sx_hp b uG uN uD uR uF uP uL uT uA uM uH xA xB xC xD xE xF xG xH xI xJ xK xL uO G) (sx_Ex (some (.int res.1)) (sx_hp b uG uN uD uR uF uP uL uT uA uM (res.2) xA xB xC xD xE xF xG xH xI xJ xK xL uO G)) := by
  rw [f_X2_takeLatest] at h
  refine sx_run (by decide +kernel) rfl rfl (Nat.le_of_ble_eq_true rfl) ?_
  refine at_aload_n 0 dX2_takeLatest_0 rfl ?_
  refine at_getf cl_X2 (by decide) fl_X2_19 hg_36 rfl dX2_takeLatest_1 ?_
  refine at_if_ne 9 dX2_takeLatest_4 (by decide) (fun c1 => ?_) (fun c1 => ?_)
  · rw [if_neg c1] at h
    refine at_aload_n 0 dX2_takeLatest_9 rfl ?_
    refine at_dup dX2_takeLatest_10 rfl ?_
    refine at_getf cl_X2 (by decide) fl_X2_19 hg_36 rfl dX2_takeLatest_11 ?_
    refine at_iconst 1 dX2_takeLatest_14 ic_1 ?_
    refine at_isub dX2_takeLatest_15 ?_
    refine at_putf cl_X2 (by decide) fl_X2_19 rfl hg_36 rfl rfl (Nat.le_of_ble_eq_true rfl) hs_36_2 dX2_takeLatest_16 ?_
    refine at_aload_n 0 dX2_takeLatest_19 rfl ?_
    refine at_getf cl_X2 (by decide) fl_X2_9 hg_36 rfl dX2_takeLatest_20 ?_
    refine at_aload_n 0 dX2_takeLatest_23 rfl ?_
    refine at_aload_n 0 dX2_takeLatest_24 rfl ?_
    refine at_getf cl_X2 (by decide) fl_X2_19 hg_36 rfl dX2_takeLatest_25 ?_
    obtain ⟨q2, hq2, h⟩ := sp_bind h
    refine at_callVi (st := [.ref (b + 37)]) hK mt_X2_slotOf ml_X2_28 cl_X2 hg_36 (t_X2_slotOf hK hq2) rfl rfl (Nat.le_of_ble_eq_true rfl) ⟨Nat.le_of_ble_eq_true rfl, Nat.le_of_ble_eq_true rfl⟩ ⟨Nat.le_refl _, Nat.le_refl _⟩ dX2_takeLatest_28 ?_
    obtain ⟨w3, hw3, h⟩ := sp_bind h
    refine at_iald hg_37 hw3 dX2_takeLatest_31 ?_
    cases h; exact at_iret rfl (Nat.le_refl _) (Nat.le_refl _) ⟨rfl, rfl⟩ dX2_takeLatest_32
  · rw [if_pos c1] at h
    refine at_iconst (-1) dX2_takeLatest_7 ic_m1 ?_
    cases h; exact at_iret rfl (Nat.le_refl _) (Nat.le_refl _) ⟨rfl, rfl⟩ dX2_takeLatest_8
set_option maxRecDepth 100000 in
theorem t_X11_undo {D : va_G} {b : Nat} {K : State → Heap → Prop} {sa : Nat → Nat} (hK : sx_Kk b K sa) {uN uD uR uF uP uL uT uA uM xA xB xC xD xE xF xG xH xI xJ xK xL uO : sx_C} {G : sx_H} {uG : sx_C} {uH : sx_C} {res : Int32 × sx_C × sx_C} (h : f_X11_undo uN uG uH = some res) : sx_Runs D b K yX11_undo YX11_undo (sx_rm 3) [.ref (b + 0)] (sx_hp b uG uN uD uR uF uP uL uT uA uM uH xA xB xC xD xE xF xG xH xI xJ xK xL uO G) (sx_Ex (some (.int res.1)) (sx_hp b (res.2.1) uN uD uR uF uP uL uT uA uM (res.2.2) xA xB xC xD xE xF xG xH xI xJ xK xL uO G)) := by
  rw [f_X11_undo] at h
  refine sx_run (by decide +kernel) rfl rfl (Nat.le_of_ble_eq_true rfl) ?_
  refine at_aload_n 0 dX11_undo_0 rfl ?_
  refine at_getf cl_X11 (by decide) fl_X11_83 hg_0 rfl dX11_undo_1 ?_
  refine at_getf cl_X2 (by decide) fl_X11_184 hg_36 rfl dX11_undo_4 ?_
  refine at_if_ne 12 dX11_undo_7 (by decide) (fun c1 => ?_) (fun c1 => ?_)
  · rw [if_neg c1] at h
    refine at_aload_n 0 dX11_undo_12 rfl ?_
    refine at_getf cl_X11 (by decide) fl_X11_83 hg_0 rfl dX11_undo_13 ?_
    obtain ⟨q2, hq2, h⟩ := sp_bind h
    refine at_callVi (st := []) hK mt_X2_takeLatest ml_X11_187 cl_X2 hg_36 (t_X2_takeLatest hK hq2) rfl rfl (Nat.le_of_ble_eq_true rfl) ⟨Nat.le_of_ble_eq_true rfl, Nat.le_of_ble_eq_true rfl⟩ ⟨Nat.le_refl _, Nat.le_refl _⟩ dX11_undo_16 ?_
    refine at_istore_n [(0, .ref (b + 0)), (1, .int (q2.1))] dX11_undo_19 (Nat.le_of_ble_eq_true rfl) rfl ?_
    refine at_aload_n 0 dX11_undo_20 rfl ?_
    refine at_iconst 1 dX11_undo_21 ic_1 ?_
    refine at_aload_n 0 dX11_undo_22 rfl ?_
    refine at_getf cl_X11 (by decide) fl_X11_97 hg_0 rfl dX11_undo_23 ?_
    refine at_isub dX11_undo_26 ?_
    refine at_putf cl_X11 (by decide) fl_X11_97 rfl hg_0 rfl rfl (Nat.le_of_ble_eq_true rfl) hs_0_14 dX11_undo_27 ?_
    refine at_aload_n 0 dX11_undo_30 rfl ?_
    refine at_getf cl_X11 (by decide) fl_X11_16 hg_0 rfl dX11_undo_31 ?_
    refine at_iload_n 1 dX11_undo_34 rfl ?_
    obtain ⟨q3, hq3, h⟩ := sp_bind h
    refine at_callVi (st := []) hK mt_X6_isLine ml_X11_122 cl_X6 hg_2 (t_X6_isLine hK hq3) rfl rfl (Nat.le_of_ble_eq_true rfl) ⟨Nat.le_of_ble_eq_true rfl, Nat.le_of_ble_eq_true rfl⟩ ⟨Nat.le_refl _, Nat.le_refl _⟩ dX11_undo_35 ?_
    refine at_zne 44 dX11_undo_38 (by decide) (fun c4 => ?_) (fun c4 => ?_)
    · rw [if_pos c4] at h
      refine at_aload_n 0 dX11_undo_44 rfl ?_
      refine at_dup dX11_undo_45 rfl ?_
      refine at_getf cl_X11 (by decide) fl_X11_91 hg_0 rfl dX11_undo_46 ?_
      refine at_iconst 1 dX11_undo_49 ic_1 ?_
      refine at_iload_n 1 dX11_undo_50 rfl ?_
      refine at_ishl dX11_undo_51 ?_
      refine at_iconst (-1) dX11_undo_52 ic_m1 ?_
      refine at_ixor dX11_undo_53 ?_
      refine at_iand dX11_undo_54 ?_
      refine at_putf cl_X11 (by decide) fl_X11_91 rfl hg_0 rfl rfl (Nat.le_of_ble_eq_true rfl) hs_0_12 dX11_undo_55 ?_
      refine at_aload_n 0 dX11_undo_58 rfl ?_
      refine at_dup dX11_undo_59 rfl ?_
      refine at_getf cl_X11 (by decide) fl_X11_94 hg_0 rfl dX11_undo_60 ?_
      refine at_iconst 1 dX11_undo_63 ic_1 ?_
      refine at_iload_n 1 dX11_undo_64 rfl ?_
      refine at_ishl dX11_undo_65 ?_
      refine at_iconst (-1) dX11_undo_66 ic_m1 ?_
      refine at_ixor dX11_undo_67 ?_
      refine at_iand dX11_undo_68 ?_
      refine at_putf cl_X11 (by decide) fl_X11_94 rfl hg_0 rfl rfl (Nat.le_of_ble_eq_true rfl) hs_0_13 dX11_undo_69 ?_
      refine at_iload_n 1 dX11_undo_72 rfl ?_
      cases h; exact at_iret rfl (Nat.le_refl _) (Nat.le_refl _) ⟨rfl, rfl⟩ dX11_undo_73
    · rw [if_neg c4] at h
      refine at_bipush (-2) dX11_undo_41 bp_m2 ?_
      cases h; exact at_iret rfl (Nat.le_refl _) (Nat.le_refl _) ⟨rfl, rfl⟩ dX11_undo_43
  · rw [if_pos c1] at h
    refine at_iconst (-1) dX11_undo_10 ic_m1 ?_
    cases h; exact at_iret rfl (Nat.le_refl _) (Nat.le_refl _) ⟨rfl, rfl⟩ dX11_undo_11
set_option maxRecDepth 100000 in
theorem t_X2_entry {D : va_G} {b : Nat} {K : State → Heap → Prop} {sa : Nat → Nat} (hK : sx_Kk b K sa) {uG uN uD uR uF uP uL uT uA uM uH xA xB xC xD xE xF xG xH xI xJ xK xL uO : sx_C} {G : sx_H} {v1 : Int32} {res : Int32} (h : f_X2_entry uH v1 = some res) : sx_Runs D b K yX2_entry YX2_entry (sx_rm 2) [.ref (b + 36), .int v1] (sx_hp b uG uN uD uR uF uP uL uT uA uM uH xA xB xC xD xE xF xG xH xI xJ xK xL uO G) (sx_Ex (some (.int res)) (sx_hp b uG uN uD uR uF uP uL uT uA uM uH xA xB xC xD xE xF xG xH xI xJ xK xL uO G)) := by
  rw [f_X2_entry] at h
  refine sx_run (by decide +kernel) rfl rfl (Nat.le_of_ble_eq_true rfl) ?_
  refine at_iload_n 1 dX2_entry_0 rfl ?_
  refine at_if_lt 25 dX2_entry_1 (by decide) (fun c1 => ?_) (fun c1 => ?_)
  · rw [if_pos c1] at h
    refine at_iconst (-1) dX2_entry_25 ic_m1 ?_
    cases h; exact at_iret rfl (Nat.le_refl _) (Nat.le_refl _) ⟨rfl, rfl⟩ dX2_entry_26
  · rw [if_neg c1] at h
    refine at_iload_n 1 dX2_entry_4 rfl ?_
    refine at_aload_n 0 dX2_entry_5 rfl ?_
    refine at_getf cl_X2 (by decide) fl_X2_19 hg_36 rfl dX2_entry_6 ?_
    refine at_icmp_ge 25 dX2_entry_9 (by decide) (fun c2 => ?_) (fun c2 => ?_)
    · rw [if_pos c2] at h
      refine at_iconst (-1) dX2_entry_25 ic_m1 ?_
      cases h; exact at_iret rfl (Nat.le_refl _) (Nat.le_refl _) ⟨rfl, rfl⟩ dX2_entry_26
    · rw [if_neg c2] at h
      refine at_aload_n 0 dX2_entry_12 rfl ?_
      refine at_getf cl_X2 (by decide) fl_X2_9 hg_36 rfl dX2_entry_13 ?_
      refine at_aload_n 0 dX2_entry_16 rfl ?_
      refine at_iload_n 1 dX2_entry_17 rfl ?_
      obtain ⟨q3, hq3, h⟩ := sp_bind h
      refine at_callVi (st := [.ref (b + 37)]) hK mt_X2_slotOf ml_X2_28 cl_X2 hg_36 (t_X2_slotOf hK hq3) rfl rfl (Nat.le_of_ble_eq_true rfl) ⟨Nat.le_of_ble_eq_true rfl, Nat.le_of_ble_eq_true rfl⟩ ⟨Nat.le_refl _, Nat.le_refl _⟩ dX2_entry_18 ?_
      obtain ⟨w4, hw4, h⟩ := sp_bind h
      refine at_iald hg_37 hw4 dX2_entry_21 ?_
      refine at_goto 26 dX2_entry_22 (by decide) ?_
      cases h; exact at_iret rfl (Nat.le_refl _) (Nat.le_refl _) ⟨rfl, rfl⟩ dX2_entry_26
set_option maxRecDepth 100000 in
theorem t_X11_written {D : va_G} {b : Nat} {K : State → Heap → Prop} {sa : Nat → Nat} (hK : sx_Kk b K sa) {uG uN uD uR uF uP uL uT uA uM uH xA xB xC xD xE xF xG xH xI xJ xK xL uO : sx_C} {G : sx_H} {v1 : Int32} {res : Int32} (h : f_X11_written uH v1 = some res) : sx_Runs D b K yX11_written YX11_written (sx_rm 3) [.ref (b + 0), .int v1] (sx_hp b uG uN uD uR uF uP uL uT uA uM uH xA xB xC xD xE xF xG xH xI xJ xK xL uO G) (sx_Ex (some (.int res)) (sx_hp b uG uN uD uR uF uP uL uT uA uM uH xA xB xC xD xE xF xG xH xI xJ xK xL uO G)) := by
  rw [f_X11_written] at h
  refine sx_run (by decide +kernel) rfl rfl (Nat.le_of_ble_eq_true rfl) ?_
  refine at_iload_n 1 dX11_written_0 rfl ?_
  refine at_if_ge 6 dX11_written_1 (by decide) (fun c1 => ?_) (fun c1 => ?_)
  · rw [if_pos c1] at h
    refine at_iload_n 1 dX11_written_6 rfl ?_
    refine at_aload_n 0 dX11_written_7 rfl ?_
    refine at_getf cl_X11 (by decide) fl_X11_83 hg_0 rfl dX11_written_8 ?_
    refine at_getf cl_X2 (by decide) fl_X11_184 hg_36 rfl dX11_written_11 ?_
    refine at_icmp_lt 20 dX11_written_14 (by decide) (fun c2 => ?_) (fun c2 => ?_)
    · rw [if_pos c2] at h
      refine at_aload_n 0 dX11_written_20 rfl ?_
      refine at_getf cl_X11 (by decide) fl_X11_83 hg_0 rfl dX11_written_21 ?_
      refine at_iload_n 1 dX11_written_24 rfl ?_
      obtain ⟨q3, hq3, h⟩ := sp_bind h
      refine at_callVi (st := []) hK mt_X2_entry ml_X11_190 cl_X2 hg_36 (t_X2_entry hK hq3) rfl rfl (Nat.le_of_ble_eq_true rfl) ⟨Nat.le_of_ble_eq_true rfl, Nat.le_of_ble_eq_true rfl⟩ ⟨Nat.le_refl _, Nat.le_refl _⟩ dX11_written_25 ?_
      refine at_istore_n [(0, .ref (b + 0)), (1, .int v1), (2, .int q3)] dX11_written_28 (Nat.le_of_ble_eq_true rfl) rfl ?_
      refine at_iload_n 2 dX11_written_29 rfl ?_
      refine at_iconst (-1) dX11_written_30 ic_m1 ?_
      refine at_icmp_ne 39 dX11_written_31 (by decide) (fun c4 => ?_) (fun c4 => ?_)
      · rw [if_neg c4] at h
        refine at_iload_n 2 dX11_written_39 rfl ?_
        cases h; exact at_iret rfl (Nat.le_refl _) (Nat.le_refl _) ⟨rfl, rfl⟩ dX11_written_40
      · rw [if_pos c4] at h
        refine at_bipush (-3) dX11_written_34 bp_m3 ?_
        refine at_goto 40 dX11_written_36 (by decide) ?_
        cases h; exact at_iret rfl (Nat.le_refl _) (Nat.le_refl _) ⟨rfl, rfl⟩ dX11_written_40
    · rw [if_neg c2] at h
      refine at_bipush (-2) dX11_written_17 bp_m2 ?_
      cases h; exact at_iret rfl (Nat.le_refl _) (Nat.le_refl _) ⟨rfl, rfl⟩ dX11_written_19
  · rw [if_neg c1] at h
    refine at_iconst (-1) dX11_written_4 ic_m1 ?_
    cases h; exact at_iret rfl (Nat.le_refl _) (Nat.le_refl _) ⟨rfl, rfl⟩ dX11_written_5
set_option maxRecDepth 100000 in
theorem t_J6_bitCount_0f7a4 {D : va_G} {b : Nat} {K : State → Heap → Prop} {sa : Nat → Nat} (hK : sx_Kk b K sa) {σ : sx_H} {v0 : Int32} {res : Int32} (h : f_J6_bitCount_0f7a4 v0 = some res) : sx_Runs D b K yJ6_bitCount_0f7a4 YJ6_bitCount_0f7a4 (sx_rm 0) [.int v0] σ (sx_Ex (some (.int res)) σ) := by
  rw [f_J6_bitCount_0f7a4] at h
  refine sx_run (by decide +kernel) rfl rfl (Nat.le_of_ble_eq_true rfl) ?_
  refine at_iload_n 0 dJ6_bitCount_0f7a4_0 rfl ?_
  refine at_iload_n 0 dJ6_bitCount_0f7a4_1 rfl ?_
  refine at_iconst 1 dJ6_bitCount_0f7a4_2 ic_1 ?_
  refine at_iushr dJ6_bitCount_0f7a4_3 ?_
  refine at_ldcw kn_J6_265 dJ6_bitCount_0f7a4_4 ?_
  refine at_iand dJ6_bitCount_0f7a4_7 ?_
  refine at_isub dJ6_bitCount_0f7a4_8 ?_
  refine at_istore_n [(0, .int (v0 - ((sp_ushr v0 1) &&& 1431655765)))] dJ6_bitCount_0f7a4_9 (Nat.le_of_ble_eq_true rfl) rfl ?_
  refine at_iload_n 0 dJ6_bitCount_0f7a4_10 rfl ?_
  refine at_ldcw kn_J6_266 dJ6_bitCount_0f7a4_11 ?_
  refine at_iand dJ6_bitCount_0f7a4_14 ?_
  refine at_iload_n 0 dJ6_bitCount_0f7a4_15 rfl ?_
  refine at_iconst 2 dJ6_bitCount_0f7a4_16 ic_2 ?_
  refine at_iushr dJ6_bitCount_0f7a4_17 ?_
  refine at_ldcw kn_J6_266 dJ6_bitCount_0f7a4_18 ?_
  refine at_iand dJ6_bitCount_0f7a4_21 ?_
  refine at_iadd dJ6_bitCount_0f7a4_22 ?_
  refine at_namei (fun y1 ey1 => ?_)
  have h := sp_letE ey1 h
  refine at_istore_n [(0, .int y1)] dJ6_bitCount_0f7a4_23 (Nat.le_of_ble_eq_true rfl) rfl ?_
  refine at_iload_n 0 dJ6_bitCount_0f7a4_24 rfl ?_
  refine at_iload_n 0 dJ6_bitCount_0f7a4_25 rfl ?_
  refine at_iconst 4 dJ6_bitCount_0f7a4_26 ic_4 ?_
  refine at_iushr dJ6_bitCount_0f7a4_27 ?_
  refine at_iadd dJ6_bitCount_0f7a4_28 ?_
  refine at_ldcw kn_J6_267 dJ6_bitCount_0f7a4_29 ?_
  refine at_iand dJ6_bitCount_0f7a4_32 ?_
  refine at_istore_n [(0, .int ((y1 + (sp_ushr y1 4)) &&& 252645135))] dJ6_bitCount_0f7a4_33 (Nat.le_of_ble_eq_true rfl) rfl ?_
  refine at_iload_n 0 dJ6_bitCount_0f7a4_34 rfl ?_
  refine at_iload_n 0 dJ6_bitCount_0f7a4_35 rfl ?_
  refine at_bipush 8 dJ6_bitCount_0f7a4_36 bp_8 ?_
  refine at_iushr dJ6_bitCount_0f7a4_38 ?_
  refine at_iadd dJ6_bitCount_0f7a4_39 ?_
  refine at_namei (fun y2 ey2 => ?_)
  have h := sp_letE ey2 h
  refine at_istore_n [(0, .int y2)] dJ6_bitCount_0f7a4_40 (Nat.le_of_ble_eq_true rfl) rfl ?_
  refine at_iload_n 0 dJ6_bitCount_0f7a4_41 rfl ?_
  refine at_iload_n 0 dJ6_bitCount_0f7a4_42 rfl ?_
  refine at_bipush 16 dJ6_bitCount_0f7a4_43 bp_16 ?_
  refine at_iushr dJ6_bitCount_0f7a4_45 ?_
  refine at_iadd dJ6_bitCount_0f7a4_46 ?_
  refine at_istore_n [(0, .int (y2 + (sp_ushr y2 16)))] dJ6_bitCount_0f7a4_47 (Nat.le_of_ble_eq_true rfl) rfl ?_
  refine at_iload_n 0 dJ6_bitCount_0f7a4_48 rfl ?_
  refine at_bipush 63 dJ6_bitCount_0f7a4_49 bp_63 ?_
  refine at_iand dJ6_bitCount_0f7a4_51 ?_
  cases h; exact at_iret rfl (Nat.le_refl _) (Nat.le_refl _) ⟨rfl, rfl⟩ dJ6_bitCount_0f7a4_52
set_option maxRecDepth 100000 in
theorem t_X8_heads_4 {D : va_G} {b : Nat} {K : State → Heap → Prop} {sa : Nat → Nat} (hK : sx_Kk b K sa) (N : Nat) {σ : sx_H} (res : Int32) : ∀ (n0 : Nat) (v0 : Int32) (v1 : Int32) (v2 : Int32) (v3 : Int32), f_X8_heads_4 N n0 v0 v1 v2 v3 = some res → sx_At D b K YX8_heads (sx_rm 1) (sx_Ex (some (.int res)) σ) 4 [(0, .int v0), (1, .int v1), (2, .int v2), (3, .int v3)] [] σ 0 0 := by
  intro n0
  induction n0 with
  | zero => intro _ _ _ _ h; cases h
  | succ n0 ih =>
    intro v0 v1 v2 v3 h
    rw [f_X8_heads_4] at h
    refine at_iload_n 3 dX8_heads_4 rfl ?_
    refine at_iload_n 1 dX8_heads_5 rfl ?_
    refine at_icmp_ge 31 dX8_heads_6 (by decide) (fun c1 => ?_) (fun c1 => ?_)
    · rw [if_pos c1] at h
      refine at_iload_n 2 dX8_heads_31 rfl ?_
      cases h; exact at_iret rfl (Nat.le_refl _) (Nat.le_refl _) ⟨rfl, rfl⟩ dX8_heads_32
    · rw [if_neg c1] at h
      refine at_iload_n 3 dX8_heads_9 rfl ?_
      refine at_bipush 8 dX8_heads_10 bp_8 ?_
      refine at_icmp_ge 31 dX8_heads_12 (by decide) (fun c2 => ?_) (fun c2 => ?_)
      · rw [if_pos c2] at h
        refine at_iload_n 2 dX8_heads_31 rfl ?_
        cases h; exact at_iret rfl (Nat.le_refl _) (Nat.le_refl _) ⟨rfl, rfl⟩ dX8_heads_32
      · rw [if_neg c2] at h
        refine at_iload_n 2 dX8_heads_15 rfl ?_
        refine at_iconst 1 dX8_heads_16 ic_1 ?_
        refine at_iload_n 0 dX8_heads_17 rfl ?_
        refine at_iload_n 3 dX8_heads_18 rfl ?_
        obtain ⟨q3, hq3, h⟩ := sp_bind h
        refine at_callSi (st := [.int 1, .int v2]) hK mt_X8_numberOf ml_X8_9 (t_X8_numberOf hK hq3) rfl rfl (Nat.le_of_ble_eq_true rfl) ⟨Nat.le_of_ble_eq_true rfl, Nat.le_of_ble_eq_true rfl⟩ ⟨Nat.le_refl _, Nat.le_refl _⟩ dX8_heads_19 ?_
        refine at_ishl dX8_heads_22 ?_
        refine at_ior dX8_heads_23 ?_
        refine at_istore_n [(0, .int v0), (1, .int v1), (2, .int (v2 ||| (sp_shl 1 q3))), (3, .int v3)] dX8_heads_24 (Nat.le_of_ble_eq_true rfl) rfl ?_
        refine at_iinc 3 1 [(0, .int v0), (1, .int v1), (2, .int (v2 ||| (sp_shl 1 q3))), (3, .int (v3 + 1))] dX8_heads_25 rfl ic_1 (Nat.le_of_ble_eq_true rfl) rfl ?_
        refine at_goto 4 dX8_heads_28 (by decide) ?_
        exact ih _ _ _ _ h
set_option maxRecDepth 100000 in
theorem t_X8_heads {D : va_G} {b : Nat} {K : State → Heap → Prop} {sa : Nat → Nat} (hK : sx_Kk b K sa) {N : Nat} {σ : sx_H} {v0 : Int32} {v1 : Int32} {res : Int32} (h : f_X8_heads N v0 v1 = some res) : sx_Runs D b K yX8_heads YX8_heads (sx_rm 1) [.int v0, .int v1] σ (sx_Ex (some (.int res)) σ) := by
  rw [f_X8_heads] at h
  refine sx_run (by decide +kernel) rfl rfl (Nat.le_of_ble_eq_true rfl) ?_
  refine at_iconst 0 dX8_heads_0 ic_0 ?_
  refine at_istore_n [(0, .int v0), (1, .int v1), (2, .int 0)] dX8_heads_1 (Nat.le_of_ble_eq_true rfl) rfl ?_
  refine at_iconst 0 dX8_heads_2 ic_0 ?_
  refine at_istore_n [(0, .int v0), (1, .int v1), (2, .int 0), (3, .int 0)] dX8_heads_3 (Nat.le_of_ble_eq_true rfl) rfl ?_
  exact t_X8_heads_4 hK N _ N _ _ _ _ h
set_option maxRecDepth 100000 in
theorem t_X11_now {D : va_G} {b : Nat} {K : State → Heap → Prop} {sa : Nat → Nat} (hK : sx_Kk b K sa) {N : Nat} {uG uN uD uR uF uP uL uT uA uM uH xA xB xC xD xE xF xG xH xI xJ xK xL uO : sx_C} {G : sx_H} {v1 : Int32} {res : Int32} (h : f_X11_now N uG uN uH v1 = some res) : sx_Runs D b K yX11_now YX11_now (sx_rm 4) [.ref (b + 0), .int v1] (sx_hp b uG uN uD uR uF uP uL uT uA uM uH xA xB xC xD xE xF xG xH xI xJ xK xL uO G) (sx_Ex (some (.int res)) (sx_hp b uG uN uD uR uF uP uL uT uA uM uH xA xB xC xD xE xF xG xH xI xJ xK xL uO G)) := by
  rw [f_X11_now] at h
  refine sx_run (by decide +kernel) rfl rfl (Nat.le_of_ble_eq_true rfl) ?_
  refine at_iload_n 1 dX11_now_0 rfl ?_
  by_cases c1 : v1 = 0
  · rw [if_pos c1] at h
    refine at_tbC c1 44 dX11_now_1 (by decide) (by decide) rfl (by decide) ?_
    refine at_aload_n 0 dX11_now_44 rfl ?_
    refine at_getf cl_X11 (by decide) fl_X11_97 hg_0 rfl dX11_now_45 ?_
    cases h; exact at_iret rfl (Nat.le_refl _) (Nat.le_refl _) ⟨rfl, rfl⟩ dX11_now_48
  · rw [if_neg c1] at h
    by_cases c2 : v1 = 1
    · rw [if_pos c2] at h
      refine at_tbC c2 49 dX11_now_1 (by decide) (by decide) rfl (by decide) ?_
      refine at_aload_n 0 dX11_now_49 rfl ?_
      refine at_getf cl_X11 (by decide) fl_X11_16 hg_0 rfl dX11_now_50 ?_
      refine at_aload_n 0 dX11_now_53 rfl ?_
      refine at_getf cl_X11 (by decide) fl_X11_91 hg_0 rfl dX11_now_54 ?_
      refine at_aload_n 0 dX11_now_57 rfl ?_
      refine at_getf cl_X11 (by decide) fl_X11_94 hg_0 rfl dX11_now_58 ?_
      obtain ⟨q3, hq3, h⟩ := sp_bind h
      refine at_callVi (st := []) hK mt_X6_holder ml_X11_181 cl_X6 hg_2 (t_X6_holder hK hq3) rfl rfl (Nat.le_of_ble_eq_true rfl) ⟨Nat.le_of_ble_eq_true rfl, Nat.le_of_ble_eq_true rfl⟩ ⟨Nat.le_refl _, Nat.le_refl _⟩ dX11_now_61 ?_
      cases h; exact at_iret rfl (Nat.le_refl _) (Nat.le_refl _) ⟨rfl, rfl⟩ dX11_now_64
    · rw [if_neg c2] at h
      by_cases c4 : v1 = 2
      · rw [if_pos c4] at h
        refine at_tbC c4 65 dX11_now_1 (by decide) (by decide) rfl (by decide) ?_
        refine at_aload_n 0 dX11_now_65 rfl ?_
        obtain ⟨q5, hq5, h⟩ := sp_bind h
        refine at_callVi (st := []) hK mt_X11_open ml_X11_193 cl_X11 hg_0 (t_X11_open hK hq5) rfl rfl (Nat.le_of_ble_eq_true rfl) ⟨Nat.le_of_ble_eq_true rfl, Nat.le_of_ble_eq_true rfl⟩ ⟨Nat.le_refl _, Nat.le_refl _⟩ dX11_now_66 ?_
        obtain ⟨q6, hq6, h⟩ := sp_bind h
        refine at_callSi (st := []) hK mt_J6_bitCount_0f7a4 ml_X11_196 (t_J6_bitCount_0f7a4 hK hq6) rfl rfl (Nat.le_of_ble_eq_true rfl) ⟨Nat.le_of_ble_eq_true rfl, Nat.le_of_ble_eq_true rfl⟩ ⟨Nat.le_refl _, Nat.le_refl _⟩ dX11_now_69 ?_
        cases h; exact at_iret rfl (Nat.le_refl _) (Nat.le_refl _) ⟨rfl, rfl⟩ dX11_now_72
      · rw [if_neg c4] at h
        by_cases c7 : v1 = 3
        · rw [if_pos c7] at h
          refine at_tbC c7 73 dX11_now_1 (by decide) (by decide) rfl (by decide) ?_
          refine at_aload_n 0 dX11_now_73 rfl ?_
          refine at_getf cl_X11 (by decide) fl_X11_91 hg_0 rfl dX11_now_74 ?_
          obtain ⟨q8, hq8, h⟩ := sp_bind h
          refine at_callSi (st := []) hK mt_J6_bitCount_0f7a4 ml_X11_196 (t_J6_bitCount_0f7a4 hK hq8) rfl rfl (Nat.le_of_ble_eq_true rfl) ⟨Nat.le_of_ble_eq_true rfl, Nat.le_of_ble_eq_true rfl⟩ ⟨Nat.le_refl _, Nat.le_refl _⟩ dX11_now_77 ?_
          cases h; exact at_iret rfl (Nat.le_refl _) (Nat.le_refl _) ⟨rfl, rfl⟩ dX11_now_80
        · rw [if_neg c7] at h
          by_cases c9 : v1 = 4
          · rw [if_pos c9] at h
            refine at_tbC c9 81 dX11_now_1 (by decide) (by decide) rfl (by decide) ?_
            refine at_aload_n 0 dX11_now_81 rfl ?_
            refine at_getf cl_X11 (by decide) fl_X11_94 hg_0 rfl dX11_now_82 ?_
            obtain ⟨q10, hq10, h⟩ := sp_bind h
            refine at_callSi (st := []) hK mt_J6_bitCount_0f7a4 ml_X11_196 (t_J6_bitCount_0f7a4 hK hq10) rfl rfl (Nat.le_of_ble_eq_true rfl) ⟨Nat.le_of_ble_eq_true rfl, Nat.le_of_ble_eq_true rfl⟩ ⟨Nat.le_refl _, Nat.le_refl _⟩ dX11_now_85 ?_
            cases h; exact at_iret rfl (Nat.le_refl _) (Nat.le_refl _) ⟨rfl, rfl⟩ dX11_now_88
          · rw [if_neg c9] at h
            by_cases c11 : v1 = 5
            · rw [if_pos c11] at h
              refine at_tbC c11 89 dX11_now_1 (by decide) (by decide) rfl (by decide) ?_
              refine at_aload_n 0 dX11_now_89 rfl ?_
              refine at_getf cl_X11 (by decide) fl_X11_16 hg_0 rfl dX11_now_90 ?_
              refine at_aload_n 0 dX11_now_93 rfl ?_
              refine at_getf cl_X11 (by decide) fl_X11_91 hg_0 rfl dX11_now_94 ?_
              obtain ⟨q12, hq12, h⟩ := sp_bind h
              refine at_callVi (st := []) hK mt_X6_placesBy ml_X11_151 cl_X6 hg_2 (t_X6_placesBy hK hq12) rfl rfl (Nat.le_of_ble_eq_true rfl) ⟨Nat.le_of_ble_eq_true rfl, Nat.le_of_ble_eq_true rfl⟩ ⟨Nat.le_refl _, Nat.le_refl _⟩ dX11_now_97 ?_
              refine at_aload_n 0 dX11_now_100 rfl ?_
              refine at_getf cl_X11 (by decide) fl_X11_16 hg_0 rfl dX11_now_101 ?_
              refine at_getf cl_X6 (by decide) fl_X11_164 hg_2 rfl dX11_now_104 ?_
              obtain ⟨q13, hq13, h⟩ := sp_bind h
              refine at_callSi (st := []) hK mt_X8_heads ml_X11_201 (t_X8_heads hK hq13) rfl rfl (Nat.le_of_ble_eq_true rfl) ⟨Nat.le_of_ble_eq_true rfl, Nat.le_of_ble_eq_true rfl⟩ ⟨Nat.le_refl _, Nat.le_refl _⟩ dX11_now_107 ?_
              obtain ⟨q14, hq14, h⟩ := sp_bind h
              refine at_callSi (st := []) hK mt_J6_bitCount_0f7a4 ml_X11_196 (t_J6_bitCount_0f7a4 hK hq14) rfl rfl (Nat.le_of_ble_eq_true rfl) ⟨Nat.le_of_ble_eq_true rfl, Nat.le_of_ble_eq_true rfl⟩ ⟨Nat.le_refl _, Nat.le_refl _⟩ dX11_now_110 ?_
              cases h; exact at_iret rfl (Nat.le_refl _) (Nat.le_refl _) ⟨rfl, rfl⟩ dX11_now_113
            · rw [if_neg c11] at h
              by_cases c15 : v1 = 6
              · rw [if_pos c15] at h
                refine at_tbC c15 114 dX11_now_1 (by decide) (by decide) rfl (by decide) ?_
                refine at_aload_n 0 dX11_now_114 rfl ?_
                refine at_getf cl_X11 (by decide) fl_X11_83 hg_0 rfl dX11_now_115 ?_
                refine at_getf cl_X2 (by decide) fl_X11_184 hg_36 rfl dX11_now_118 ?_
                cases h; exact at_iret rfl (Nat.le_refl _) (Nat.le_refl _) ⟨rfl, rfl⟩ dX11_now_121
              · rw [if_neg c15] at h
                refine at_tbOut 122 dX11_now_1 (by have e0 := sp_ne (0) (by decide) c1; have e1 := sp_ne (1) (by decide) c2; have e2 := sp_ne (2) (by decide) c4; have e3 := sp_ne (3) (by decide) c7; have e4 := sp_ne (4) (by decide) c9; have e5 := sp_ne (5) (by decide) c11; have e6 := sp_ne (6) (by decide) c15; omega) (by decide) ?_
                refine at_iconst (-1) dX11_now_122 ic_m1 ?_
                cases h; exact at_iret rfl (Nat.le_refl _) (Nat.le_refl _) ⟨rfl, rfl⟩ dX11_now_123
set_option maxRecDepth 100000 in
theorem t_X0_driven_54 {D : va_G} {b : Nat} {K : State → Heap → Prop} {sa : Nat → Nat} (hK : sx_Kk b K sa) (N : Nat) {k6 : Int32 → Int32 → Int32 → Int32 → sx_C → Option (Int32 × sx_C)} {uG uN uD uR uP uL uT uA uM uH xA xB xC xD xE xF xG xH xI xJ xK xL uO : sx_C} {G : sx_H} (res : Int32 × sx_C) (hk6 : ∀ (v1 : Int32) (v2 : Int32) (v4 : Int32) (v5 : Int32) (uF : sx_C), k6 v1 v2 v4 v5 uF = some res → sx_At D b K YX0_driven (sx_rm 0) (sx_Ex (some (.int res.1)) (sx_hp b uG uN uD uR (res.2) uP uL uT uA uM uH xA xB xC xD xE xF xG xH xI xJ xK xL uO G)) 6 [(0, .ref (b + 9)), (1, .int v1), (2, .int v2), (4, .int v4), (5, .int v5)] [] (sx_hp b uG uN uD uR uF uP uL uT uA uM uH xA xB xC xD xE xF xG xH xI xJ xK xL uO G) 0 0) : ∀ (v1 : Int32) (v2 : Int32) (v4 : Int32) (v5 : Int32) (uF : sx_C), f_X0_driven_54 N k6 v1 v2 v4 v5 uF = some res → sx_At D b K YX0_driven (sx_rm 0) (sx_Ex (some (.int res.1)) (sx_hp b uG uN uD uR (res.2) uP uL uT uA uM uH xA xB xC xD xE xF xG xH xI xJ xK xL uO G)) 54 [(0, .ref (b + 9)), (1, .int v1), (2, .int v2), (4, .int v4), (5, .int v5)] [] (sx_hp b uG uN uD uR uF uP uL uT uA uM uH xA xB xC xD xE xF xG xH xI xJ xK xL uO G) 0 0 := by
  intro v1 v2 v4 v5 uF h
  rw [f_X0_driven_54] at h
  refine at_iinc 4 1 [(0, .ref (b + 9)), (1, .int v1), (2, .int v2), (4, .int v4), (5, .int (v5 + 1))] dX0_driven_54 rfl ic_1 (Nat.le_of_ble_eq_true rfl) rfl ?_
  refine at_goto 6 dX0_driven_57 (by decide) ?_
  exact hk6 _ _ _ _ _ h
set_option maxRecDepth 100000 in
theorem t_X0_driven_6 {D : va_G} {b : Nat} {K : State → Heap → Prop} {sa : Nat → Nat} (hK : sx_Kk b K sa) (N : Nat) {uG uN uD uR uP uL uT uA uM uH xA xB xC xD xE xF xG xH xI xJ xK xL uO : sx_C} {G : sx_H} (res : Int32 × sx_C) : ∀ (n0 : Nat) (v1 : Int32) (v2 : Int32) (v4 : Int32) (v5 : Int32) (uF : sx_C), f_X0_driven_6 N n0 v1 v2 v4 v5 uF = some res → sx_At D b K YX0_driven (sx_rm 0) (sx_Ex (some (.int res.1)) (sx_hp b uG uN uD uR (res.2) uP uL uT uA uM uH xA xB xC xD xE xF xG xH xI xJ xK xL uO G)) 6 [(0, .ref (b + 9)), (1, .int v1), (2, .int v2), (4, .int v4), (5, .int v5)] [] (sx_hp b uG uN uD uR uF uP uL uT uA uM uH xA xB xC xD xE xF xG xH xI xJ xK xL uO G) 0 0 := by
  intro n0
  induction n0 with
  | zero => intro _ _ _ _ _ h; cases h
  | succ n0 ih =>
    intro v1 v2 v4 v5 uF h
    rw [f_X0_driven_6] at h
    refine at_iload 4 dX0_driven_6 rfl ?_
    refine at_bipush 17 dX0_driven_8 bp_17 ?_
    refine at_icmp_ge 60 dX0_driven_10 (by decide) (fun c1 => ?_) (fun c1 => ?_)
    · rw [if_pos c1] at h
      refine at_iload 3 dX0_driven_60 rfl ?_
      cases h; exact at_iret rfl (Nat.le_refl _) (Nat.le_refl _) ⟨rfl, rfl⟩ dX0_driven_62
    · rw [if_neg c1] at h
      refine at_iload_n 1 dX0_driven_13 rfl ?_
      refine at_iload 4 dX0_driven_14 rfl ?_
      refine at_iushr dX0_driven_16 ?_
      refine at_iconst 1 dX0_driven_17 ic_1 ?_
      refine at_iand dX0_driven_18 ?_
      refine at_if_eq 54 dX0_driven_19 (by decide) (fun c2 => ?_) (fun c2 => ?_)
      · rw [if_pos c2] at h
        exact t_X0_driven_54 hK N _ ih _ _ _ _ _ h
      · rw [if_neg c2] at h
        refine at_iload 3 dX0_driven_22 rfl ?_
        refine at_if_lt 54 dX0_driven_24 (by decide) (fun c3 => ?_) (fun c3 => ?_)
        · rw [if_pos c3] at h
          exact t_X0_driven_54 hK N _ ih _ _ _ _ _ h
        · rw [if_neg c3] at h
          refine at_iload 3 dX0_driven_27 rfl ?_
          refine at_bipush 17 dX0_driven_29 bp_17 ?_
          refine at_icmp_ge 54 dX0_driven_31 (by decide) (fun c4 => ?_) (fun c4 => ?_)
          · rw [if_pos c4] at h
            exact t_X0_driven_54 hK N _ ih _ _ _ _ _ h
          · rw [if_neg c4] at h
            refine at_aload_n 0 dX0_driven_34 rfl ?_
            refine at_getf cl_X0 (by decide) fl_X0_18 hg_9 rfl dX0_driven_35 ?_
            refine at_iload 4 dX0_driven_38 rfl ?_
            refine at_iload_n 2 dX0_driven_40 rfl ?_
            obtain ⟨hi5, h⟩ := sp_chk h
            refine at_iast hg_12 hi5 hs_12 dX0_driven_41 ?_
            refine at_aload_n 0 dX0_driven_42 rfl ?_
            refine at_getf cl_X0 (by decide) fl_X0_21 hg_9 rfl dX0_driven_43 ?_
            refine at_iload 3 dX0_driven_46 rfl ?_
            refine at_iload 4 dX0_driven_48 rfl ?_
            obtain ⟨hi6, h⟩ := sp_chk h
            refine at_iast hg_13 hi6 hs_13 dX0_driven_50 ?_
            refine at_iinc 3 1 [(0, .ref (b + 9)), (1, .int v1), (2, .int v2), (4, .int (v4 + 1)), (5, .int v5)] dX0_driven_51 rfl ic_1 (Nat.le_of_ble_eq_true rfl) rfl ?_
            exact t_X0_driven_54 hK N _ ih _ _ _ _ _ h
set_option maxRecDepth 100000 in
theorem t_X0_driven {D : va_G} {b : Nat} {K : State → Heap → Prop} {sa : Nat → Nat} (hK : sx_Kk b K sa) {N : Nat} {uG uN uD uR uP uL uT uA uM uH xA xB xC xD xE xF xG xH xI xJ xK xL uO : sx_C} {G : sx_H} {v1 : Int32} {v2 : Int32} {v3 : Int32} {uF : sx_C} {res : Int32 × sx_C} (h : f_X0_driven N v1 v2 v3 uF = some res) : sx_Runs D b K yX0_driven YX0_driven (sx_rm 0) [.ref (b + 9), .int v1, .int v2, .int v3] (sx_hp b uG uN uD uR uF uP uL uT uA uM uH xA xB xC xD xE xF xG xH xI xJ xK xL uO G) (sx_Ex (some (.int res.1)) (sx_hp b uG uN uD uR (res.2) uP uL uT uA uM uH xA xB xC xD xE xF xG xH xI xJ xK xL uO G)) := by
  rw [f_X0_driven] at h
  refine sx_run (by decide +kernel) rfl rfl (Nat.le_of_ble_eq_true rfl) ?_
  refine at_iload_n 3 dX0_driven_0 rfl ?_
  refine at_istore [(0, .ref (b + 9)), (1, .int v1), (2, .int v2), (3, .int v3), (4, .int v3)] dX0_driven_1 (Nat.le_of_ble_eq_true rfl) rfl ?_
  refine at_iconst 0 dX0_driven_3 ic_0 ?_
  refine at_istore [(0, .ref (b + 9)), (1, .int v1), (2, .int v2), (3, .int v3), (4, .int v3), (5, .int 0)] dX0_driven_4 (Nat.le_of_ble_eq_true rfl) rfl ?_
  refine at_sub [0, 1, 2, 4, 5] [(0, .ref (b + 9)), (1, .int v1), (2, .int v2), (4, .int v3), (5, .int 0)] rfl ?_
  exact t_X0_driven_6 hK N _ N _ _ _ _ _ h
set_option maxRecDepth 100000 in
theorem t_X0_ring_284 {D : va_G} {b : Nat} {K : State → Heap → Prop} {sa : Nat → Nat} (hK : sx_Kk b K sa) (N : Nat) {k202 : Int32 → Int32 → Int32 → Int32 → sx_C → Option (Int32 × sx_C)} {uG uN uD uR uP uL uT uA uM uH xA xB xC xD xE xF xG xH xI xJ xK xL uO : sx_C} {G : sx_H} (res : Int32 × sx_C) (hk202 : ∀ (v2 : Int32) (v5 : Int32) (v6 : Int32) (v7 : Int32) (uF : sx_C), k202 v2 v5 v6 v7 uF = some res → sx_At D b K YX0_ring (sx_rm 0) (sx_Ex (some (.int res.1)) (sx_hp b uG uN uD uR (res.2) uP uL uT uA uM uH xA xB xC xD xE xF xG xH xI xJ xK xL uO G)) 202 [(0, .ref (b + 9)), (2, .int v2), (5, .int v5), (6, .int v6), (7, .int v7)] [] (sx_hp b uG uN uD uR uF uP uL uT uA uM uH xA xB xC xD xE xF xG xH xI xJ xK xL uO G) 0 0) : ∀ (v2 : Int32) (v5 : Int32) (v7 : Int32) (s0 : Int32) (uF : sx_C), f_X0_ring_284 N k202 v2 v5 v7 s0 uF = some res → sx_At D b K YX0_ring (sx_rm 0) (sx_Ex (some (.int res.1)) (sx_hp b uG uN uD uR (res.2) uP uL uT uA uM uH xA xB xC xD xE xF xG xH xI xJ xK xL uO G)) 284 [(0, .ref (b + 9)), (2, .int v2), (5, .int v5), (7, .int v7)] [.int s0] (sx_hp b uG uN uD uR uF uP uL uT uA uM uH xA xB xC xD xE xF xG xH xI xJ xK xL uO G) 0 0 := by
  intro v2 v5 v7 s0 uF h
  rw [f_X0_ring_284] at h
  refine at_istore [(0, .ref (b + 9)), (2, .int v2), (5, .int v5), (6, .int s0), (7, .int v7)] dX0_ring_284 (Nat.le_of_ble_eq_true rfl) rfl ?_
  refine at_iinc 4 1 [(0, .ref (b + 9)), (2, .int v2), (5, .int v5), (6, .int s0), (7, .int (v7 + 1))] dX0_ring_286 rfl ic_1 (Nat.le_of_ble_eq_true rfl) rfl ?_
  refine at_goto 202 dX0_ring_289 (by decide) ?_
  exact hk202 _ _ _ _ _ h
set_option maxRecDepth 100000 in
theorem t_X0_ring_202 {D : va_G} {b : Nat} {K : State → Heap → Prop} {sa : Nat → Nat} (hK : sx_Kk b K sa) (N : Nat) {uG uN uD uR uP uL uT uA uM uH xA xB xC xD xE xF xG xH xI xJ xK xL uO : sx_C} {G : sx_H} (res : Int32 × sx_C) : ∀ (n0 : Nat) (v2 : Int32) (v5 : Int32) (v6 : Int32) (v7 : Int32) (uF : sx_C), f_X0_ring_202 N n0 v2 v5 v6 v7 uF = some res → sx_At D b K YX0_ring (sx_rm 0) (sx_Ex (some (.int res.1)) (sx_hp b uG uN uD uR (res.2) uP uL uT uA uM uH xA xB xC xD xE xF xG xH xI xJ xK xL uO G)) 202 [(0, .ref (b + 9)), (2, .int v2), (5, .int v5), (6, .int v6), (7, .int v7)] [] (sx_hp b uG uN uD uR uF uP uL uT uA uM uH xA xB xC xD xE xF xG xH xI xJ xK xL uO G) 0 0 := by
  intro n0
  induction n0 with
  | zero => intro _ _ _ _ _ h; cases h
  | succ n0 ih =>
    intro v2 v5 v6 v7 uF h
    rw [f_X0_ring_202] at h
    refine at_iload 4 dX0_ring_202 rfl ?_
    refine at_bipush 8 dX0_ring_204 bp_8 ?_
    refine at_icmp_ge 292 dX0_ring_206 (by decide) (fun c16 => ?_) (fun c16 => ?_)
    · rw [if_pos c16] at h
      refine at_iload 2 dX0_ring_292 rfl ?_
      cases h; exact at_iret rfl (Nat.le_refl _) (Nat.le_refl _) ⟨rfl, rfl⟩ dX0_ring_294
    · rw [if_neg c16] at h
      refine at_iload 3 dX0_ring_209 rfl ?_
      refine at_aload_n 0 dX0_ring_211 rfl ?_
      refine at_getf cl_X0 (by decide) fl_X0_11 hg_9 rfl dX0_ring_212 ?_
      refine at_iload_n 1 dX0_ring_215 rfl ?_
      obtain ⟨w17, hw17, h⟩ := sp_bind h
      refine at_iald hg_10 hw17 dX0_ring_216 ?_
      refine at_icmp_eq 292 dX0_ring_217 (by decide) (fun c18 => ?_) (fun c18 => ?_)
      · rw [if_pos c18] at h
        refine at_iload 2 dX0_ring_292 rfl ?_
        cases h; exact at_iret rfl (Nat.le_refl _) (Nat.le_refl _) ⟨rfl, rfl⟩ dX0_ring_294
      · rw [if_neg c18] at h
        refine at_aload_n 0 dX0_ring_220 rfl ?_
        refine at_getf cl_X0 (by decide) fl_X0_24 hg_9 rfl dX0_ring_221 ?_
        refine at_iload 3 dX0_ring_224 rfl ?_
        refine at_bipush 7 dX0_ring_226 bp_7 ?_
        refine at_iand dX0_ring_228 ?_
        obtain ⟨w19, hw19, h⟩ := sp_bind h
        refine at_iald hg_14 hw19 dX0_ring_229 ?_
        refine at_istore [(0, .ref (b + 9)), (2, .int v2), (5, .int v5), (6, .int v6), (7, .int v7), (8, .int w19)] dX0_ring_230 (Nat.le_of_ble_eq_true rfl) rfl ?_
        refine at_iload 5 dX0_ring_232 rfl ?_
        refine at_if_lt 244 dX0_ring_234 (by decide) (fun c20 => ?_) (fun c20 => ?_)
        · rw [if_pos c20] at h
          refine at_iconst (-1) dX0_ring_244 ic_m1 ?_
          cases h; exact at_iret rfl (Nat.le_refl _) (Nat.le_refl _) ⟨rfl, rfl⟩ dX0_ring_245
        · rw [if_neg c20] at h
          refine at_iload 5 dX0_ring_237 rfl ?_
          refine at_bipush 17 dX0_ring_239 bp_17 ?_
          refine at_icmp_lt 246 dX0_ring_241 (by decide) (fun c21 => ?_) (fun c21 => ?_)
          · rw [if_pos c21] at h
            refine at_iload 2 dX0_ring_246 rfl ?_
            refine at_iconst 1 dX0_ring_248 ic_1 ?_
            refine at_iload 5 dX0_ring_249 rfl ?_
            refine at_ishl dX0_ring_251 ?_
            refine at_ior dX0_ring_252 ?_
            refine at_istore [(0, .ref (b + 9)), (2, .int v2), (5, .int (v5 ||| (sp_shl 1 w19))), (6, .int v6), (7, .int v7), (8, .int w19)] dX0_ring_253 (Nat.le_of_ble_eq_true rfl) rfl ?_
            refine at_aload_n 0 dX0_ring_255 rfl ?_
            refine at_getf cl_X0 (by decide) fl_X0_11 hg_9 rfl dX0_ring_256 ?_
            refine at_iload 5 dX0_ring_259 rfl ?_
            obtain ⟨w22, hw22, h⟩ := sp_bind h
            refine at_iald hg_10 hw22 dX0_ring_261 ?_
            refine at_iload 3 dX0_ring_262 rfl ?_
            refine at_icmp_ne 277 dX0_ring_264 (by decide) (fun c23 => ?_) (fun c23 => ?_)
            · rw [if_neg c23] at h
              refine at_aload_n 0 dX0_ring_277 rfl ?_
              refine at_getf cl_X0 (by decide) fl_X0_11 hg_9 rfl dX0_ring_278 ?_
              refine at_iload 5 dX0_ring_281 rfl ?_
              obtain ⟨w24, hw24, h⟩ := sp_bind h
              refine at_iald hg_10 hw24 dX0_ring_283 ?_
              refine at_sub [0, 1, 2, 4] [(0, .ref (b + 9)), (2, .int v2), (5, .int (v5 ||| (sp_shl 1 w19))), (7, .int v7)] rfl ?_
              exact t_X0_ring_284 hK N _ ih _ _ _ _ _ h
            · rw [if_pos c23] at h
              refine at_aload_n 0 dX0_ring_267 rfl ?_
              refine at_getf cl_X0 (by decide) fl_X0_15 hg_9 rfl dX0_ring_268 ?_
              refine at_iload 5 dX0_ring_271 rfl ?_
              obtain ⟨w25, hw25, h⟩ := sp_bind h
              refine at_iald hg_11 hw25 dX0_ring_273 ?_
              refine at_goto 284 dX0_ring_274 (by decide) ?_
              refine at_sub [0, 1, 2, 4] [(0, .ref (b + 9)), (2, .int v2), (5, .int (v5 ||| (sp_shl 1 w19))), (7, .int v7)] rfl ?_
              exact t_X0_ring_284 hK N _ ih _ _ _ _ _ h
          · rw [if_neg c21] at h
            refine at_iconst (-1) dX0_ring_244 ic_m1 ?_
            cases h; exact at_iret rfl (Nat.le_refl _) (Nat.le_refl _) ⟨rfl, rfl⟩ dX0_ring_245
set_option maxRecDepth 100000 in
theorem t_X0_ring_188 {D : va_G} {b : Nat} {K : State → Heap → Prop} {sa : Nat → Nat} (hK : sx_Kk b K sa) (N : Nat) {uG uN uD uR uP uL uT uA uM uH xA xB xC xD xE xF xG xH xI xJ xK xL uO : sx_C} {G : sx_H} (res : Int32 × sx_C) : ∀ (v2 : Int32) (uF : sx_C), f_X0_ring_188 N v2 uF = some res → sx_At D b K YX0_ring (sx_rm 0) (sx_Ex (some (.int res.1)) (sx_hp b uG uN uD uR (res.2) uP uL uT uA uM uH xA xB xC xD xE xF xG xH xI xJ xK xL uO G)) 188 [(0, .ref (b + 9)), (2, .int v2)] [] (sx_hp b uG uN uD uR uF uP uL uT uA uM uH xA xB xC xD xE xF xG xH xI xJ xK xL uO G) 0 0 := by
  intro v2 uF h
  rw [f_X0_ring_188] at h
  refine at_iconst 0 dX0_ring_188 ic_0 ?_
  refine at_istore [(0, .ref (b + 9)), (2, .int v2), (5, .int 0)] dX0_ring_189 (Nat.le_of_ble_eq_true rfl) rfl ?_
  refine at_aload_n 0 dX0_ring_191 rfl ?_
  refine at_getf cl_X0 (by decide) fl_X0_15 hg_9 rfl dX0_ring_192 ?_
  refine at_iload_n 1 dX0_ring_195 rfl ?_
  obtain ⟨w15, hw15, h⟩ := sp_bind h
  refine at_iald hg_11 hw15 dX0_ring_196 ?_
  refine at_istore [(0, .ref (b + 9)), (2, .int v2), (5, .int 0), (6, .int w15)] dX0_ring_197 (Nat.le_of_ble_eq_true rfl) rfl ?_
  refine at_iconst 0 dX0_ring_199 ic_0 ?_
  refine at_istore [(0, .ref (b + 9)), (2, .int v2), (5, .int 0), (6, .int w15), (7, .int 0)] dX0_ring_200 (Nat.le_of_ble_eq_true rfl) rfl ?_
  exact t_X0_ring_202 hK N _ N _ _ _ _ _ h
set_option maxRecDepth 100000 in
theorem t_X0_ring_167 {D : va_G} {b : Nat} {K : State → Heap → Prop} {sa : Nat → Nat} (hK : sx_Kk b K sa) (N : Nat) {k34 : Int32 → Int32 → Int32 → Int32 → Int32 → sx_C → Option (Int32 × sx_C)} {k55 : Int32 → Int32 → Int32 → Int32 → Int32 → Int32 → Int32 → sx_C → Option (Int32 × sx_C)} {uG uN uD uR uP uL uT uA uM uH xA xB xC xD xE xF xG xH xI xJ xK xL uO : sx_C} {G : sx_H} (res : Int32 × sx_C) (hk34 : ∀ (v1 : Int32) (v2 : Int32) (v3 : Int32) (v4 : Int32) (v5 : Int32) (uF : sx_C), k34 v1 v2 v3 v4 v5 uF = some res → sx_At D b K YX0_ring (sx_rm 0) (sx_Ex (some (.int res.1)) (sx_hp b uG uN uD uR (res.2) uP uL uT uA uM uH xA xB xC xD xE xF xG xH xI xJ xK xL uO G)) 34 [(0, .ref (b + 9)), (1, .int v1), (2, .int v2), (3, .int v3), (4, .int v4), (5, .int v5)] [] (sx_hp b uG uN uD uR uF uP uL uT uA uM uH xA xB xC xD xE xF xG xH xI xJ xK xL uO G) 0 0) (hk55 : ∀ (v1 : Int32) (v2 : Int32) (v3 : Int32) (v4 : Int32) (v5 : Int32) (v6 : Int32) (v7 : Int32) (uF : sx_C), k55 v1 v2 v3 v4 v5 v6 v7 uF = some res → sx_At D b K YX0_ring (sx_rm 0) (sx_Ex (some (.int res.1)) (sx_hp b uG uN uD uR (res.2) uP uL uT uA uM uH xA xB xC xD xE xF xG xH xI xJ xK xL uO G)) 55 [(0, .ref (b + 9)), (1, .int v1), (2, .int v2), (3, .int v3), (4, .int v4), (5, .int v5), (6, .int v6), (7, .int v7)] [] (sx_hp b uG uN uD uR uF uP uL uT uA uM uH xA xB xC xD xE xF xG xH xI xJ xK xL uO G) 0 0) : ∀ (v1 : Int32) (v2 : Int32) (v3 : Int32) (v4 : Int32) (v5 : Int32) (v6 : Int32) (v7 : Int32) (uF : sx_C), f_X0_ring_167 N k34 k55 v1 v2 v3 v4 v5 v6 v7 uF = some res → sx_At D b K YX0_ring (sx_rm 0) (sx_Ex (some (.int res.1)) (sx_hp b uG uN uD uR (res.2) uP uL uT uA uM uH xA xB xC xD xE xF xG xH xI xJ xK xL uO G)) 167 [(0, .ref (b + 9)), (1, .int v1), (2, .int v2), (3, .int v3), (4, .int v4), (5, .int v5), (6, .int v6), (7, .int v7)] [] (sx_hp b uG uN uD uR uF uP uL uT uA uM uH xA xB xC xD xE xF xG xH xI xJ xK xL uO G) 0 0 := by
  intro v1 v2 v3 v4 v5 v6 v7 uF h
  rw [f_X0_ring_167] at h
  refine at_iinc 7 1 [(0, .ref (b + 9)), (1, .int v1), (2, .int v2), (3, .int v3), (4, .int v4), (5, .int v5), (6, .int v6), (7, .int (v7 + 1))] dX0_ring_167 rfl ic_1 (Nat.le_of_ble_eq_true rfl) rfl ?_
  refine at_goto 55 dX0_ring_170 (by decide) ?_
  exact hk55 _ _ _ _ _ _ _ _ h
set_option maxRecDepth 100000 in
theorem t_X0_ring_146 {D : va_G} {b : Nat} {K : State → Heap → Prop} {sa : Nat → Nat} (hK : sx_Kk b K sa) (N : Nat) {k34 : Int32 → Int32 → Int32 → Int32 → Int32 → sx_C → Option (Int32 × sx_C)} {k55 : Int32 → Int32 → Int32 → Int32 → Int32 → Int32 → Int32 → sx_C → Option (Int32 × sx_C)} {uG uN uD uR uP uL uT uA uM uH xA xB xC xD xE xF xG xH xI xJ xK xL uO : sx_C} {G : sx_H} (res : Int32 × sx_C) (hk34 : ∀ (v1 : Int32) (v2 : Int32) (v3 : Int32) (v4 : Int32) (v5 : Int32) (uF : sx_C), k34 v1 v2 v3 v4 v5 uF = some res → sx_At D b K YX0_ring (sx_rm 0) (sx_Ex (some (.int res.1)) (sx_hp b uG uN uD uR (res.2) uP uL uT uA uM uH xA xB xC xD xE xF xG xH xI xJ xK xL uO G)) 34 [(0, .ref (b + 9)), (1, .int v1), (2, .int v2), (3, .int v3), (4, .int v4), (5, .int v5)] [] (sx_hp b uG uN uD uR uF uP uL uT uA uM uH xA xB xC xD xE xF xG xH xI xJ xK xL uO G) 0 0) (hk55 : ∀ (v1 : Int32) (v2 : Int32) (v3 : Int32) (v4 : Int32) (v5 : Int32) (v6 : Int32) (v7 : Int32) (uF : sx_C), k55 v1 v2 v3 v4 v5 v6 v7 uF = some res → sx_At D b K YX0_ring (sx_rm 0) (sx_Ex (some (.int res.1)) (sx_hp b uG uN uD uR (res.2) uP uL uT uA uM uH xA xB xC xD xE xF xG xH xI xJ xK xL uO G)) 55 [(0, .ref (b + 9)), (1, .int v1), (2, .int v2), (3, .int v3), (4, .int v4), (5, .int v5), (6, .int v6), (7, .int v7)] [] (sx_hp b uG uN uD uR uF uP uL uT uA uM uH xA xB xC xD xE xF xG xH xI xJ xK xL uO G) 0 0) : ∀ (v1 : Int32) (v2 : Int32) (v3 : Int32) (v4 : Int32) (v5 : Int32) (v6 : Int32) (v7 : Int32) (v8 : Int32) (s0 : Int32) (uF : sx_C), f_X0_ring_146 N k34 k55 v1 v2 v3 v4 v5 v6 v7 v8 s0 uF = some res → sx_At D b K YX0_ring (sx_rm 0) (sx_Ex (some (.int res.1)) (sx_hp b uG uN uD uR (res.2) uP uL uT uA uM uH xA xB xC xD xE xF xG xH xI xJ xK xL uO G)) 146 [(0, .ref (b + 9)), (1, .int v1), (2, .int v2), (3, .int v3), (4, .int v4), (5, .int v5), (6, .int v6), (7, .int v7), (8, .int v8)] [.int s0] (sx_hp b uG uN uD uR uF uP uL uT uA uM uH xA xB xC xD xE xF xG xH xI xJ xK xL uO G) 0 0 := by
  intro v1 v2 v3 v4 v5 v6 v7 v8 s0 uF h
  rw [f_X0_ring_146] at h
  refine at_istore [(0, .ref (b + 9)), (1, .int v1), (2, .int v2), (3, .int v3), (4, .int v4), (5, .int v5), (6, .int v6), (7, .int v7), (8, .int v8), (9, .int s0)] dX0_ring_146 (Nat.le_of_ble_eq_true rfl) rfl ?_
  refine at_aload_n 0 dX0_ring_148 rfl ?_
  refine at_getf cl_X0 (by decide) fl_X0_24 hg_9 rfl dX0_ring_149 ?_
  refine at_iload 9 dX0_ring_152 rfl ?_
  refine at_bipush 7 dX0_ring_154 bp_7 ?_
  refine at_iand dX0_ring_156 ?_
  refine at_iload 7 dX0_ring_157 rfl ?_
  obtain ⟨hi14, h⟩ := sp_chk h
  refine at_iast hg_14 hi14 hs_14 dX0_ring_159 ?_
  refine at_iload 4 dX0_ring_160 rfl ?_
  refine at_iload 8 dX0_ring_162 rfl ?_
  refine at_ior dX0_ring_164 ?_
  refine at_istore [(0, .ref (b + 9)), (1, .int v1), (2, .int v2), (3, .int v3), (4, .int (v4 ||| v8)), (5, .int v5), (6, .int v6), (7, .int v7), (8, .int v8), (9, .int s0)] dX0_ring_165 (Nat.le_of_ble_eq_true rfl) rfl ?_
  refine at_sub [0, 1, 2, 3, 4, 5, 6, 7] [(0, .ref (b + 9)), (1, .int v1), (2, .int v2), (3, .int v3), (4, .int (v4 ||| v8)), (5, .int v5), (6, .int v6), (7, .int v7)] rfl ?_
  exact t_X0_ring_167 hK N _ hk34 hk55 _ _ _ _ _ _ _ _ h
set_option maxRecDepth 100000 in
theorem t_X0_ring_94 {D : va_G} {b : Nat} {K : State → Heap → Prop} {sa : Nat → Nat} (hK : sx_Kk b K sa) (N : Nat) {k34 : Int32 → Int32 → Int32 → Int32 → Int32 → sx_C → Option (Int32 × sx_C)} {k55 : Int32 → Int32 → Int32 → Int32 → Int32 → Int32 → Int32 → sx_C → Option (Int32 × sx_C)} {uG uN uD uR uP uL uT uA uM uH xA xB xC xD xE xF xG xH xI xJ xK xL uO : sx_C} {G : sx_H} (res : Int32 × sx_C) (hk34 : ∀ (v1 : Int32) (v2 : Int32) (v3 : Int32) (v4 : Int32) (v5 : Int32) (uF : sx_C), k34 v1 v2 v3 v4 v5 uF = some res → sx_At D b K YX0_ring (sx_rm 0) (sx_Ex (some (.int res.1)) (sx_hp b uG uN uD uR (res.2) uP uL uT uA uM uH xA xB xC xD xE xF xG xH xI xJ xK xL uO G)) 34 [(0, .ref (b + 9)), (1, .int v1), (2, .int v2), (3, .int v3), (4, .int v4), (5, .int v5)] [] (sx_hp b uG uN uD uR uF uP uL uT uA uM uH xA xB xC xD xE xF xG xH xI xJ xK xL uO G) 0 0) (hk55 : ∀ (v1 : Int32) (v2 : Int32) (v3 : Int32) (v4 : Int32) (v5 : Int32) (v6 : Int32) (v7 : Int32) (uF : sx_C), k55 v1 v2 v3 v4 v5 v6 v7 uF = some res → sx_At D b K YX0_ring (sx_rm 0) (sx_Ex (some (.int res.1)) (sx_hp b uG uN uD uR (res.2) uP uL uT uA uM uH xA xB xC xD xE xF xG xH xI xJ xK xL uO G)) 55 [(0, .ref (b + 9)), (1, .int v1), (2, .int v2), (3, .int v3), (4, .int v4), (5, .int v5), (6, .int v6), (7, .int v7)] [] (sx_hp b uG uN uD uR uF uP uL uT uA uM uH xA xB xC xD xE xF xG xH xI xJ xK xL uO G) 0 0) : ∀ (v1 : Int32) (v2 : Int32) (v3 : Int32) (v4 : Int32) (v5 : Int32) (v6 : Int32) (v7 : Int32) (s0 : Int32) (uF : sx_C), f_X0_ring_94 N k34 k55 v1 v2 v3 v4 v5 v6 v7 s0 uF = some res → sx_At D b K YX0_ring (sx_rm 0) (sx_Ex (some (.int res.1)) (sx_hp b uG uN uD uR (res.2) uP uL uT uA uM uH xA xB xC xD xE xF xG xH xI xJ xK xL uO G)) 94 [(0, .ref (b + 9)), (1, .int v1), (2, .int v2), (3, .int v3), (4, .int v4), (5, .int v5), (6, .int v6), (7, .int v7)] [.int s0] (sx_hp b uG uN uD uR uF uP uL uT uA uM uH xA xB xC xD xE xF xG xH xI xJ xK xL uO G) 0 0 := by
  intro v1 v2 v3 v4 v5 v6 v7 s0 uF h
  rw [f_X0_ring_94] at h
  refine at_istore [(0, .ref (b + 9)), (1, .int v1), (2, .int v2), (3, .int v3), (4, .int v4), (5, .int v5), (6, .int v6), (7, .int v7), (8, .int s0)] dX0_ring_94 (Nat.le_of_ble_eq_true rfl) rfl ?_
  refine at_iload 8 dX0_ring_96 rfl ?_
  refine at_iload 4 dX0_ring_98 rfl ?_
  refine at_iand dX0_ring_100 ?_
  refine at_if_eq 167 dX0_ring_101 (by decide) (fun c8 => ?_) (fun c8 => ?_)
  · rw [if_pos c8] at h
    refine at_sub [0, 1, 2, 3, 4, 5, 6, 7] [(0, .ref (b + 9)), (1, .int v1), (2, .int v2), (3, .int v3), (4, .int v4), (5, .int v5), (6, .int v6), (7, .int v7)] rfl ?_
    exact t_X0_ring_167 hK N _ hk34 hk55 _ _ _ _ _ _ _ _ h
  · rw [if_neg c8] at h
    refine at_iload 8 dX0_ring_104 rfl ?_
    refine at_iload 4 dX0_ring_106 rfl ?_
    refine at_iconst (-1) dX0_ring_108 ic_m1 ?_
    refine at_ixor dX0_ring_109 ?_
    refine at_iand dX0_ring_110 ?_
    refine at_if_eq 167 dX0_ring_111 (by decide) (fun c9 => ?_) (fun c9 => ?_)
    · rw [if_pos c9] at h
      refine at_sub [0, 1, 2, 3, 4, 5, 6, 7] [(0, .ref (b + 9)), (1, .int v1), (2, .int v2), (3, .int v3), (4, .int v4), (5, .int v5), (6, .int v6), (7, .int v7)] rfl ?_
      exact t_X0_ring_167 hK N _ hk34 hk55 _ _ _ _ _ _ _ _ h
    · rw [if_neg c9] at h
      refine at_iload 4 dX0_ring_114 rfl ?_
      refine at_aload_n 0 dX0_ring_116 rfl ?_
      refine at_getf cl_X0 (by decide) fl_X0_11 hg_9 rfl dX0_ring_117 ?_
      refine at_iload 7 dX0_ring_120 rfl ?_
      obtain ⟨w10, hw10, h⟩ := sp_bind h
      refine at_iald hg_10 hw10 dX0_ring_122 ?_
      refine at_iushr dX0_ring_123 ?_
      refine at_iconst 1 dX0_ring_124 ic_1 ?_
      refine at_iand dX0_ring_125 ?_
      refine at_if_eq 139 dX0_ring_126 (by decide) (fun c11 => ?_) (fun c11 => ?_)
      · rw [if_pos c11] at h
        refine at_aload_n 0 dX0_ring_139 rfl ?_
        refine at_getf cl_X0 (by decide) fl_X0_11 hg_9 rfl dX0_ring_140 ?_
        refine at_iload 7 dX0_ring_143 rfl ?_
        obtain ⟨w12, hw12, h⟩ := sp_bind h
        refine at_iald hg_10 hw12 dX0_ring_145 ?_
        exact t_X0_ring_146 hK N _ hk34 hk55 _ _ _ _ _ _ _ _ _ _ h
      · rw [if_neg c11] at h
        refine at_aload_n 0 dX0_ring_129 rfl ?_
        refine at_getf cl_X0 (by decide) fl_X0_15 hg_9 rfl dX0_ring_130 ?_
        refine at_iload 7 dX0_ring_133 rfl ?_
        obtain ⟨w13, hw13, h⟩ := sp_bind h
        refine at_iald hg_11 hw13 dX0_ring_135 ?_
        refine at_goto 146 dX0_ring_136 (by decide) ?_
        exact t_X0_ring_146 hK N _ hk34 hk55 _ _ _ _ _ _ _ _ _ _ h
set_option maxRecDepth 100000 in
theorem t_X0_ring_55 {D : va_G} {b : Nat} {K : State → Heap → Prop} {sa : Nat → Nat} (hK : sx_Kk b K sa) (N : Nat) {k34 : Int32 → Int32 → Int32 → Int32 → Int32 → sx_C → Option (Int32 × sx_C)} {uG uN uD uR uP uL uT uA uM uH xA xB xC xD xE xF xG xH xI xJ xK xL uO : sx_C} {G : sx_H} (res : Int32 × sx_C) (hk34 : ∀ (v1 : Int32) (v2 : Int32) (v3 : Int32) (v4 : Int32) (v5 : Int32) (uF : sx_C), k34 v1 v2 v3 v4 v5 uF = some res → sx_At D b K YX0_ring (sx_rm 0) (sx_Ex (some (.int res.1)) (sx_hp b uG uN uD uR (res.2) uP uL uT uA uM uH xA xB xC xD xE xF xG xH xI xJ xK xL uO G)) 34 [(0, .ref (b + 9)), (1, .int v1), (2, .int v2), (3, .int v3), (4, .int v4), (5, .int v5)] [] (sx_hp b uG uN uD uR uF uP uL uT uA uM uH xA xB xC xD xE xF xG xH xI xJ xK xL uO G) 0 0) : ∀ (n0 : Nat) (v1 : Int32) (v2 : Int32) (v3 : Int32) (v4 : Int32) (v5 : Int32) (v6 : Int32) (v7 : Int32) (uF : sx_C), f_X0_ring_55 N k34 n0 v1 v2 v3 v4 v5 v6 v7 uF = some res → sx_At D b K YX0_ring (sx_rm 0) (sx_Ex (some (.int res.1)) (sx_hp b uG uN uD uR (res.2) uP uL uT uA uM uH xA xB xC xD xE xF xG xH xI xJ xK xL uO G)) 55 [(0, .ref (b + 9)), (1, .int v1), (2, .int v2), (3, .int v3), (4, .int v4), (5, .int v5), (6, .int v6), (7, .int v7)] [] (sx_hp b uG uN uD uR uF uP uL uT uA uM uH xA xB xC xD xE xF xG xH xI xJ xK xL uO G) 0 0 := by
  intro n0
  induction n0 with
  | zero => intro _ _ _ _ _ _ _ _ h; cases h
  | succ n0 ih =>
    intro v1 v2 v3 v4 v5 v6 v7 uF h
    rw [f_X0_ring_55] at h
    refine at_iload 7 dX0_ring_55 rfl ?_
    refine at_bipush 17 dX0_ring_57 bp_17 ?_
    refine at_icmp_ge 173 dX0_ring_59 (by decide) (fun c3 => ?_) (fun c3 => ?_)
    · rw [if_pos c3] at h
      refine at_iload 4 dX0_ring_173 rfl ?_
      refine at_iload 6 dX0_ring_175 rfl ?_
      refine at_icmp_ne 182 dX0_ring_177 (by decide) (fun c4 => ?_) (fun c4 => ?_)
      · rw [if_neg c4] at h
        refine at_iinc 5 1 [(0, .ref (b + 9)), (1, .int v1), (2, .int v2), (3, .int v3), (4, .int v4), (5, .int (v5 + 1)), (6, .int v6), (7, .int v7)] dX0_ring_182 rfl ic_1 (Nat.le_of_ble_eq_true rfl) rfl ?_
        refine at_goto 34 dX0_ring_185 (by decide) ?_
        refine at_sub [0, 1, 2, 3, 4, 5] [(0, .ref (b + 9)), (1, .int v1), (2, .int v2), (3, .int v3), (4, .int v4), (5, .int (v5 + 1))] rfl ?_
        exact hk34 _ _ _ _ _ _ h
      · rw [if_pos c4] at h
        refine at_iconst (-1) dX0_ring_180 ic_m1 ?_
        cases h; exact at_iret rfl (Nat.le_refl _) (Nat.le_refl _) ⟨rfl, rfl⟩ dX0_ring_181
    · rw [if_neg c3] at h
      refine at_iload_n 1 dX0_ring_62 rfl ?_
      refine at_iload 7 dX0_ring_63 rfl ?_
      refine at_iushr dX0_ring_65 ?_
      refine at_iconst 1 dX0_ring_66 ic_1 ?_
      refine at_iand dX0_ring_67 ?_
      refine at_if_eq 93 dX0_ring_68 (by decide) (fun c5 => ?_) (fun c5 => ?_)
      · rw [if_pos c5] at h
        refine at_iconst 0 dX0_ring_93 ic_0 ?_
        exact t_X0_ring_94 hK N _ hk34 ih _ _ _ _ _ _ _ _ _ h
      · rw [if_neg c5] at h
        refine at_iconst 1 dX0_ring_71 ic_1 ?_
        refine at_aload_n 0 dX0_ring_72 rfl ?_
        refine at_getf cl_X0 (by decide) fl_X0_11 hg_9 rfl dX0_ring_73 ?_
        refine at_iload 7 dX0_ring_76 rfl ?_
        obtain ⟨w6, hw6, h⟩ := sp_bind h
        refine at_iald hg_10 hw6 dX0_ring_78 ?_
        refine at_ishl dX0_ring_79 ?_
        refine at_iconst 1 dX0_ring_80 ic_1 ?_
        refine at_aload_n 0 dX0_ring_81 rfl ?_
        refine at_getf cl_X0 (by decide) fl_X0_15 hg_9 rfl dX0_ring_82 ?_
        refine at_iload 7 dX0_ring_85 rfl ?_
        obtain ⟨w7, hw7, h⟩ := sp_bind h
        refine at_iald hg_11 hw7 dX0_ring_87 ?_
        refine at_ishl dX0_ring_88 ?_
        refine at_ixor dX0_ring_89 ?_
        refine at_goto 94 dX0_ring_90 (by decide) ?_
        exact t_X0_ring_94 hK N _ hk34 ih _ _ _ _ _ _ _ _ _ h
set_option maxRecDepth 100000 in
theorem t_X0_ring_34 {D : va_G} {b : Nat} {K : State → Heap → Prop} {sa : Nat → Nat} (hK : sx_Kk b K sa) (N : Nat) {uG uN uD uR uP uL uT uA uM uH xA xB xC xD xE xF xG xH xI xJ xK xL uO : sx_C} {G : sx_H} (res : Int32 × sx_C) : ∀ (n0 : Nat) (v1 : Int32) (v2 : Int32) (v3 : Int32) (v4 : Int32) (v5 : Int32) (uF : sx_C), f_X0_ring_34 N n0 v1 v2 v3 v4 v5 uF = some res → sx_At D b K YX0_ring (sx_rm 0) (sx_Ex (some (.int res.1)) (sx_hp b uG uN uD uR (res.2) uP uL uT uA uM uH xA xB xC xD xE xF xG xH xI xJ xK xL uO G)) 34 [(0, .ref (b + 9)), (1, .int v1), (2, .int v2), (3, .int v3), (4, .int v4), (5, .int v5)] [] (sx_hp b uG uN uD uR uF uP uL uT uA uM uH xA xB xC xD xE xF xG xH xI xJ xK xL uO G) 0 0 := by
  intro n0
  induction n0 with
  | zero => intro _ _ _ _ _ _ h; cases h
  | succ n0 ih =>
    intro v1 v2 v3 v4 v5 uF h
    rw [f_X0_ring_34] at h
    refine at_iload 5 dX0_ring_34 rfl ?_
    refine at_bipush 8 dX0_ring_36 bp_8 ?_
    refine at_icmp_ge 188 dX0_ring_38 (by decide) (fun c1 => ?_) (fun c1 => ?_)
    · rw [if_pos c1] at h
      refine at_sub [0, 2] [(0, .ref (b + 9)), (2, .int v2)] rfl ?_
      exact t_X0_ring_188 hK N _ _ _ h
    · rw [if_neg c1] at h
      refine at_iload 4 dX0_ring_41 rfl ?_
      refine at_iload_n 3 dX0_ring_43 rfl ?_
      refine at_iand dX0_ring_44 ?_
      refine at_if_ne 188 dX0_ring_45 (by decide) (fun c2 => ?_) (fun c2 => ?_)
      · rw [if_neg c2] at h
        refine at_sub [0, 2] [(0, .ref (b + 9)), (2, .int v2)] rfl ?_
        exact t_X0_ring_188 hK N _ _ _ h
      · rw [if_pos c2] at h
        refine at_iload 4 dX0_ring_48 rfl ?_
        refine at_istore [(0, .ref (b + 9)), (1, .int v1), (2, .int v2), (3, .int v3), (4, .int v4), (5, .int v5), (6, .int v4)] dX0_ring_50 (Nat.le_of_ble_eq_true rfl) rfl ?_
        refine at_iconst 0 dX0_ring_52 ic_0 ?_
        refine at_istore [(0, .ref (b + 9)), (1, .int v1), (2, .int v2), (3, .int v3), (4, .int v4), (5, .int v5), (6, .int v4), (7, .int 0)] dX0_ring_53 (Nat.le_of_ble_eq_true rfl) rfl ?_
        exact t_X0_ring_55 hK N _ ih N _ _ _ _ _ _ _ _ h
set_option maxRecDepth 100000 in
theorem t_X0_ring {D : va_G} {b : Nat} {K : State → Heap → Prop} {sa : Nat → Nat} (hK : sx_Kk b K sa) {N : Nat} {uG uN uD uR uP uL uT uA uM uH xA xB xC xD xE xF xG xH xI xJ xK xL uO : sx_C} {G : sx_H} {v1 : Int32} {v2 : Int32} {uF : sx_C} {res : Int32 × sx_C} (h : f_X0_ring N v1 v2 uF = some res) : sx_Runs D b K yX0_ring YX0_ring (sx_rm 0) [.ref (b + 9), .int v1, .int v2] (sx_hp b uG uN uD uR uF uP uL uT uA uM uH xA xB xC xD xE xF xG xH xI xJ xK xL uO G) (sx_Ex (some (.int res.1)) (sx_hp b uG uN uD uR (res.2) uP uL uT uA uM uH xA xB xC xD xE xF xG xH xI xJ xK xL uO G)) := by
  rw [f_X0_ring] at h
  refine sx_run (by decide +kernel) rfl rfl (Nat.le_of_ble_eq_true rfl) ?_
  refine at_iload_n 2 dX0_ring_0 rfl ?_
  refine at_if_lt 10 dX0_ring_1 (by decide) (fun c26 => ?_) (fun c26 => ?_)
  · rw [if_pos c26] at h
    refine at_iconst 0 dX0_ring_10 ic_0 ?_
    cases h; exact at_iret rfl (Nat.le_refl _) (Nat.le_refl _) ⟨rfl, rfl⟩ dX0_ring_11
  · rw [if_neg c26] at h
    refine at_iload_n 2 dX0_ring_4 rfl ?_
    refine at_bipush 17 dX0_ring_5 bp_17 ?_
    refine at_icmp_lt 12 dX0_ring_7 (by decide) (fun c27 => ?_) (fun c27 => ?_)
    · rw [if_pos c27] at h
      refine at_iconst 1 dX0_ring_12 ic_1 ?_
      refine at_aload_n 0 dX0_ring_13 rfl ?_
      refine at_getf cl_X0 (by decide) fl_X0_15 hg_9 rfl dX0_ring_14 ?_
      refine at_iload_n 2 dX0_ring_17 rfl ?_
      obtain ⟨w28, hw28, h⟩ := sp_bind h
      refine at_iald hg_11 hw28 dX0_ring_18 ?_
      refine at_ishl dX0_ring_19 ?_
      refine at_istore_n [(0, .ref (b + 9)), (1, .int v1), (2, .int v2), (3, .int (sp_shl 1 w28))] dX0_ring_20 (Nat.le_of_ble_eq_true rfl) rfl ?_
      refine at_iconst 1 dX0_ring_21 ic_1 ?_
      refine at_aload_n 0 dX0_ring_22 rfl ?_
      refine at_getf cl_X0 (by decide) fl_X0_11 hg_9 rfl dX0_ring_23 ?_
      refine at_iload_n 2 dX0_ring_26 rfl ?_
      obtain ⟨w29, hw29, h⟩ := sp_bind h
      refine at_iald hg_10 hw29 dX0_ring_27 ?_
      refine at_ishl dX0_ring_28 ?_
      refine at_istore [(0, .ref (b + 9)), (1, .int v1), (2, .int v2), (3, .int (sp_shl 1 w28)), (4, .int (sp_shl 1 w29))] dX0_ring_29 (Nat.le_of_ble_eq_true rfl) rfl ?_
      refine at_iconst 0 dX0_ring_31 ic_0 ?_
      refine at_istore [(0, .ref (b + 9)), (1, .int v1), (2, .int v2), (3, .int (sp_shl 1 w28)), (4, .int (sp_shl 1 w29)), (5, .int 0)] dX0_ring_32 (Nat.le_of_ble_eq_true rfl) rfl ?_
      exact t_X0_ring_34 hK N _ N _ _ _ _ _ _ h
    · rw [if_neg c27] at h
      refine at_iconst 0 dX0_ring_10 ic_0 ?_
      cases h; exact at_iret rfl (Nat.le_refl _) (Nat.le_refl _) ⟨rfl, rfl⟩ dX0_ring_11
set_option maxRecDepth 100000 in
theorem t_X0_shift_100 {D : va_G} {b : Nat} {K : State → Heap → Prop} {sa : Nat → Nat} (hK : sx_Kk b K sa) (N : Nat) {k8 : Int32 → Int32 → Int32 → sx_C → Option (sx_C)} {uG uN uD uR uP uL uT uA uM uH xA xB xC xD xE xF xG xH xI xJ xK xL uO : sx_C} {G : sx_H} (res : sx_C) (hk8 : ∀ (v3 : Int32) (v4 : Int32) (v5 : Int32) (uF : sx_C), k8 v3 v4 v5 uF = some res → sx_At D b K YX0_shift (sx_rm 0) (sx_Ex none (sx_hp b uG uN uD uR res uP uL uT uA uM uH xA xB xC xD xE xF xG xH xI xJ xK xL uO G)) 8 [(0, .ref (b + 9)), (3, .int v3), (4, .int v4), (5, .int v5)] [] (sx_hp b uG uN uD uR uF uP uL uT uA uM uH xA xB xC xD xE xF xG xH xI xJ xK xL uO G) 0 0) : ∀ (v3 : Int32) (v5 : Int32) (v7 : Int32) (s1 : Int32) (uF : sx_C), f_X0_shift_100 N k8 v3 v5 v7 s1 uF = some res → sx_At D b K YX0_shift (sx_rm 0) (sx_Ex none (sx_hp b uG uN uD uR res uP uL uT uA uM uH xA xB xC xD xE xF xG xH xI xJ xK xL uO G)) 100 [(0, .ref (b + 9)), (3, .int v3), (5, .int v5), (7, .int v7)] [.int s1, .ref (b + 9)] (sx_hp b uG uN uD uR uF uP uL uT uA uM uH xA xB xC xD xE xF xG xH xI xJ xK xL uO G) 0 0 := by
  intro v3 v5 v7 s1 uF h
  rw [f_X0_shift_100] at h
  refine at_putf cl_X0 (by decide) fl_X0_31 rfl hg_9 rfl rfl (Nat.le_of_ble_eq_true rfl) hs_9_6 dX0_shift_100 ?_
  refine at_iload 3 dX0_shift_103 rfl ?_
  refine at_istore [(0, .ref (b + 9)), (3, .int v3), (4, .int v7), (5, .int v5), (7, .int v7)] dX0_shift_105 (Nat.le_of_ble_eq_true rfl) rfl ?_
  refine at_aload_n 0 dX0_shift_107 rfl ?_
  refine at_getf cl_X0 (by decide) fl_X0_18 hg_9 rfl dX0_shift_108 ?_
  refine at_iload_n 1 dX0_shift_111 rfl ?_
  obtain ⟨w7, hw7, h⟩ := sp_bind h
  refine at_iald hg_12 hw7 dX0_shift_112 ?_
  refine at_istore_n [(0, .ref (b + 9)), (3, .int w7), (4, .int v7), (5, .int v5), (7, .int v7)] dX0_shift_113 (Nat.le_of_ble_eq_true rfl) rfl ?_
  refine at_iinc 3 1 [(0, .ref (b + 9)), (3, .int w7), (4, .int v7), (5, .int (v5 + 1)), (7, .int v7)] dX0_shift_114 rfl ic_1 (Nat.le_of_ble_eq_true rfl) rfl ?_
  refine at_goto 8 dX0_shift_117 (by decide) ?_
  refine at_sub [0, 1, 2, 3] [(0, .ref (b + 9)), (3, .int w7), (4, .int v7), (5, .int (v5 + 1))] rfl ?_
  exact hk8 _ _ _ _ h
set_option maxRecDepth 100000 in
theorem t_X0_shift_72 {D : va_G} {b : Nat} {K : State → Heap → Prop} {sa : Nat → Nat} (hK : sx_Kk b K sa) (N : Nat) {k8 : Int32 → Int32 → Int32 → sx_C → Option (sx_C)} {uG uN uD uR uP uL uT uA uM uH xA xB xC xD xE xF xG xH xI xJ xK xL uO : sx_C} {G : sx_H} (res : sx_C) (hk8 : ∀ (v3 : Int32) (v4 : Int32) (v5 : Int32) (uF : sx_C), k8 v3 v4 v5 uF = some res → sx_At D b K YX0_shift (sx_rm 0) (sx_Ex none (sx_hp b uG uN uD uR res uP uL uT uA uM uH xA xB xC xD xE xF xG xH xI xJ xK xL uO G)) 8 [(0, .ref (b + 9)), (3, .int v3), (4, .int v4), (5, .int v5)] [] (sx_hp b uG uN uD uR uF uP uL uT uA uM uH xA xB xC xD xE xF xG xH xI xJ xK xL uO G) 0 0) : ∀ (v3 : Int32) (v4 : Int32) (v5 : Int32) (v6 : Int32) (v7 : Int32) (s1 : Int32) (uF : sx_C), f_X0_shift_72 N k8 v3 v4 v5 v6 v7 s1 uF = some res → sx_At D b K YX0_shift (sx_rm 0) (sx_Ex none (sx_hp b uG uN uD uR res uP uL uT uA uM uH xA xB xC xD xE xF xG xH xI xJ xK xL uO G)) 72 [(0, .ref (b + 9)), (3, .int v3), (4, .int v4), (5, .int v5), (6, .int v6), (7, .int v7)] [.int s1, .ref (b + 9)] (sx_hp b uG uN uD uR uF uP uL uT uA uM uH xA xB xC xD xE xF xG xH xI xJ xK xL uO G) 0 0 := by
  intro v3 v4 v5 v6 v7 s1 uF h
  rw [f_X0_shift_72] at h
  refine at_putf cl_X0 (by decide) fl_X0_27 rfl hg_9 rfl rfl (Nat.le_of_ble_eq_true rfl) hs_9_5 dX0_shift_72 ?_
  refine at_aload_n 0 dX0_shift_75 rfl ?_
  refine at_iload 2 dX0_shift_76 rfl ?_
  refine at_if_eq 93 dX0_shift_78 (by decide) (fun c6 => ?_) (fun c6 => ?_)
  · rw [if_pos c6] at h
    refine at_aload_n 0 dX0_shift_93 rfl ?_
    refine at_getf cl_X0 (by decide) fl_X0_31 hg_9 rfl dX0_shift_94 ?_
    refine at_iload 4 dX0_shift_97 rfl ?_
    refine at_ior dX0_shift_99 ?_
    refine at_sub [0, 1, 3, 5] [(0, .ref (b + 9)), (3, .int v3), (5, .int v5), (7, .int v7)] rfl ?_
    exact t_X0_shift_100 hK N _ hk8 _ _ _ _ _ h
  · rw [if_neg c6] at h
    refine at_aload_n 0 dX0_shift_81 rfl ?_
    refine at_getf cl_X0 (by decide) fl_X0_31 hg_9 rfl dX0_shift_82 ?_
    refine at_iload 4 dX0_shift_85 rfl ?_
    refine at_iconst (-1) dX0_shift_87 ic_m1 ?_
    refine at_ixor dX0_shift_88 ?_
    refine at_iand dX0_shift_89 ?_
    refine at_goto 100 dX0_shift_90 (by decide) ?_
    refine at_sub [0, 1, 3, 5] [(0, .ref (b + 9)), (3, .int v3), (5, .int v5), (7, .int v7)] rfl ?_
    exact t_X0_shift_100 hK N _ hk8 _ _ _ _ _ h
set_option maxRecDepth 100000 in
theorem t_X0_shift_45 {D : va_G} {b : Nat} {K : State → Heap → Prop} {sa : Nat → Nat} (hK : sx_Kk b K sa) (N : Nat) {k8 : Int32 → Int32 → Int32 → sx_C → Option (sx_C)} {uG uN uD uR uP uL uT uA uM uH xA xB xC xD xE xF xG xH xI xJ xK xL uO : sx_C} {G : sx_H} (res : sx_C) (hk8 : ∀ (v3 : Int32) (v4 : Int32) (v5 : Int32) (uF : sx_C), k8 v3 v4 v5 uF = some res → sx_At D b K YX0_shift (sx_rm 0) (sx_Ex none (sx_hp b uG uN uD uR res uP uL uT uA uM uH xA xB xC xD xE xF xG xH xI xJ xK xL uO G)) 8 [(0, .ref (b + 9)), (3, .int v3), (4, .int v4), (5, .int v5)] [] (sx_hp b uG uN uD uR uF uP uL uT uA uM uH xA xB xC xD xE xF xG xH xI xJ xK xL uO G) 0 0) : ∀ (v3 : Int32) (v4 : Int32) (v5 : Int32) (v6 : Int32) (s0 : Int32) (uF : sx_C), f_X0_shift_45 N k8 v3 v4 v5 v6 s0 uF = some res → sx_At D b K YX0_shift (sx_rm 0) (sx_Ex none (sx_hp b uG uN uD uR res uP uL uT uA uM uH xA xB xC xD xE xF xG xH xI xJ xK xL uO G)) 45 [(0, .ref (b + 9)), (3, .int v3), (4, .int v4), (5, .int v5), (6, .int v6)] [.int s0] (sx_hp b uG uN uD uR uF uP uL uT uA uM uH xA xB xC xD xE xF xG xH xI xJ xK xL uO G) 0 0 := by
  intro v3 v4 v5 v6 s0 uF h
  rw [f_X0_shift_45] at h
  refine at_istore [(0, .ref (b + 9)), (3, .int v3), (4, .int v4), (5, .int v5), (6, .int v6), (7, .int s0)] dX0_shift_45 (Nat.le_of_ble_eq_true rfl) rfl ?_
  refine at_aload_n 0 dX0_shift_47 rfl ?_
  refine at_iload 2 dX0_shift_48 rfl ?_
  refine at_if_eq 63 dX0_shift_50 (by decide) (fun c5 => ?_) (fun c5 => ?_)
  · rw [if_pos c5] at h
    refine at_aload_n 0 dX0_shift_63 rfl ?_
    refine at_getf cl_X0 (by decide) fl_X0_27 hg_9 rfl dX0_shift_64 ?_
    refine at_iload 4 dX0_shift_67 rfl ?_
    refine at_iconst (-1) dX0_shift_69 ic_m1 ?_
    refine at_ixor dX0_shift_70 ?_
    refine at_iand dX0_shift_71 ?_
    exact t_X0_shift_72 hK N _ hk8 _ _ _ _ _ _ _ h
  · rw [if_neg c5] at h
    refine at_aload_n 0 dX0_shift_53 rfl ?_
    refine at_getf cl_X0 (by decide) fl_X0_27 hg_9 rfl dX0_shift_54 ?_
    refine at_iload 4 dX0_shift_57 rfl ?_
    refine at_ior dX0_shift_59 ?_
    refine at_goto 72 dX0_shift_60 (by decide) ?_
    exact t_X0_shift_72 hK N _ hk8 _ _ _ _ _ _ _ h
set_option maxRecDepth 100000 in
theorem t_X0_shift_8 {D : va_G} {b : Nat} {K : State → Heap → Prop} {sa : Nat → Nat} (hK : sx_Kk b K sa) (N : Nat) {uG uN uD uR uP uL uT uA uM uH xA xB xC xD xE xF xG xH xI xJ xK xL uO : sx_C} {G : sx_H} (res : sx_C) : ∀ (n0 : Nat) (v3 : Int32) (v4 : Int32) (v5 : Int32) (uF : sx_C), f_X0_shift_8 N n0 v3 v4 v5 uF = some res → sx_At D b K YX0_shift (sx_rm 0) (sx_Ex none (sx_hp b uG uN uD uR res uP uL uT uA uM uH xA xB xC xD xE xF xG xH xI xJ xK xL uO G)) 8 [(0, .ref (b + 9)), (3, .int v3), (4, .int v4), (5, .int v5)] [] (sx_hp b uG uN uD uR uF uP uL uT uA uM uH xA xB xC xD xE xF xG xH xI xJ xK xL uO G) 0 0 := by
  intro n0
  induction n0 with
  | zero => intro _ _ _ _ h; cases h
  | succ n0 ih =>
    intro v3 v4 v5 uF h
    rw [f_X0_shift_8] at h
    refine at_iload 3 dX0_shift_8 rfl ?_
    refine at_bipush 17 dX0_shift_10 bp_17 ?_
    refine at_icmp_ge 120 dX0_shift_12 (by decide) (fun c1 => ?_) (fun c1 => ?_)
    · rw [if_pos c1] at h
      cases h; exact at_vret rfl (Nat.le_refl _) (Nat.le_refl _) ⟨rfl, rfl⟩ dX0_shift_120
    · rw [if_neg c1] at h
      refine at_iload_n 1 dX0_shift_15 rfl ?_
      refine at_if_lt 120 dX0_shift_16 (by decide) (fun c2 => ?_) (fun c2 => ?_)
      · rw [if_pos c2] at h
        cases h; exact at_vret rfl (Nat.le_refl _) (Nat.le_refl _) ⟨rfl, rfl⟩ dX0_shift_120
      · rw [if_neg c2] at h
        refine at_iload_n 1 dX0_shift_19 rfl ?_
        refine at_bipush 17 dX0_shift_20 bp_17 ?_
        refine at_icmp_ge 120 dX0_shift_22 (by decide) (fun c3 => ?_) (fun c3 => ?_)
        · rw [if_pos c3] at h
          cases h; exact at_vret rfl (Nat.le_refl _) (Nat.le_refl _) ⟨rfl, rfl⟩ dX0_shift_120
        · rw [if_neg c3] at h
          refine at_iconst 1 dX0_shift_25 ic_1 ?_
          refine at_iload_n 1 dX0_shift_26 rfl ?_
          refine at_ishl dX0_shift_27 ?_
          refine at_istore [(0, .ref (b + 9)), (3, .int v3), (4, .int v4), (5, .int v5), (6, .int (sp_shl 1 v3))] dX0_shift_28 (Nat.le_of_ble_eq_true rfl) rfl ?_
          refine at_aload_n 0 dX0_shift_30 rfl ?_
          refine at_getf cl_X0 (by decide) fl_X0_27 hg_9 rfl dX0_shift_31 ?_
          refine at_iload 4 dX0_shift_34 rfl ?_
          refine at_iand dX0_shift_36 ?_
          refine at_if_eq 44 dX0_shift_37 (by decide) (fun c4 => ?_) (fun c4 => ?_)
          · rw [if_pos c4] at h
            refine at_iconst 0 dX0_shift_44 ic_0 ?_
            exact t_X0_shift_45 hK N _ ih _ _ _ _ _ _ h
          · rw [if_neg c4] at h
            refine at_iconst 1 dX0_shift_40 ic_1 ?_
            refine at_goto 45 dX0_shift_41 (by decide) ?_
            exact t_X0_shift_45 hK N _ ih _ _ _ _ _ _ h
set_option maxRecDepth 100000 in
theorem t_X0_shift {D : va_G} {b : Nat} {K : State → Heap → Prop} {sa : Nat → Nat} (hK : sx_Kk b K sa) {N : Nat} {uG uN uD uR uP uL uT uA uM uH xA xB xC xD xE xF xG xH xI xJ xK xL uO : sx_C} {G : sx_H} {v1 : Int32} {v2 : Int32} {uF : sx_C} {res : sx_C} (h : f_X0_shift N v1 v2 uF = some res) : sx_Runs D b K yX0_shift YX0_shift (sx_rm 0) [.ref (b + 9), .int v1, .int v2] (sx_hp b uG uN uD uR uF uP uL uT uA uM uH xA xB xC xD xE xF xG xH xI xJ xK xL uO G) (sx_Ex none (sx_hp b uG uN uD uR res uP uL uT uA uM uH xA xB xC xD xE xF xG xH xI xJ xK xL uO G)) := by
  rw [f_X0_shift] at h
  refine sx_run (by decide +kernel) rfl rfl (Nat.le_of_ble_eq_true rfl) ?_
  refine at_iload_n 1 dX0_shift_0 rfl ?_
  refine at_istore_n [(0, .ref (b + 9)), (1, .int v1), (2, .int v2), (3, .int v1)] dX0_shift_1 (Nat.le_of_ble_eq_true rfl) rfl ?_
  refine at_iload_n 2 dX0_shift_2 rfl ?_
  refine at_istore [(0, .ref (b + 9)), (1, .int v1), (2, .int v2), (3, .int v1), (4, .int v2)] dX0_shift_3 (Nat.le_of_ble_eq_true rfl) rfl ?_
  refine at_iconst 0 dX0_shift_5 ic_0 ?_
  refine at_istore [(0, .ref (b + 9)), (1, .int v1), (2, .int v2), (3, .int v1), (4, .int v2), (5, .int 0)] dX0_shift_6 (Nat.le_of_ble_eq_true rfl) rfl ?_
  refine at_sub [0, 3, 4, 5] [(0, .ref (b + 9)), (3, .int v1), (4, .int v2), (5, .int 0)] rfl ?_
  exact t_X0_shift_8 hK N _ N _ _ _ _ h
set_option maxRecDepth 100000 in
theorem t_X0_bring_143 {D : va_G} {b : Nat} {K : State → Heap → Prop} {sa : Nat → Nat} (hK : sx_Kk b K sa) (N : Nat) {k47 : Int32 → Int32 → Int32 → sx_C → Option (Bool × sx_C)} {uG uN uD uR uP uL uT uA uM uH xA xB xC xD xE xF xG xH xI xJ xK xL uO : sx_C} {G : sx_H} (res : Bool × sx_C) (hk47 : ∀ (v2 : Int32) (v3 : Int32) (v4 : Int32) (uF : sx_C), k47 v2 v3 v4 uF = some res → sx_At D b K YX0_bring (sx_rm 1) (sx_Ex (some (.int (sp_b res.1))) (sx_hp b uG uN uD uR (res.2) uP uL uT uA uM uH xA xB xC xD xE xF xG xH xI xJ xK xL uO G)) 47 [(0, .ref (b + 9)), (2, .int v2), (3, .int v3), (4, .int v4)] [] (sx_hp b uG uN uD uR uF uP uL uT uA uM uH xA xB xC xD xE xF xG xH xI xJ xK xL uO G) 0 0) : ∀ (v2 : Int32) (v3 : Int32) (v4 : Int32) (v5 : Int32) (v6 : Int32) (s0 : Int32) (uF : sx_C), f_X0_bring_143 N k47 v2 v3 v4 v5 v6 s0 uF = some res → sx_At D b K YX0_bring (sx_rm 1) (sx_Ex (some (.int (sp_b res.1))) (sx_hp b uG uN uD uR (res.2) uP uL uT uA uM uH xA xB xC xD xE xF xG xH xI xJ xK xL uO G)) 143 [(0, .ref (b + 9)), (2, .int v2), (3, .int v3), (4, .int v4), (5, .int v5), (6, .int v6)] [.int s0] (sx_hp b uG uN uD uR uF uP uL uT uA uM uH xA xB xC xD xE xF xG xH xI xJ xK xL uO G) 0 0 := by
  intro v2 v3 v4 v5 v6 s0 uF h
  rw [f_X0_bring_143] at h
  refine at_istore [(0, .ref (b + 9)), (2, .int v2), (3, .int v3), (4, .int v4), (5, .int v5), (6, .int v6), (7, .int s0)] dX0_bring_143 (Nat.le_of_ble_eq_true rfl) rfl ?_
  refine at_iload 6 dX0_bring_145 rfl ?_
  refine at_iconst (-1) dX0_bring_147 ic_m1 ?_
  refine at_icmp_ne 160 dX0_bring_148 (by decide) (fun c12 => ?_) (fun c12 => ?_)
  · rw [if_neg c12] at h
    refine at_iload 5 dX0_bring_160 rfl ?_
    refine at_iload 6 dX0_bring_162 rfl ?_
    refine at_ior dX0_bring_164 ?_
    refine at_iload_n 1 dX0_bring_165 rfl ?_
    refine at_iconst (-1) dX0_bring_166 ic_m1 ?_
    refine at_ixor dX0_bring_167 ?_
    refine at_iand dX0_bring_168 ?_
    refine at_istore [(0, .ref (b + 9)), (2, .int v2), (3, .int v3), (4, .int v4), (5, .int v5), (6, .int v6), (7, .int s0), (8, .int ((v6 ||| s0) &&& (v2 ^^^ (-1))))] dX0_bring_169 (Nat.le_of_ble_eq_true rfl) rfl ?_
    refine at_iload_n 1 dX0_bring_171 rfl ?_
    refine at_iload 7 dX0_bring_172 rfl ?_
    refine at_ior dX0_bring_174 ?_
    refine at_istore_n [(0, .ref (b + 9)), (2, .int (v2 ||| ((v6 ||| s0) &&& (v2 ^^^ (-1))))), (3, .int v3), (4, .int v4), (5, .int v5), (6, .int v6), (7, .int s0), (8, .int ((v6 ||| s0) &&& (v2 ^^^ (-1))))] dX0_bring_175 (Nat.le_of_ble_eq_true rfl) rfl ?_
    refine at_aload_n 0 dX0_bring_176 rfl ?_
    refine at_iload 7 dX0_bring_177 rfl ?_
    refine at_iload 4 dX0_bring_179 rfl ?_
    refine at_iload_n 2 dX0_bring_181 rfl ?_
    obtain ⟨q13, hq13, h⟩ := sp_bind h
    refine at_callVi (st := []) hK mt_X0_driven ml_X0_58 cl_X0 hg_9 (t_X0_driven hK hq13) rfl rfl (Nat.le_of_ble_eq_true rfl) ⟨Nat.le_of_ble_eq_true rfl, Nat.le_of_ble_eq_true rfl⟩ ⟨Nat.le_refl _, Nat.le_refl _⟩ dX0_bring_182 ?_
    refine at_istore_n [(0, .ref (b + 9)), (2, .int (v2 ||| ((v6 ||| s0) &&& (v2 ^^^ (-1))))), (3, .int (q13.1)), (4, .int v4), (5, .int v5), (6, .int v6), (7, .int s0), (8, .int ((v6 ||| s0) &&& (v2 ^^^ (-1))))] dX0_bring_185 (Nat.le_of_ble_eq_true rfl) rfl ?_
    refine at_iinc 3 1 [(0, .ref (b + 9)), (2, .int (v2 ||| ((v6 ||| s0) &&& (v2 ^^^ (-1))))), (3, .int (q13.1)), (4, .int (v4 + 1)), (5, .int v5), (6, .int v6), (7, .int s0), (8, .int ((v6 ||| s0) &&& (v2 ^^^ (-1))))] dX0_bring_186 rfl ic_1 (Nat.le_of_ble_eq_true rfl) rfl ?_
    refine at_goto 47 dX0_bring_189 (by decide) ?_
    refine at_sub [0, 1, 2, 3] [(0, .ref (b + 9)), (2, .int (v2 ||| ((v6 ||| s0) &&& (v2 ^^^ (-1))))), (3, .int (q13.1)), (4, .int (v4 + 1))] rfl ?_
    exact hk47 _ _ _ _ h
  · rw [if_pos c12] at h
    refine at_aload_n 0 dX0_bring_151 rfl ?_
    refine at_iload 4 dX0_bring_152 rfl ?_
    refine at_iconst 0 dX0_bring_154 ic_0 ?_
    obtain ⟨q14, hq14, h⟩ := sp_bind h
    refine at_callVv (st := []) hK mt_X0_shift ml_X0_54 cl_X0 hg_9 (t_X0_shift hK hq14) rfl rfl (Nat.le_of_ble_eq_true rfl) ⟨Nat.le_of_ble_eq_true rfl, Nat.le_of_ble_eq_true rfl⟩ ⟨Nat.le_refl _, Nat.le_refl _⟩ dX0_bring_155 ?_
    refine at_iconst 1 dX0_bring_158 ic_1 ?_
    cases h; exact at_zret rfl rfl (Nat.le_refl _) (Nat.le_refl _) ⟨rfl, rfl⟩ dX0_bring_159
set_option maxRecDepth 100000 in
theorem t_X0_bring_100 {D : va_G} {b : Nat} {K : State → Heap → Prop} {sa : Nat → Nat} (hK : sx_Kk b K sa) (N : Nat) {k47 : Int32 → Int32 → Int32 → sx_C → Option (Bool × sx_C)} {uG uN uD uR uP uL uT uA uM uH xA xB xC xD xE xF xG xH xI xJ xK xL uO : sx_C} {G : sx_H} (res : Bool × sx_C) (hk47 : ∀ (v2 : Int32) (v3 : Int32) (v4 : Int32) (uF : sx_C), k47 v2 v3 v4 uF = some res → sx_At D b K YX0_bring (sx_rm 1) (sx_Ex (some (.int (sp_b res.1))) (sx_hp b uG uN uD uR (res.2) uP uL uT uA uM uH xA xB xC xD xE xF xG xH xI xJ xK xL uO G)) 47 [(0, .ref (b + 9)), (2, .int v2), (3, .int v3), (4, .int v4)] [] (sx_hp b uG uN uD uR uF uP uL uT uA uM uH xA xB xC xD xE xF xG xH xI xJ xK xL uO G) 0 0) : ∀ (v2 : Int32) (v3 : Int32) (v4 : Int32) (v5 : Int32) (s0 : Int32) (uF : sx_C), f_X0_bring_100 N k47 v2 v3 v4 v5 s0 uF = some res → sx_At D b K YX0_bring (sx_rm 1) (sx_Ex (some (.int (sp_b res.1))) (sx_hp b uG uN uD uR (res.2) uP uL uT uA uM uH xA xB xC xD xE xF xG xH xI xJ xK xL uO G)) 100 [(0, .ref (b + 9)), (2, .int v2), (3, .int v3), (4, .int v4), (5, .int v5)] [.int s0] (sx_hp b uG uN uD uR uF uP uL uT uA uM uH xA xB xC xD xE xF xG xH xI xJ xK xL uO G) 0 0 := by
  intro v2 v3 v4 v5 s0 uF h
  rw [f_X0_bring_100] at h
  refine at_istore [(0, .ref (b + 9)), (2, .int v2), (3, .int v3), (4, .int v4), (5, .int v5), (6, .int s0)] dX0_bring_100 (Nat.le_of_ble_eq_true rfl) rfl ?_
  refine at_iload 5 dX0_bring_102 rfl ?_
  refine at_iconst (-1) dX0_bring_104 ic_m1 ?_
  refine at_icmp_ne 117 dX0_bring_105 (by decide) (fun c7 => ?_) (fun c7 => ?_)
  · rw [if_neg c7] at h
    refine at_aload_n 0 dX0_bring_117 rfl ?_
    refine at_getf cl_X0 (by decide) fl_X0_31 hg_9 rfl dX0_bring_118 ?_
    refine at_iload 4 dX0_bring_121 rfl ?_
    obtain ⟨q8, hq8, h⟩ := sp_bind h
    refine at_callSi (st := []) hK mt_X11_has ml_X0_46 (t_X11_has hK hq8) rfl rfl (Nat.le_of_ble_eq_true rfl) ⟨Nat.le_of_ble_eq_true rfl, Nat.le_of_ble_eq_true rfl⟩ ⟨Nat.le_refl _, Nat.le_refl _⟩ dX0_bring_123 ?_
    refine at_zeq 133 dX0_bring_126 (by decide) (fun c9 => ?_) (fun c9 => ?_)
    · rw [if_neg c9] at h
      refine at_aload_n 0 dX0_bring_133 rfl ?_
      refine at_aload_n 0 dX0_bring_134 rfl ?_
      refine at_getf cl_X0 (by decide) fl_X0_31 hg_9 rfl dX0_bring_135 ?_
      refine at_iload 4 dX0_bring_138 rfl ?_
      obtain ⟨q10, hq10, h⟩ := sp_bind h
      refine at_callVi (st := []) hK mt_X0_ring ml_X0_50 cl_X0 hg_9 (t_X0_ring hK hq10) rfl rfl (Nat.le_of_ble_eq_true rfl) ⟨Nat.le_of_ble_eq_true rfl, Nat.le_of_ble_eq_true rfl⟩ ⟨Nat.le_refl _, Nat.le_refl _⟩ dX0_bring_140 ?_
      exact t_X0_bring_143 hK N _ hk47 _ _ _ _ _ _ _ h
    · rw [if_pos c9] at h
      refine at_iconst 0 dX0_bring_129 ic_0 ?_
      refine at_goto 143 dX0_bring_130 (by decide) ?_
      exact t_X0_bring_143 hK N _ hk47 _ _ _ _ _ _ _ h
  · rw [if_pos c7] at h
    refine at_aload_n 0 dX0_bring_108 rfl ?_
    refine at_iload 4 dX0_bring_109 rfl ?_
    refine at_iconst 1 dX0_bring_111 ic_1 ?_
    obtain ⟨q11, hq11, h⟩ := sp_bind h
    refine at_callVv (st := []) hK mt_X0_shift ml_X0_54 cl_X0 hg_9 (t_X0_shift hK hq11) rfl rfl (Nat.le_of_ble_eq_true rfl) ⟨Nat.le_of_ble_eq_true rfl, Nat.le_of_ble_eq_true rfl⟩ ⟨Nat.le_refl _, Nat.le_refl _⟩ dX0_bring_112 ?_
    refine at_iconst 1 dX0_bring_115 ic_1 ?_
    cases h; exact at_zret rfl rfl (Nat.le_refl _) (Nat.le_refl _) ⟨rfl, rfl⟩ dX0_bring_116
set_option maxRecDepth 100000 in
theorem t_X0_bring_47 {D : va_G} {b : Nat} {K : State → Heap → Prop} {sa : Nat → Nat} (hK : sx_Kk b K sa) (N : Nat) {uG uN uD uR uP uL uT uA uM uH xA xB xC xD xE xF xG xH xI xJ xK xL uO : sx_C} {G : sx_H} (res : Bool × sx_C) : ∀ (n0 : Nat) (v2 : Int32) (v3 : Int32) (v4 : Int32) (uF : sx_C), f_X0_bring_47 N n0 v2 v3 v4 uF = some res → sx_At D b K YX0_bring (sx_rm 1) (sx_Ex (some (.int (sp_b res.1))) (sx_hp b uG uN uD uR (res.2) uP uL uT uA uM uH xA xB xC xD xE xF xG xH xI xJ xK xL uO G)) 47 [(0, .ref (b + 9)), (2, .int v2), (3, .int v3), (4, .int v4)] [] (sx_hp b uG uN uD uR uF uP uL uT uA uM uH xA xB xC xD xE xF xG xH xI xJ xK xL uO G) 0 0 := by
  intro n0
  induction n0 with
  | zero => intro _ _ _ _ h; cases h
  | succ n0 ih =>
    intro v2 v3 v4 uF h
    rw [f_X0_bring_47] at h
    refine at_iload 3 dX0_bring_47 rfl ?_
    refine at_iload_n 2 dX0_bring_49 rfl ?_
    refine at_icmp_ge 192 dX0_bring_50 (by decide) (fun c1 => ?_) (fun c1 => ?_)
    · rw [if_pos c1] at h
      refine at_iconst 0 dX0_bring_192 ic_0 ?_
      cases h; exact at_zret rfl rfl (Nat.le_refl _) (Nat.le_refl _) ⟨rfl, rfl⟩ dX0_bring_193
    · rw [if_neg c1] at h
      refine at_iload 3 dX0_bring_53 rfl ?_
      refine at_bipush 17 dX0_bring_55 bp_17 ?_
      refine at_icmp_ge 192 dX0_bring_57 (by decide) (fun c2 => ?_) (fun c2 => ?_)
      · rw [if_pos c2] at h
        refine at_iconst 0 dX0_bring_192 ic_0 ?_
        cases h; exact at_zret rfl rfl (Nat.le_refl _) (Nat.le_refl _) ⟨rfl, rfl⟩ dX0_bring_193
      · rw [if_neg c2] at h
        refine at_aload_n 0 dX0_bring_60 rfl ?_
        refine at_getf cl_X0 (by decide) fl_X0_21 hg_9 rfl dX0_bring_61 ?_
        refine at_iload 3 dX0_bring_64 rfl ?_
        obtain ⟨w3, hw3, h⟩ := sp_bind h
        refine at_iald hg_13 hw3 dX0_bring_66 ?_
        refine at_istore [(0, .ref (b + 9)), (2, .int v2), (3, .int v3), (4, .int v4), (5, .int w3)] dX0_bring_67 (Nat.le_of_ble_eq_true rfl) rfl ?_
        refine at_aload_n 0 dX0_bring_69 rfl ?_
        refine at_getf cl_X0 (by decide) fl_X0_27 hg_9 rfl dX0_bring_70 ?_
        refine at_aload_n 0 dX0_bring_73 rfl ?_
        refine at_getf cl_X0 (by decide) fl_X0_37 hg_9 rfl dX0_bring_74 ?_
        refine at_ior dX0_bring_77 ?_
        refine at_iload 4 dX0_bring_78 rfl ?_
        obtain ⟨q4, hq4, h⟩ := sp_bind h
        refine at_callSi (st := []) hK mt_X11_has ml_X0_46 (t_X11_has hK hq4) rfl rfl (Nat.le_of_ble_eq_true rfl) ⟨Nat.le_of_ble_eq_true rfl, Nat.le_of_ble_eq_true rfl⟩ ⟨Nat.le_refl _, Nat.le_refl _⟩ dX0_bring_80 ?_
        refine at_zeq 90 dX0_bring_83 (by decide) (fun c5 => ?_) (fun c5 => ?_)
        · rw [if_neg c5] at h
          refine at_aload_n 0 dX0_bring_90 rfl ?_
          refine at_aload_n 0 dX0_bring_91 rfl ?_
          refine at_getf cl_X0 (by decide) fl_X0_27 hg_9 rfl dX0_bring_92 ?_
          refine at_iload 4 dX0_bring_95 rfl ?_
          obtain ⟨q6, hq6, h⟩ := sp_bind h
          refine at_callVi (st := []) hK mt_X0_ring ml_X0_50 cl_X0 hg_9 (t_X0_ring hK hq6) rfl rfl (Nat.le_of_ble_eq_true rfl) ⟨Nat.le_of_ble_eq_true rfl, Nat.le_of_ble_eq_true rfl⟩ ⟨Nat.le_refl _, Nat.le_refl _⟩ dX0_bring_97 ?_
          exact t_X0_bring_100 hK N _ ih _ _ _ _ _ _ h
        · rw [if_pos c5] at h
          refine at_iconst 0 dX0_bring_86 ic_0 ?_
          refine at_goto 100 dX0_bring_87 (by decide) ?_
          exact t_X0_bring_100 hK N _ ih _ _ _ _ _ _ h
set_option maxRecDepth 100000 in
theorem t_X0_bring {D : va_G} {b : Nat} {K : State → Heap → Prop} {sa : Nat → Nat} (hK : sx_Kk b K sa) {N : Nat} {uG uN uD uR uP uL uT uA uM uH xA xB xC xD xE xF xG xH xI xJ xK xL uO : sx_C} {G : sx_H} {v1 : Int32} {uF : sx_C} {res : Bool × sx_C} (h : f_X0_bring N v1 uF = some res) : sx_Runs D b K yX0_bring YX0_bring (sx_rm 1) [.ref (b + 9), .int v1] (sx_hp b uG uN uD uR uF uP uL uT uA uM uH xA xB xC xD xE xF xG xH xI xJ xK xL uO G) (sx_Ex (some (.int (sp_b res.1))) (sx_hp b uG uN uD uR (res.2) uP uL uT uA uM uH xA xB xC xD xE xF xG xH xI xJ xK xL uO G)) := by
  rw [f_X0_bring] at h
  refine sx_run (by decide +kernel) rfl rfl (Nat.le_of_ble_eq_true rfl) ?_
  refine at_iload_n 1 dX0_bring_0 rfl ?_
  refine at_if_lt 10 dX0_bring_1 (by decide) (fun c15 => ?_) (fun c15 => ?_)
  · rw [if_pos c15] at h
    refine at_iconst 0 dX0_bring_10 ic_0 ?_
    cases h; exact at_zret rfl rfl (Nat.le_refl _) (Nat.le_refl _) ⟨rfl, rfl⟩ dX0_bring_11
  · rw [if_neg c15] at h
    refine at_iload_n 1 dX0_bring_4 rfl ?_
    refine at_bipush 17 dX0_bring_5 bp_17 ?_
    refine at_icmp_lt 12 dX0_bring_7 (by decide) (fun c16 => ?_) (fun c16 => ?_)
    · rw [if_pos c16] at h
      refine at_aload_n 0 dX0_bring_12 rfl ?_
      refine at_dup dX0_bring_13 rfl ?_
      refine at_getf cl_X0 (by decide) fl_X0_34 hg_9 rfl dX0_bring_14 ?_
      refine at_iconst 1 dX0_bring_17 ic_1 ?_
      refine at_iload_n 1 dX0_bring_18 rfl ?_
      refine at_ishl dX0_bring_19 ?_
      refine at_ior dX0_bring_20 ?_
      refine at_putf cl_X0 (by decide) fl_X0_34 rfl hg_9 rfl rfl (Nat.le_of_ble_eq_true rfl) hs_9_7 dX0_bring_21 ?_
      refine at_aload_n 0 dX0_bring_24 rfl ?_
      refine at_getf cl_X0 (by decide) fl_X0_21 hg_9 rfl dX0_bring_25 ?_
      refine at_iconst 0 dX0_bring_28 ic_0 ?_
      refine at_iload_n 1 dX0_bring_29 rfl ?_
      obtain ⟨hi17, h⟩ := sp_chk h
      refine at_iast hg_13 hi17 hs_13 dX0_bring_30 ?_
      refine at_aload_n 0 dX0_bring_31 rfl ?_
      refine at_getf cl_X0 (by decide) fl_X0_18 hg_9 rfl dX0_bring_32 ?_
      refine at_iload_n 1 dX0_bring_35 rfl ?_
      refine at_iconst (-1) dX0_bring_36 ic_m1 ?_
      obtain ⟨hi18, h⟩ := sp_chk h
      refine at_iast hg_12 hi18 hs_12 dX0_bring_37 ?_
      refine at_iconst 1 dX0_bring_38 ic_1 ?_
      refine at_iload_n 1 dX0_bring_39 rfl ?_
      refine at_ishl dX0_bring_40 ?_
      refine at_istore_n [(0, .ref (b + 9)), (1, .int v1), (2, .int (sp_shl 1 v1))] dX0_bring_41 (Nat.le_of_ble_eq_true rfl) rfl ?_
      refine at_iconst 1 dX0_bring_42 ic_1 ?_
      refine at_istore_n [(0, .ref (b + 9)), (1, .int v1), (2, .int (sp_shl 1 v1)), (3, .int 1)] dX0_bring_43 (Nat.le_of_ble_eq_true rfl) rfl ?_
      refine at_iconst 0 dX0_bring_44 ic_0 ?_
      refine at_istore [(0, .ref (b + 9)), (1, .int v1), (2, .int (sp_shl 1 v1)), (3, .int 1), (4, .int 0)] dX0_bring_45 (Nat.le_of_ble_eq_true rfl) rfl ?_
      refine at_sub [0, 2, 3, 4] [(0, .ref (b + 9)), (2, .int (sp_shl 1 v1)), (3, .int 1), (4, .int 0)] rfl ?_
      exact t_X0_bring_47 hK N _ N _ _ _ _ h
    · rw [if_neg c16] at h
      refine at_iconst 0 dX0_bring_10 ic_0 ?_
      cases h; exact at_zret rfl rfl (Nat.le_refl _) (Nat.le_refl _) ⟨rfl, rfl⟩ dX0_bring_11
set_option maxRecDepth 100000 in
theorem t_X0_bringAny_43 {D : va_G} {b : Nat} {K : State → Heap → Prop} {sa : Nat → Nat} (hK : sx_Kk b K sa) (N : Nat) {k19 : Int32 → Int32 → sx_C → Option (Bool × sx_C)} {uG uN uD uR uP uL uT uA uM uH xA xB xC xD xE xF xG xH xI xJ xK xL uO : sx_C} {G : sx_H} (res : Bool × sx_C) (hk19 : ∀ (v1 : Int32) (v2 : Int32) (uF : sx_C), k19 v1 v2 uF = some res → sx_At D b K YX0_bringAny (sx_rm 2) (sx_Ex (some (.int (sp_b res.1))) (sx_hp b uG uN uD uR (res.2) uP uL uT uA uM uH xA xB xC xD xE xF xG xH xI xJ xK xL uO G)) 19 [(0, .ref (b + 9)), (1, .int v1), (2, .int v2)] [] (sx_hp b uG uN uD uR uF uP uL uT uA uM uH xA xB xC xD xE xF xG xH xI xJ xK xL uO G) 0 0) : ∀ (v1 : Int32) (v2 : Int32) (uF : sx_C), f_X0_bringAny_43 N k19 v1 v2 uF = some res → sx_At D b K YX0_bringAny (sx_rm 2) (sx_Ex (some (.int (sp_b res.1))) (sx_hp b uG uN uD uR (res.2) uP uL uT uA uM uH xA xB xC xD xE xF xG xH xI xJ xK xL uO G)) 43 [(0, .ref (b + 9)), (1, .int v1), (2, .int v2)] [] (sx_hp b uG uN uD uR uF uP uL uT uA uM uH xA xB xC xD xE xF xG xH xI xJ xK xL uO G) 0 0 := by
  intro v1 v2 uF h
  rw [f_X0_bringAny_43] at h
  refine at_iinc 2 1 [(0, .ref (b + 9)), (1, .int v1), (2, .int (v2 + 1))] dX0_bringAny_43 rfl ic_1 (Nat.le_of_ble_eq_true rfl) rfl ?_
  refine at_goto 19 dX0_bringAny_46 (by decide) ?_
  exact hk19 _ _ _ h
set_option maxRecDepth 100000 in
theorem t_X0_bringAny_19 {D : va_G} {b : Nat} {K : State → Heap → Prop} {sa : Nat → Nat} (hK : sx_Kk b K sa) (N : Nat) {uG uN uD uR uP uL uT uA uM uH xA xB xC xD xE xF xG xH xI xJ xK xL uO : sx_C} {G : sx_H} (res : Bool × sx_C) : ∀ (n0 : Nat) (v1 : Int32) (v2 : Int32) (uF : sx_C), f_X0_bringAny_19 N n0 v1 v2 uF = some res → sx_At D b K YX0_bringAny (sx_rm 2) (sx_Ex (some (.int (sp_b res.1))) (sx_hp b uG uN uD uR (res.2) uP uL uT uA uM uH xA xB xC xD xE xF xG xH xI xJ xK xL uO G)) 19 [(0, .ref (b + 9)), (1, .int v1), (2, .int v2)] [] (sx_hp b uG uN uD uR uF uP uL uT uA uM uH xA xB xC xD xE xF xG xH xI xJ xK xL uO G) 0 0 := by
  intro n0
  induction n0 with
  | zero => intro _ _ _ h; cases h
  | succ n0 ih =>
    intro v1 v2 uF h
    rw [f_X0_bringAny_19] at h
    refine at_iload_n 2 dX0_bringAny_19 rfl ?_
    refine at_bipush 17 dX0_bringAny_20 bp_17 ?_
    refine at_icmp_ge 49 dX0_bringAny_22 (by decide) (fun c1 => ?_) (fun c1 => ?_)
    · rw [if_pos c1] at h
      refine at_iconst 0 dX0_bringAny_49 ic_0 ?_
      cases h; exact at_zret rfl rfl (Nat.le_refl _) (Nat.le_refl _) ⟨rfl, rfl⟩ dX0_bringAny_50
    · rw [if_neg c1] at h
      refine at_iload_n 1 dX0_bringAny_25 rfl ?_
      refine at_iload_n 2 dX0_bringAny_26 rfl ?_
      obtain ⟨q2, hq2, h⟩ := sp_bind h
      refine at_callSi (st := []) hK mt_X11_has ml_X0_46 (t_X11_has hK hq2) rfl rfl (Nat.le_of_ble_eq_true rfl) ⟨Nat.le_of_ble_eq_true rfl, Nat.le_of_ble_eq_true rfl⟩ ⟨Nat.le_refl _, Nat.le_refl _⟩ dX0_bringAny_27 ?_
      refine at_zeq 43 dX0_bringAny_30 (by decide) (fun c3 => ?_) (fun c3 => ?_)
      · rw [if_neg c3] at h
        exact t_X0_bringAny_43 hK N _ ih _ _ _ h
      · rw [if_pos c3] at h
        refine at_aload_n 0 dX0_bringAny_33 rfl ?_
        refine at_iload_n 2 dX0_bringAny_34 rfl ?_
        obtain ⟨q4, hq4, h⟩ := sp_bind h
        refine at_callVi (st := []) hK mt_X0_bring ml_X0_69 cl_X0 hg_9 (t_X0_bring hK hq4) rfl rfl (Nat.le_of_ble_eq_true rfl) ⟨Nat.le_of_ble_eq_true rfl, Nat.le_of_ble_eq_true rfl⟩ ⟨Nat.le_refl _, Nat.le_refl _⟩ dX0_bringAny_35 ?_
        refine at_zeq 43 dX0_bringAny_38 (by decide) (fun c5 => ?_) (fun c5 => ?_)
        · rw [if_neg c5] at h
          exact t_X0_bringAny_43 hK N _ ih _ _ _ h
        · rw [if_pos c5] at h
          refine at_iconst 1 dX0_bringAny_41 ic_1 ?_
          cases h; exact at_zret rfl rfl (Nat.le_refl _) (Nat.le_refl _) ⟨rfl, rfl⟩ dX0_bringAny_42
set_option maxRecDepth 100000 in
theorem t_X0_bringAny {D : va_G} {b : Nat} {K : State → Heap → Prop} {sa : Nat → Nat} (hK : sx_Kk b K sa) {N : Nat} {uG uN uD uR uP uL uT uA uM uH xA xB xC xD xE xF xG xH xI xJ xK xL uO : sx_C} {G : sx_H} {uF : sx_C} {res : Bool × sx_C} (h : f_X0_bringAny N uF = some res) : sx_Runs D b K yX0_bringAny YX0_bringAny (sx_rm 2) [.ref (b + 9)] (sx_hp b uG uN uD uR uF uP uL uT uA uM uH xA xB xC xD xE xF xG xH xI xJ xK xL uO G) (sx_Ex (some (.int (sp_b res.1))) (sx_hp b uG uN uD uR (res.2) uP uL uT uA uM uH xA xB xC xD xE xF xG xH xI xJ xK xL uO G)) := by
  rw [f_X0_bringAny] at h
  refine sx_run (by decide +kernel) rfl rfl (Nat.le_of_ble_eq_true rfl) ?_
  refine at_aload_n 0 dX0_bringAny_0 rfl ?_
  refine at_getf cl_X0 (by decide) fl_X0_34 hg_9 rfl dX0_bringAny_1 ?_
  refine at_aload_n 0 dX0_bringAny_4 rfl ?_
  refine at_getf cl_X0 (by decide) fl_X0_27 hg_9 rfl dX0_bringAny_5 ?_
  refine at_aload_n 0 dX0_bringAny_8 rfl ?_
  refine at_getf cl_X0 (by decide) fl_X0_31 hg_9 rfl dX0_bringAny_9 ?_
  refine at_ior dX0_bringAny_12 ?_
  refine at_iconst (-1) dX0_bringAny_13 ic_m1 ?_
  refine at_ixor dX0_bringAny_14 ?_
  refine at_iand dX0_bringAny_15 ?_
  refine at_istore_n [(0, .ref (b + 9)), (1, .int ((gi uF 7) &&& (((gi uF 5) ||| (gi uF 6)) ^^^ (-1))))] dX0_bringAny_16 (Nat.le_of_ble_eq_true rfl) rfl ?_
  refine at_iconst 0 dX0_bringAny_17 ic_0 ?_
  refine at_istore_n [(0, .ref (b + 9)), (1, .int ((gi uF 7) &&& (((gi uF 5) ||| (gi uF 6)) ^^^ (-1)))), (2, .int 0)] dX0_bringAny_18 (Nat.le_of_ble_eq_true rfl) rfl ?_
  exact t_X0_bringAny_19 hK N _ N _ _ _ h
set_option maxRecDepth 100000 in
theorem t_X0_leastForest_34 {D : va_G} {b : Nat} {K : State → Heap → Prop} {sa : Nat → Nat} (hK : sx_Kk b K sa) (N : Nat) {k4 : Int32 → Int32 → Int32 → sx_C → Option (Int32 × sx_C)} {uG uN uD uR uP uL uT uA uM uH xA xB xC xD xE xF xG xH xI xJ xK xL uO : sx_C} {G : sx_H} (res : Int32 × sx_C) (hk4 : ∀ (v1 : Int32) (v2 : Int32) (v3 : Int32) (uF : sx_C), k4 v1 v2 v3 uF = some res → sx_At D b K YX0_leastForest (sx_rm 1) (sx_Ex (some (.int res.1)) (sx_hp b uG uN uD uR (res.2) uP uL uT uA uM uH xA xB xC xD xE xF xG xH xI xJ xK xL uO G)) 4 [(0, .ref (b + 9)), (1, .int v1), (2, .int v2), (3, .int v3)] [] (sx_hp b uG uN uD uR uF uP uL uT uA uM uH xA xB xC xD xE xF xG xH xI xJ xK xL uO G) 0 0) : ∀ (v1 : Int32) (v2 : Int32) (v3 : Int32) (uF : sx_C), f_X0_leastForest_34 N k4 v1 v2 v3 uF = some res → sx_At D b K YX0_leastForest (sx_rm 1) (sx_Ex (some (.int res.1)) (sx_hp b uG uN uD uR (res.2) uP uL uT uA uM uH xA xB xC xD xE xF xG xH xI xJ xK xL uO G)) 34 [(0, .ref (b + 9)), (1, .int v1), (2, .int v2), (3, .int v3)] [] (sx_hp b uG uN uD uR uF uP uL uT uA uM uH xA xB xC xD xE xF xG xH xI xJ xK xL uO G) 0 0 := by
  intro v1 v2 v3 uF h
  rw [f_X0_leastForest_34] at h
  refine at_iinc 3 1 [(0, .ref (b + 9)), (1, .int v1), (2, .int v2), (3, .int (v3 + 1))] dX0_leastForest_34 rfl ic_1 (Nat.le_of_ble_eq_true rfl) rfl ?_
  refine at_goto 4 dX0_leastForest_37 (by decide) ?_
  exact hk4 _ _ _ _ h
set_option maxRecDepth 100000 in
theorem t_X0_leastForest_4 {D : va_G} {b : Nat} {K : State → Heap → Prop} {sa : Nat → Nat} (hK : sx_Kk b K sa) (N : Nat) {uG uN uD uR uP uL uT uA uM uH xA xB xC xD xE xF xG xH xI xJ xK xL uO : sx_C} {G : sx_H} (res : Int32 × sx_C) : ∀ (n0 : Nat) (v1 : Int32) (v2 : Int32) (v3 : Int32) (uF : sx_C), f_X0_leastForest_4 N n0 v1 v2 v3 uF = some res → sx_At D b K YX0_leastForest (sx_rm 1) (sx_Ex (some (.int res.1)) (sx_hp b uG uN uD uR (res.2) uP uL uT uA uM uH xA xB xC xD xE xF xG xH xI xJ xK xL uO G)) 4 [(0, .ref (b + 9)), (1, .int v1), (2, .int v2), (3, .int v3)] [] (sx_hp b uG uN uD uR uF uP uL uT uA uM uH xA xB xC xD xE xF xG xH xI xJ xK xL uO G) 0 0 := by
  intro n0
  induction n0 with
  | zero => intro _ _ _ _ h; cases h
  | succ n0 ih =>
    intro v1 v2 v3 uF h
    rw [f_X0_leastForest_4] at h
    refine at_iload_n 3 dX0_leastForest_4 rfl ?_
    refine at_bipush 17 dX0_leastForest_5 bp_17 ?_
    refine at_icmp_ge 40 dX0_leastForest_7 (by decide) (fun c1 => ?_) (fun c1 => ?_)
    · rw [if_pos c1] at h
      refine at_iload_n 2 dX0_leastForest_40 rfl ?_
      cases h; exact at_iret rfl (Nat.le_refl _) (Nat.le_refl _) ⟨rfl, rfl⟩ dX0_leastForest_41
    · rw [if_neg c1] at h
      refine at_iload_n 1 dX0_leastForest_10 rfl ?_
      refine at_iload_n 3 dX0_leastForest_11 rfl ?_
      obtain ⟨q2, hq2, h⟩ := sp_bind h
      refine at_callSi (st := []) hK mt_X11_has ml_X0_46 (t_X11_has hK hq2) rfl rfl (Nat.le_of_ble_eq_true rfl) ⟨Nat.le_of_ble_eq_true rfl, Nat.le_of_ble_eq_true rfl⟩ ⟨Nat.le_refl _, Nat.le_refl _⟩ dX0_leastForest_12 ?_
      refine at_zeq 34 dX0_leastForest_15 (by decide) (fun c3 => ?_) (fun c3 => ?_)
      · rw [if_neg c3] at h
        exact t_X0_leastForest_34 hK N _ ih _ _ _ _ h
      · rw [if_pos c3] at h
        refine at_aload_n 0 dX0_leastForest_18 rfl ?_
        refine at_iload_n 2 dX0_leastForest_19 rfl ?_
        refine at_iload_n 3 dX0_leastForest_20 rfl ?_
        obtain ⟨q4, hq4, h⟩ := sp_bind h
        refine at_callVi (st := []) hK mt_X0_ring ml_X0_50 cl_X0 hg_9 (t_X0_ring hK hq4) rfl rfl (Nat.le_of_ble_eq_true rfl) ⟨Nat.le_of_ble_eq_true rfl, Nat.le_of_ble_eq_true rfl⟩ ⟨Nat.le_refl _, Nat.le_refl _⟩ dX0_leastForest_21 ?_
        refine at_iconst (-1) dX0_leastForest_24 ic_m1 ?_
        refine at_icmp_ne 34 dX0_leastForest_25 (by decide) (fun c5 => ?_) (fun c5 => ?_)
        · rw [if_neg c5] at h
          exact t_X0_leastForest_34 hK N _ ih _ _ _ _ h
        · rw [if_pos c5] at h
          refine at_iload_n 2 dX0_leastForest_28 rfl ?_
          refine at_iconst 1 dX0_leastForest_29 ic_1 ?_
          refine at_iload_n 3 dX0_leastForest_30 rfl ?_
          refine at_ishl dX0_leastForest_31 ?_
          refine at_ior dX0_leastForest_32 ?_
          refine at_istore_n [(0, .ref (b + 9)), (1, .int v1), (2, .int (v2 ||| (sp_shl 1 v3))), (3, .int v3)] dX0_leastForest_33 (Nat.le_of_ble_eq_true rfl) rfl ?_
          exact t_X0_leastForest_34 hK N _ ih _ _ _ _ h
set_option maxRecDepth 100000 in
theorem t_X0_leastForest {D : va_G} {b : Nat} {K : State → Heap → Prop} {sa : Nat → Nat} (hK : sx_Kk b K sa) {N : Nat} {uG uN uD uR uP uL uT uA uM uH xA xB xC xD xE xF xG xH xI xJ xK xL uO : sx_C} {G : sx_H} {v1 : Int32} {uF : sx_C} {res : Int32 × sx_C} (h : f_X0_leastForest N v1 uF = some res) : sx_Runs D b K yX0_leastForest YX0_leastForest (sx_rm 1) [.ref (b + 9), .int v1] (sx_hp b uG uN uD uR uF uP uL uT uA uM uH xA xB xC xD xE xF xG xH xI xJ xK xL uO G) (sx_Ex (some (.int res.1)) (sx_hp b uG uN uD uR (res.2) uP uL uT uA uM uH xA xB xC xD xE xF xG xH xI xJ xK xL uO G)) := by
  rw [f_X0_leastForest] at h
  refine sx_run (by decide +kernel) rfl rfl (Nat.le_of_ble_eq_true rfl) ?_
  refine at_iconst 0 dX0_leastForest_0 ic_0 ?_
  refine at_istore_n [(0, .ref (b + 9)), (1, .int v1), (2, .int 0)] dX0_leastForest_1 (Nat.le_of_ble_eq_true rfl) rfl ?_
  refine at_iconst 0 dX0_leastForest_2 ic_0 ?_
  refine at_istore_n [(0, .ref (b + 9)), (1, .int v1), (2, .int 0), (3, .int 0)] dX0_leastForest_3 (Nat.le_of_ble_eq_true rfl) rfl ?_
  exact t_X0_leastForest_4 hK N _ N _ _ _ _ h
set_option maxRecDepth 100000 in
theorem t_X0_lower_85 {D : va_G} {b : Nat} {K : State → Heap → Prop} {sa : Nat → Nat} (hK : sx_Kk b K sa) (N : Nat) {k3 : Int32 → sx_C → Option (sx_C)} {uG uN uD uR uP uL uT uA uM uH xA xB xC xD xE xF xG xH xI xJ xK xL uO : sx_C} {G : sx_H} (res : sx_C) (hk3 : ∀ (v1 : Int32) (uF : sx_C), k3 v1 uF = some res → sx_At D b K YX0_lower (sx_rm 3) (sx_Ex none (sx_hp b uG uN uD uR res uP uL uT uA uM uH xA xB xC xD xE xF xG xH xI xJ xK xL uO G)) 3 [(0, .ref (b + 9)), (1, .int v1)] [] (sx_hp b uG uN uD uR uF uP uL uT uA uM uH xA xB xC xD xE xF xG xH xI xJ xK xL uO G) 0 0) : ∀ (v1 : Int32) (uF : sx_C), f_X0_lower_85 N k3 v1 uF = some res → sx_At D b K YX0_lower (sx_rm 3) (sx_Ex none (sx_hp b uG uN uD uR res uP uL uT uA uM uH xA xB xC xD xE xF xG xH xI xJ xK xL uO G)) 85 [(0, .ref (b + 9)), (1, .int v1)] [] (sx_hp b uG uN uD uR uF uP uL uT uA uM uH xA xB xC xD xE xF xG xH xI xJ xK xL uO G) 0 0 := by
  intro v1 uF h
  rw [f_X0_lower_85] at h
  refine at_iinc 1 (-1) [(0, .ref (b + 9)), (1, .int (v1 + (-1)))] dX0_lower_85 rfl ic_m1 (Nat.le_of_ble_eq_true rfl) rfl ?_
  refine at_goto 3 dX0_lower_88 (by decide) ?_
  exact hk3 _ _ h
set_option maxRecDepth 100000 in
theorem t_X0_lower_3 {D : va_G} {b : Nat} {K : State → Heap → Prop} {sa : Nat → Nat} (hK : sx_Kk b K sa) (N : Nat) {uG uN uD uR uP uL uT uA uM uH xA xB xC xD xE xF xG xH xI xJ xK xL uO : sx_C} {G : sx_H} (res : sx_C) : ∀ (n0 : Nat) (v1 : Int32) (uF : sx_C), f_X0_lower_3 N n0 v1 uF = some res → sx_At D b K YX0_lower (sx_rm 3) (sx_Ex none (sx_hp b uG uN uD uR res uP uL uT uA uM uH xA xB xC xD xE xF xG xH xI xJ xK xL uO G)) 3 [(0, .ref (b + 9)), (1, .int v1)] [] (sx_hp b uG uN uD uR uF uP uL uT uA uM uH xA xB xC xD xE xF xG xH xI xJ xK xL uO G) 0 0 := by
  intro n0
  induction n0 with
  | zero => intro _ _ h; cases h
  | succ n0 ih =>
    intro v1 uF h
    rw [f_X0_lower_3] at h
    refine at_iload_n 1 dX0_lower_3 rfl ?_
    refine at_if_lt 91 dX0_lower_4 (by decide) (fun c1 => ?_) (fun c1 => ?_)
    · rw [if_pos c1] at h
      refine at_aload_n 0 dX0_lower_91 rfl ?_
      refine at_aload_n 0 dX0_lower_92 rfl ?_
      refine at_aload_n 0 dX0_lower_93 rfl ?_
      refine at_getf cl_X0 (by decide) fl_X0_34 hg_9 rfl dX0_lower_94 ?_
      refine at_aload_n 0 dX0_lower_97 rfl ?_
      refine at_getf cl_X0 (by decide) fl_X0_27 hg_9 rfl dX0_lower_98 ?_
      refine at_iconst (-1) dX0_lower_101 ic_m1 ?_
      refine at_ixor dX0_lower_102 ?_
      refine at_iand dX0_lower_103 ?_
      obtain ⟨q2, hq2, h⟩ := sp_bind h
      refine at_callVi (st := [.ref (b + 9)]) hK mt_X0_leastForest ml_X0_66 cl_X0 hg_9 (t_X0_leastForest hK hq2) rfl rfl (Nat.le_of_ble_eq_true rfl) ⟨Nat.le_of_ble_eq_true rfl, Nat.le_of_ble_eq_true rfl⟩ ⟨Nat.le_refl _, Nat.le_refl _⟩ dX0_lower_104 ?_
      refine at_putf cl_X0 (by decide) fl_X0_31 rfl hg_9 rfl rfl (Nat.le_of_ble_eq_true rfl) hs_9_6 dX0_lower_107 ?_
      cases h; exact at_vret rfl (Nat.le_refl _) (Nat.le_refl _) ⟨rfl, rfl⟩ dX0_lower_110
    · rw [if_neg c1] at h
      refine at_aload_n 0 dX0_lower_7 rfl ?_
      refine at_dup dX0_lower_8 rfl ?_
      refine at_getf cl_X0 (by decide) fl_X0_37 hg_9 rfl dX0_lower_9 ?_
      refine at_iconst 1 dX0_lower_12 ic_1 ?_
      refine at_iload_n 1 dX0_lower_13 rfl ?_
      refine at_ishl dX0_lower_14 ?_
      refine at_ior dX0_lower_15 ?_
      refine at_putf cl_X0 (by decide) fl_X0_37 rfl hg_9 rfl rfl (Nat.le_of_ble_eq_true rfl) hs_9_8 dX0_lower_16 ?_
      refine at_aload_n 0 dX0_lower_19 rfl ?_
      refine at_getf cl_X0 (by decide) fl_X0_27 hg_9 rfl dX0_lower_20 ?_
      refine at_iload_n 1 dX0_lower_23 rfl ?_
      obtain ⟨q3, hq3, h⟩ := sp_bind h
      refine at_callSi (st := []) hK mt_X11_has ml_X0_46 (t_X11_has hK hq3) rfl rfl (Nat.le_of_ble_eq_true rfl) ⟨Nat.le_of_ble_eq_true rfl, Nat.le_of_ble_eq_true rfl⟩ ⟨Nat.le_refl _, Nat.le_refl _⟩ dX0_lower_24 ?_
      refine at_zeq 85 dX0_lower_27 (by decide) (fun c4 => ?_) (fun c4 => ?_)
      · rw [if_neg c4] at h
        exact t_X0_lower_85 hK N _ ih _ _ h
      · rw [if_pos c4] at h
        refine at_aload_n 0 dX0_lower_30 rfl ?_
        refine at_getf cl_X0 (by decide) fl_X0_27 hg_9 rfl dX0_lower_31 ?_
        refine at_istore_n [(0, .ref (b + 9)), (1, .int v1), (2, .int (gi (si uF 8 ((gi uF 8) ||| (sp_shl 1 v1))) 5))] dX0_lower_34 (Nat.le_of_ble_eq_true rfl) rfl ?_
        refine at_aload_n 0 dX0_lower_35 rfl ?_
        refine at_getf cl_X0 (by decide) fl_X0_31 hg_9 rfl dX0_lower_36 ?_
        refine at_istore_n [(0, .ref (b + 9)), (1, .int v1), (2, .int (gi (si uF 8 ((gi uF 8) ||| (sp_shl 1 v1))) 5)), (3, .int (gi (si uF 8 ((gi uF 8) ||| (sp_shl 1 v1))) 6))] dX0_lower_39 (Nat.le_of_ble_eq_true rfl) rfl ?_
        refine at_aload_n 0 dX0_lower_40 rfl ?_
        refine at_dup dX0_lower_41 rfl ?_
        refine at_getf cl_X0 (by decide) fl_X0_27 hg_9 rfl dX0_lower_42 ?_
        refine at_iconst 1 dX0_lower_45 ic_1 ?_
        refine at_iload_n 1 dX0_lower_46 rfl ?_
        refine at_ishl dX0_lower_47 ?_
        refine at_iconst (-1) dX0_lower_48 ic_m1 ?_
        refine at_ixor dX0_lower_49 ?_
        refine at_iand dX0_lower_50 ?_
        refine at_putf cl_X0 (by decide) fl_X0_27 rfl hg_9 rfl rfl (Nat.le_of_ble_eq_true rfl) hs_9_5 dX0_lower_51 ?_
        refine at_aload_n 0 dX0_lower_54 rfl ?_
        obtain ⟨q5, hq5, h⟩ := sp_bind h
        refine at_callVi (st := []) hK mt_X0_bringAny ml_X0_62 cl_X0 hg_9 (t_X0_bringAny hK hq5) rfl rfl (Nat.le_of_ble_eq_true rfl) ⟨Nat.le_of_ble_eq_true rfl, Nat.le_of_ble_eq_true rfl⟩ ⟨Nat.le_refl _, Nat.le_refl _⟩ dX0_lower_55 ?_
        refine at_zne 85 dX0_lower_58 (by decide) (fun c6 => ?_) (fun c6 => ?_)
        · rw [if_pos c6] at h
          refine at_sub [0, 1] [(0, .ref (b + 9)), (1, .int v1)] rfl ?_
          exact t_X0_lower_85 hK N _ ih _ _ h
        · rw [if_neg c6] at h
          refine at_aload_n 0 dX0_lower_61 rfl ?_
          refine at_iload_n 2 dX0_lower_62 rfl ?_
          refine at_putf cl_X0 (by decide) fl_X0_27 rfl hg_9 rfl rfl (Nat.le_of_ble_eq_true rfl) hs_9_5 dX0_lower_63 ?_
          refine at_aload_n 0 dX0_lower_66 rfl ?_
          refine at_iload_n 3 dX0_lower_67 rfl ?_
          refine at_putf cl_X0 (by decide) fl_X0_31 rfl hg_9 rfl rfl (Nat.le_of_ble_eq_true rfl) hs_9_6 dX0_lower_68 ?_
          refine at_aload_n 0 dX0_lower_71 rfl ?_
          refine at_dup dX0_lower_72 rfl ?_
          refine at_getf cl_X0 (by decide) fl_X0_37 hg_9 rfl dX0_lower_73 ?_
          refine at_iconst 1 dX0_lower_76 ic_1 ?_
          refine at_iload_n 1 dX0_lower_77 rfl ?_
          refine at_ishl dX0_lower_78 ?_
          refine at_iconst (-1) dX0_lower_79 ic_m1 ?_
          refine at_ixor dX0_lower_80 ?_
          refine at_iand dX0_lower_81 ?_
          refine at_putf cl_X0 (by decide) fl_X0_37 rfl hg_9 rfl rfl (Nat.le_of_ble_eq_true rfl) hs_9_8 dX0_lower_82 ?_
          refine at_sub [0, 1] [(0, .ref (b + 9)), (1, .int v1)] rfl ?_
          exact t_X0_lower_85 hK N _ ih _ _ h
set_option maxRecDepth 100000 in
theorem t_X0_lower {D : va_G} {b : Nat} {K : State → Heap → Prop} {sa : Nat → Nat} (hK : sx_Kk b K sa) {N : Nat} {uG uN uD uR uP uL uT uA uM uH xA xB xC xD xE xF xG xH xI xJ xK xL uO : sx_C} {G : sx_H} {uF : sx_C} {res : sx_C} (h : f_X0_lower N uF = some res) : sx_Runs D b K yX0_lower YX0_lower (sx_rm 3) [.ref (b + 9)] (sx_hp b uG uN uD uR uF uP uL uT uA uM uH xA xB xC xD xE xF xG xH xI xJ xK xL uO G) (sx_Ex none (sx_hp b uG uN uD uR res uP uL uT uA uM uH xA xB xC xD xE xF xG xH xI xJ xK xL uO G)) := by
  rw [f_X0_lower] at h
  refine sx_run (by decide +kernel) rfl rfl (Nat.le_of_ble_eq_true rfl) ?_
  refine at_bipush 16 dX0_lower_0 bp_16 ?_
  refine at_istore_n [(0, .ref (b + 9)), (1, .int 16)] dX0_lower_2 (Nat.le_of_ble_eq_true rfl) rfl ?_
  exact t_X0_lower_3 hK N _ N _ _ h
set_option maxRecDepth 100000 in
theorem t_X0_begin {D : va_G} {b : Nat} {K : State → Heap → Prop} {sa : Nat → Nat} (hK : sx_Kk b K sa) {uG uN uD uR uP uL uT uA uM uH xA xB xC xD xE xF xG xH xI xJ xK xL uO : sx_C} {G : sx_H} {uF : sx_C} {res : sx_C} (h : f_X0_begin uF = some res) : sx_Runs D b K yX0_begin YX0_begin (sx_rm 0) [.ref (b + 9)] (sx_hp b uG uN uD uR uF uP uL uT uA uM uH xA xB xC xD xE xF xG xH xI xJ xK xL uO G) (sx_Ex none (sx_hp b uG uN uD uR res uP uL uT uA uM uH xA xB xC xD xE xF xG xH xI xJ xK xL uO G)) := by
  rw [f_X0_begin] at h
  refine sx_run (by decide +kernel) rfl rfl (Nat.le_of_ble_eq_true rfl) ?_
  refine at_aload_n 0 dX0_begin_0 rfl ?_
  refine at_iconst 0 dX0_begin_1 ic_0 ?_
  refine at_putf cl_X0 (by decide) fl_X0_27 rfl hg_9 rfl rfl (Nat.le_of_ble_eq_true rfl) hs_9_5 dX0_begin_2 ?_
  refine at_aload_n 0 dX0_begin_5 rfl ?_
  refine at_iconst 0 dX0_begin_6 ic_0 ?_
  refine at_putf cl_X0 (by decide) fl_X0_31 rfl hg_9 rfl rfl (Nat.le_of_ble_eq_true rfl) hs_9_6 dX0_begin_7 ?_
  refine at_aload_n 0 dX0_begin_10 rfl ?_
  refine at_iconst 0 dX0_begin_11 ic_0 ?_
  refine at_putf cl_X0 (by decide) fl_X0_34 rfl hg_9 rfl rfl (Nat.le_of_ble_eq_true rfl) hs_9_7 dX0_begin_12 ?_
  refine at_aload_n 0 dX0_begin_15 rfl ?_
  refine at_iconst 0 dX0_begin_16 ic_0 ?_
  refine at_putf cl_X0 (by decide) fl_X0_37 rfl hg_9 rfl rfl (Nat.le_of_ble_eq_true rfl) hs_9_8 dX0_begin_17 ?_
  cases h; exact at_vret rfl (Nat.le_refl _) (Nat.le_refl _) ⟨rfl, rfl⟩ dX0_begin_20
set_option maxRecDepth 100000 in
theorem t_X0_total {D : va_G} {b : Nat} {K : State → Heap → Prop} {sa : Nat → Nat} (hK : sx_Kk b K sa) {uG uN uD uR uF uP uL uT uA uM uH xA xB xC xD xE xF xG xH xI xJ xK xL uO : sx_C} {G : sx_H} {res : Int32} (h : f_X0_total uF  = some res) : sx_Runs D b K yX0_total YX0_total (sx_rm 1) [.ref (b + 9)] (sx_hp b uG uN uD uR uF uP uL uT uA uM uH xA xB xC xD xE xF xG xH xI xJ xK xL uO G) (sx_Ex (some (.int res)) (sx_hp b uG uN uD uR uF uP uL uT uA uM uH xA xB xC xD xE xF xG xH xI xJ xK xL uO G)) := by
  rw [f_X0_total] at h
  refine sx_run (by decide +kernel) rfl rfl (Nat.le_of_ble_eq_true rfl) ?_
  refine at_aload_n 0 dX0_total_0 rfl ?_
  refine at_getf cl_X0 (by decide) fl_X0_27 hg_9 rfl dX0_total_1 ?_
  obtain ⟨q1, hq1, h⟩ := sp_bind h
  refine at_callSi (st := []) hK mt_J6_bitCount_0f7a4 ml_X0_40 (t_J6_bitCount_0f7a4 hK hq1) rfl rfl (Nat.le_of_ble_eq_true rfl) ⟨Nat.le_of_ble_eq_true rfl, Nat.le_of_ble_eq_true rfl⟩ ⟨Nat.le_refl _, Nat.le_refl _⟩ dX0_total_4 ?_
  refine at_aload_n 0 dX0_total_7 rfl ?_
  refine at_getf cl_X0 (by decide) fl_X0_31 hg_9 rfl dX0_total_8 ?_
  obtain ⟨q2, hq2, h⟩ := sp_bind h
  refine at_callSi (st := [.int q1]) hK mt_J6_bitCount_0f7a4 ml_X0_40 (t_J6_bitCount_0f7a4 hK hq2) rfl rfl (Nat.le_of_ble_eq_true rfl) ⟨Nat.le_of_ble_eq_true rfl, Nat.le_of_ble_eq_true rfl⟩ ⟨Nat.le_refl _, Nat.le_refl _⟩ dX0_total_11 ?_
  refine at_iadd dX0_total_14 ?_
  cases h; exact at_iret rfl (Nat.le_refl _) (Nat.le_refl _) ⟨rfl, rfl⟩ dX0_total_15
set_option maxRecDepth 100000 in
theorem t_X0_isInside {D : va_G} {b : Nat} {K : State → Heap → Prop} {sa : Nat → Nat} (hK : sx_Kk b K sa) {uG uN uD uR uF uP uL uT uA uM uH xA xB xC xD xE xF xG xH xI xJ xK xL uO : sx_C} {G : sx_H} {v1 : Int32} {v2 : Int32} {res : Bool} (h : f_X0_isInside uF v1 v2 = some res) : sx_Runs D b K yX0_isInside YX0_isInside (sx_rm 0) [.ref (b + 9), .int v1, .int v2] (sx_hp b uG uN uD uR uF uP uL uT uA uM uH xA xB xC xD xE xF xG xH xI xJ xK xL uO G) (sx_Ex (some (.int (sp_b res))) (sx_hp b uG uN uD uR uF uP uL uT uA uM uH xA xB xC xD xE xF xG xH xI xJ xK xL uO G)) := by
  rw [f_X0_isInside] at h
  refine sx_run (by decide +kernel) rfl rfl (Nat.le_of_ble_eq_true rfl) ?_
  refine at_iload_n 1 dX0_isInside_0 rfl ?_
  refine at_if_lt 25 dX0_isInside_1 (by decide) (fun c1 => ?_) (fun c1 => ?_)
  · rw [if_pos c1] at h
    refine at_iconst 0 dX0_isInside_25 ic_0 ?_
    cases h; exact at_zret rfl rfl (Nat.le_refl _) (Nat.le_refl _) ⟨rfl, rfl⟩ dX0_isInside_26
  · rw [if_neg c1] at h
    refine at_iload_n 1 dX0_isInside_4 rfl ?_
    refine at_bipush 17 dX0_isInside_5 bp_17 ?_
    refine at_icmp_ge 25 dX0_isInside_7 (by decide) (fun c2 => ?_) (fun c2 => ?_)
    · rw [if_pos c2] at h
      refine at_iconst 0 dX0_isInside_25 ic_0 ?_
      cases h; exact at_zret rfl rfl (Nat.le_refl _) (Nat.le_refl _) ⟨rfl, rfl⟩ dX0_isInside_26
    · rw [if_neg c2] at h
      refine at_aload_n 0 dX0_isInside_10 rfl ?_
      refine at_getf cl_X0 (by decide) fl_X0_11 hg_9 rfl dX0_isInside_11 ?_
      refine at_iload_n 1 dX0_isInside_14 rfl ?_
      obtain ⟨w3, hw3, h⟩ := sp_bind h
      refine at_iald hg_10 hw3 dX0_isInside_15 ?_
      refine at_aload_n 0 dX0_isInside_16 rfl ?_
      refine at_getf cl_X0 (by decide) fl_X0_15 hg_9 rfl dX0_isInside_17 ?_
      refine at_iload_n 1 dX0_isInside_20 rfl ?_
      obtain ⟨w4, hw4, h⟩ := sp_bind h
      refine at_iald hg_11 hw4 dX0_isInside_21 ?_
      refine at_icmp_ne 27 dX0_isInside_22 (by decide) (fun c5 => ?_) (fun c5 => ?_)
      · rw [if_neg c5] at h
        refine at_iload_n 2 dX0_isInside_27 rfl ?_
        refine at_aload_n 0 dX0_isInside_28 rfl ?_
        refine at_getf cl_X0 (by decide) fl_X0_11 hg_9 rfl dX0_isInside_29 ?_
        refine at_iload_n 1 dX0_isInside_32 rfl ?_
        obtain ⟨w6, hw6, h⟩ := sp_bind h
        refine at_iald hg_10 hw6 dX0_isInside_33 ?_
        refine at_iushr dX0_isInside_34 ?_
        refine at_iload_n 2 dX0_isInside_35 rfl ?_
        refine at_aload_n 0 dX0_isInside_36 rfl ?_
        refine at_getf cl_X0 (by decide) fl_X0_15 hg_9 rfl dX0_isInside_37 ?_
        refine at_iload_n 1 dX0_isInside_40 rfl ?_
        obtain ⟨w7, hw7, h⟩ := sp_bind h
        refine at_iald hg_11 hw7 dX0_isInside_41 ?_
        refine at_iushr dX0_isInside_42 ?_
        refine at_iand dX0_isInside_43 ?_
        refine at_iconst 1 dX0_isInside_44 ic_1 ?_
        refine at_iand dX0_isInside_45 ?_
        refine at_if_eq 53 dX0_isInside_46 (by decide) (fun c8 => ?_) (fun c8 => ?_)
        · rw [if_pos c8] at h
          refine at_iconst 0 dX0_isInside_53 ic_0 ?_
          cases h; exact at_zret rfl rfl (Nat.le_refl _) (Nat.le_refl _) ⟨rfl, rfl⟩ dX0_isInside_54
        · rw [if_neg c8] at h
          refine at_iconst 1 dX0_isInside_49 ic_1 ?_
          refine at_goto 54 dX0_isInside_50 (by decide) ?_
          cases h; exact at_zret rfl rfl (Nat.le_refl _) (Nat.le_refl _) ⟨rfl, rfl⟩ dX0_isInside_54
      · rw [if_pos c5] at h
        refine at_iconst 0 dX0_isInside_25 ic_0 ?_
        cases h; exact at_zret rfl rfl (Nat.le_refl _) (Nat.le_refl _) ⟨rfl, rfl⟩ dX0_isInside_26
set_option maxRecDepth 100000 in
theorem t_X7_linesInside_39 {D : va_G} {b : Nat} {K : State → Heap → Prop} {sa : Nat → Nat} (hK : sx_Kk b K sa) (N : Nat) {k4 : Int32 → Int32 → Int32 → Option (Int32)} {uG uN uD uR uF uP uL uT uA uM uH xA xB xC xD xE xF xG xH xI xJ xK xL uO : sx_C} {G : sx_H} (res : Int32) (hk4 : ∀ (v1 : Int32) (v2 : Int32) (v3 : Int32), k4 v1 v2 v3 = some res → sx_At D b K YX7_linesInside (sx_rm 1) (sx_Ex (some (.int res)) (sx_hp b uG uN uD uR uF uP uL uT uA uM uH xA xB xC xD xE xF xG xH xI xJ xK xL uO G)) 4 [(0, .ref (b + 16)), (1, .int v1), (2, .int v2), (3, .int v3)] [] (sx_hp b uG uN uD uR uF uP uL uT uA uM uH xA xB xC xD xE xF xG xH xI xJ xK xL uO G) 0 0) : ∀ (v1 : Int32) (v2 : Int32) (v3 : Int32), f_X7_linesInside_39 N k4 uF uP v1 v2 v3 = some res → sx_At D b K YX7_linesInside (sx_rm 1) (sx_Ex (some (.int res)) (sx_hp b uG uN uD uR uF uP uL uT uA uM uH xA xB xC xD xE xF xG xH xI xJ xK xL uO G)) 39 [(0, .ref (b + 16)), (1, .int v1), (2, .int v2), (3, .int v3)] [] (sx_hp b uG uN uD uR uF uP uL uT uA uM uH xA xB xC xD xE xF xG xH xI xJ xK xL uO G) 0 0 := by
  intro v1 v2 v3 h
  rw [f_X7_linesInside_39] at h
  refine at_iinc 3 1 [(0, .ref (b + 16)), (1, .int v1), (2, .int v2), (3, .int (v3 + 1))] dX7_linesInside_39 rfl ic_1 (Nat.le_of_ble_eq_true rfl) rfl ?_
  refine at_goto 4 dX7_linesInside_42 (by decide) ?_
  exact hk4 _ _ _ h
set_option maxRecDepth 100000 in
theorem t_X7_linesInside_4 {D : va_G} {b : Nat} {K : State → Heap → Prop} {sa : Nat → Nat} (hK : sx_Kk b K sa) (N : Nat) {uG uN uD uR uF uP uL uT uA uM uH xA xB xC xD xE xF xG xH xI xJ xK xL uO : sx_C} {G : sx_H} (res : Int32) : ∀ (n0 : Nat) (v1 : Int32) (v2 : Int32) (v3 : Int32), f_X7_linesInside_4 N uF uP n0 v1 v2 v3 = some res → sx_At D b K YX7_linesInside (sx_rm 1) (sx_Ex (some (.int res)) (sx_hp b uG uN uD uR uF uP uL uT uA uM uH xA xB xC xD xE xF xG xH xI xJ xK xL uO G)) 4 [(0, .ref (b + 16)), (1, .int v1), (2, .int v2), (3, .int v3)] [] (sx_hp b uG uN uD uR uF uP uL uT uA uM uH xA xB xC xD xE xF xG xH xI xJ xK xL uO G) 0 0 := by
  intro n0
  induction n0 with
  | zero => intro _ _ _ h; cases h
  | succ n0 ih =>
    intro v1 v2 v3 h
    rw [f_X7_linesInside_4] at h
    refine at_iload_n 3 dX7_linesInside_4 rfl ?_
    refine at_bipush 14 dX7_linesInside_5 bp_14 ?_
    refine at_icmp_ge 45 dX7_linesInside_7 (by decide) (fun c1 => ?_) (fun c1 => ?_)
    · rw [if_pos c1] at h
      refine at_iload_n 2 dX7_linesInside_45 rfl ?_
      cases h; exact at_iret rfl (Nat.le_refl _) (Nat.le_refl _) ⟨rfl, rfl⟩ dX7_linesInside_46
    · rw [if_neg c1] at h
      refine at_aload_n 0 dX7_linesInside_10 rfl ?_
      refine at_getf cl_X7 (by decide) fl_X7_9 hg_16 rfl dX7_linesInside_11 ?_
      refine at_iload_n 3 dX7_linesInside_14 rfl ?_
      obtain ⟨q2, hq2, h⟩ := sp_bind h
      refine at_callSi (st := []) hK mt_X11_has ml_X7_90 (t_X11_has hK hq2) rfl rfl (Nat.le_of_ble_eq_true rfl) ⟨Nat.le_of_ble_eq_true rfl, Nat.le_of_ble_eq_true rfl⟩ ⟨Nat.le_refl _, Nat.le_refl _⟩ dX7_linesInside_15 ?_
      refine at_zeq 39 dX7_linesInside_18 (by decide) (fun c3 => ?_) (fun c3 => ?_)
      · rw [if_neg c3] at h
        exact t_X7_linesInside_39 hK N _ ih _ _ _ h
      · rw [if_pos c3] at h
        refine at_aload_n 0 dX7_linesInside_21 rfl ?_
        refine at_getf cl_X7 (by decide) fl_X7_28 hg_16 rfl dX7_linesInside_22 ?_
        refine at_iload_n 3 dX7_linesInside_25 rfl ?_
        refine at_iload_n 1 dX7_linesInside_26 rfl ?_
        obtain ⟨q4, hq4, h⟩ := sp_bind h
        refine at_callVi (st := []) hK mt_X0_isInside ml_X7_108 cl_X0 hg_9 (t_X0_isInside hK hq4) rfl rfl (Nat.le_of_ble_eq_true rfl) ⟨Nat.le_of_ble_eq_true rfl, Nat.le_of_ble_eq_true rfl⟩ ⟨Nat.le_refl _, Nat.le_refl _⟩ dX7_linesInside_27 ?_
        refine at_zeq 39 dX7_linesInside_30 (by decide) (fun c5 => ?_) (fun c5 => ?_)
        · rw [if_neg c5] at h
          exact t_X7_linesInside_39 hK N _ ih _ _ _ h
        · rw [if_pos c5] at h
          refine at_iload_n 2 dX7_linesInside_33 rfl ?_
          refine at_iconst 1 dX7_linesInside_34 ic_1 ?_
          refine at_iload_n 3 dX7_linesInside_35 rfl ?_
          refine at_ishl dX7_linesInside_36 ?_
          refine at_ior dX7_linesInside_37 ?_
          refine at_istore_n [(0, .ref (b + 16)), (1, .int v1), (2, .int (v2 ||| (sp_shl 1 v3))), (3, .int v3)] dX7_linesInside_38 (Nat.le_of_ble_eq_true rfl) rfl ?_
          exact t_X7_linesInside_39 hK N _ ih _ _ _ h
set_option maxRecDepth 100000 in
theorem t_X7_linesInside {D : va_G} {b : Nat} {K : State → Heap → Prop} {sa : Nat → Nat} (hK : sx_Kk b K sa) {N : Nat} {uG uN uD uR uF uP uL uT uA uM uH xA xB xC xD xE xF xG xH xI xJ xK xL uO : sx_C} {G : sx_H} {v1 : Int32} {res : Int32} (h : f_X7_linesInside N uF uP v1 = some res) : sx_Runs D b K yX7_linesInside YX7_linesInside (sx_rm 1) [.ref (b + 16), .int v1] (sx_hp b uG uN uD uR uF uP uL uT uA uM uH xA xB xC xD xE xF xG xH xI xJ xK xL uO G) (sx_Ex (some (.int res)) (sx_hp b uG uN uD uR uF uP uL uT uA uM uH xA xB xC xD xE xF xG xH xI xJ xK xL uO G)) := by
  rw [f_X7_linesInside] at h
  refine sx_run (by decide +kernel) rfl rfl (Nat.le_of_ble_eq_true rfl) ?_
  refine at_iconst 0 dX7_linesInside_0 ic_0 ?_
  refine at_istore_n [(0, .ref (b + 16)), (1, .int v1), (2, .int 0)] dX7_linesInside_1 (Nat.le_of_ble_eq_true rfl) rfl ?_
  refine at_iconst 0 dX7_linesInside_2 ic_0 ?_
  refine at_istore_n [(0, .ref (b + 16)), (1, .int v1), (2, .int 0), (3, .int 0)] dX7_linesInside_3 (Nat.le_of_ble_eq_true rfl) rfl ?_
  exact t_X7_linesInside_4 hK N _ N _ _ _ h
set_option maxRecDepth 100000 in
theorem t_X7_carriesTwoTrees_61 {D : va_G} {b : Nat} {K : State → Heap → Prop} {sa : Nat → Nat} (hK : sx_Kk b K sa) (N : Nat) {k35 : Int32 → Int32 → Int32 → sx_C → Option (Bool × sx_C)} {uG uN uD uR uP uL uT uA uM uH xA xB xC xD xE xF xG xH xI xJ xK xL uO : sx_C} {G : sx_H} (res : Bool × sx_C) (hk35 : ∀ (v2 : Int32) (v3 : Int32) (v4 : Int32) (uF : sx_C), k35 v2 v3 v4 uF = some res → sx_At D b K YX7_carriesTwoTrees (sx_rm 2) (sx_Ex (some (.int (sp_b res.1))) (sx_hp b uG uN uD uR (res.2) uP uL uT uA uM uH xA xB xC xD xE xF xG xH xI xJ xK xL uO G)) 35 [(0, .ref (b + 16)), (2, .int v2), (3, .int v3), (4, .int v4)] [] (sx_hp b uG uN uD uR uF uP uL uT uA uM uH xA xB xC xD xE xF xG xH xI xJ xK xL uO G) 0 0) : ∀ (v2 : Int32) (v3 : Int32) (v4 : Int32) (uF : sx_C), f_X7_carriesTwoTrees_61 N k35 uP v2 v3 v4 uF = some res → sx_At D b K YX7_carriesTwoTrees (sx_rm 2) (sx_Ex (some (.int (sp_b res.1))) (sx_hp b uG uN uD uR (res.2) uP uL uT uA uM uH xA xB xC xD xE xF xG xH xI xJ xK xL uO G)) 61 [(0, .ref (b + 16)), (2, .int v2), (3, .int v3), (4, .int v4)] [] (sx_hp b uG uN uD uR uF uP uL uT uA uM uH xA xB xC xD xE xF xG xH xI xJ xK xL uO G) 0 0 := by
  intro v2 v3 v4 uF h
  rw [f_X7_carriesTwoTrees_61] at h
  refine at_iinc 3 1 [(0, .ref (b + 16)), (2, .int v2), (3, .int v3), (4, .int (v4 + 1))] dX7_carriesTwoTrees_61 rfl ic_1 (Nat.le_of_ble_eq_true rfl) rfl ?_
  refine at_goto 35 dX7_carriesTwoTrees_64 (by decide) ?_
  exact hk35 _ _ _ _ h
set_option maxRecDepth 100000 in
theorem t_X7_carriesTwoTrees_35 {D : va_G} {b : Nat} {K : State → Heap → Prop} {sa : Nat → Nat} (hK : sx_Kk b K sa) (N : Nat) {uG uN uD uR uP uL uT uA uM uH xA xB xC xD xE xF xG xH xI xJ xK xL uO : sx_C} {G : sx_H} (res : Bool × sx_C) : ∀ (n0 : Nat) (v2 : Int32) (v3 : Int32) (v4 : Int32) (uF : sx_C), f_X7_carriesTwoTrees_35 N uP n0 v2 v3 v4 uF = some res → sx_At D b K YX7_carriesTwoTrees (sx_rm 2) (sx_Ex (some (.int (sp_b res.1))) (sx_hp b uG uN uD uR (res.2) uP uL uT uA uM uH xA xB xC xD xE xF xG xH xI xJ xK xL uO G)) 35 [(0, .ref (b + 16)), (2, .int v2), (3, .int v3), (4, .int v4)] [] (sx_hp b uG uN uD uR uF uP uL uT uA uM uH xA xB xC xD xE xF xG xH xI xJ xK xL uO G) 0 0 := by
  intro n0
  induction n0 with
  | zero => intro _ _ _ _ h; cases h
  | succ n0 ih =>
    intro v2 v3 v4 uF h
    rw [f_X7_carriesTwoTrees_35] at h
    refine at_iload 3 dX7_carriesTwoTrees_35 rfl ?_
    refine at_bipush 14 dX7_carriesTwoTrees_37 bp_14 ?_
    refine at_icmp_ge 67 dX7_carriesTwoTrees_39 (by decide) (fun c1 => ?_) (fun c1 => ?_)
    · rw [if_pos c1] at h
      refine at_aload_n 0 dX7_carriesTwoTrees_67 rfl ?_
      refine at_getf cl_X7 (by decide) fl_X7_28 hg_16 rfl dX7_carriesTwoTrees_68 ?_
      obtain ⟨q2, hq2, h⟩ := sp_bind h
      refine at_callVi (st := []) hK mt_X0_total ml_X7_120 cl_X0 hg_9 (t_X0_total hK hq2) rfl rfl (Nat.le_of_ble_eq_true rfl) ⟨Nat.le_of_ble_eq_true rfl, Nat.le_of_ble_eq_true rfl⟩ ⟨Nat.le_refl _, Nat.le_refl _⟩ dX7_carriesTwoTrees_71 ?_
      refine at_iload_n 1 dX7_carriesTwoTrees_74 rfl ?_
      refine at_icmp_ne 82 dX7_carriesTwoTrees_75 (by decide) (fun c3 => ?_) (fun c3 => ?_)
      · rw [if_neg c3] at h
        refine at_iconst 0 dX7_carriesTwoTrees_82 ic_0 ?_
        cases h; exact at_zret rfl rfl (Nat.le_refl _) (Nat.le_refl _) ⟨rfl, rfl⟩ dX7_carriesTwoTrees_83
      · rw [if_pos c3] at h
        refine at_iconst 1 dX7_carriesTwoTrees_78 ic_1 ?_
        refine at_goto 83 dX7_carriesTwoTrees_79 (by decide) ?_
        cases h; exact at_zret rfl rfl (Nat.le_refl _) (Nat.le_refl _) ⟨rfl, rfl⟩ dX7_carriesTwoTrees_83
    · rw [if_neg c1] at h
      refine at_iload_n 2 dX7_carriesTwoTrees_42 rfl ?_
      refine at_iload 3 dX7_carriesTwoTrees_43 rfl ?_
      obtain ⟨q4, hq4, h⟩ := sp_bind h
      refine at_callSi (st := []) hK mt_X11_has ml_X7_90 (t_X11_has hK hq4) rfl rfl (Nat.le_of_ble_eq_true rfl) ⟨Nat.le_of_ble_eq_true rfl, Nat.le_of_ble_eq_true rfl⟩ ⟨Nat.le_refl _, Nat.le_refl _⟩ dX7_carriesTwoTrees_45 ?_
      refine at_zeq 61 dX7_carriesTwoTrees_48 (by decide) (fun c5 => ?_) (fun c5 => ?_)
      · rw [if_neg c5] at h
        exact t_X7_carriesTwoTrees_61 hK N _ ih _ _ _ _ h
      · rw [if_pos c5] at h
        refine at_aload_n 0 dX7_carriesTwoTrees_51 rfl ?_
        refine at_getf cl_X7 (by decide) fl_X7_28 hg_16 rfl dX7_carriesTwoTrees_52 ?_
        refine at_iload 3 dX7_carriesTwoTrees_55 rfl ?_
        obtain ⟨q6, hq6, h⟩ := sp_bind h
        refine at_callVi (st := []) hK mt_X0_bring ml_X7_117 cl_X0 hg_9 (t_X0_bring hK hq6) rfl rfl (Nat.le_of_ble_eq_true rfl) ⟨Nat.le_of_ble_eq_true rfl, Nat.le_of_ble_eq_true rfl⟩ ⟨Nat.le_refl _, Nat.le_refl _⟩ dX7_carriesTwoTrees_57 ?_
        refine at_pop dX7_carriesTwoTrees_60 rfl ?_
        exact t_X7_carriesTwoTrees_61 hK N _ ih _ _ _ _ h
set_option maxRecDepth 100000 in
theorem t_X7_carriesTwoTrees {D : va_G} {b : Nat} {K : State → Heap → Prop} {sa : Nat → Nat} (hK : sx_Kk b K sa) {N : Nat} {uG uN uD uR uP uL uT uA uM uH xA xB xC xD xE xF xG xH xI xJ xK xL uO : sx_C} {G : sx_H} {v1 : Int32} {uF : sx_C} {res : Bool × sx_C} (h : f_X7_carriesTwoTrees N uP v1 uF = some res) : sx_Runs D b K yX7_carriesTwoTrees YX7_carriesTwoTrees (sx_rm 2) [.ref (b + 16), .int v1] (sx_hp b uG uN uD uR uF uP uL uT uA uM uH xA xB xC xD xE xF xG xH xI xJ xK xL uO G) (sx_Ex (some (.int (sp_b res.1))) (sx_hp b uG uN uD uR (res.2) uP uL uT uA uM uH xA xB xC xD xE xF xG xH xI xJ xK xL uO G)) := by
  rw [f_X7_carriesTwoTrees] at h
  refine sx_run (by decide +kernel) rfl rfl (Nat.le_of_ble_eq_true rfl) ?_
  refine at_iconst 2 dX7_carriesTwoTrees_0 ic_2 ?_
  refine at_iload_n 1 dX7_carriesTwoTrees_1 rfl ?_
  obtain ⟨q7, hq7, h⟩ := sp_bind h
  refine at_callSi (st := [.int 2]) hK mt_J6_bitCount_0f7a4 ml_X7_82 (t_J6_bitCount_0f7a4 hK hq7) rfl rfl (Nat.le_of_ble_eq_true rfl) ⟨Nat.le_of_ble_eq_true rfl, Nat.le_of_ble_eq_true rfl⟩ ⟨Nat.le_refl _, Nat.le_refl _⟩ dX7_carriesTwoTrees_2 ?_
  refine at_iconst 1 dX7_carriesTwoTrees_5 ic_1 ?_
  refine at_isub dX7_carriesTwoTrees_6 ?_
  refine at_imul dX7_carriesTwoTrees_7 ?_
  refine at_istore_n [(0, .ref (b + 16)), (1, .int v1), (2, .int (2 * (q7 - 1)))] dX7_carriesTwoTrees_8 (Nat.le_of_ble_eq_true rfl) rfl ?_
  refine at_aload_n 0 dX7_carriesTwoTrees_9 rfl ?_
  refine at_iload_n 1 dX7_carriesTwoTrees_10 rfl ?_
  obtain ⟨q8, hq8, h⟩ := sp_bind h
  refine at_callVi (st := []) hK mt_X7_linesInside ml_X7_111 cl_X7 hg_16 (t_X7_linesInside hK hq8) rfl rfl (Nat.le_of_ble_eq_true rfl) ⟨Nat.le_of_ble_eq_true rfl, Nat.le_of_ble_eq_true rfl⟩ ⟨Nat.le_refl _, Nat.le_refl _⟩ dX7_carriesTwoTrees_11 ?_
  refine at_istore_n [(0, .ref (b + 16)), (1, .int v1), (2, .int (2 * (q7 - 1))), (3, .int q8)] dX7_carriesTwoTrees_14 (Nat.le_of_ble_eq_true rfl) rfl ?_
  refine at_iload_n 3 dX7_carriesTwoTrees_15 rfl ?_
  obtain ⟨q9, hq9, h⟩ := sp_bind h
  refine at_callSi (st := []) hK mt_J6_bitCount_0f7a4 ml_X7_82 (t_J6_bitCount_0f7a4 hK hq9) rfl rfl (Nat.le_of_ble_eq_true rfl) ⟨Nat.le_of_ble_eq_true rfl, Nat.le_of_ble_eq_true rfl⟩ ⟨Nat.le_refl _, Nat.le_refl _⟩ dX7_carriesTwoTrees_16 ?_
  refine at_iload_n 2 dX7_carriesTwoTrees_19 rfl ?_
  refine at_icmp_ge 25 dX7_carriesTwoTrees_20 (by decide) (fun c10 => ?_) (fun c10 => ?_)
  · rw [if_pos c10] at h
    refine at_aload_n 0 dX7_carriesTwoTrees_25 rfl ?_
    refine at_getf cl_X7 (by decide) fl_X7_28 hg_16 rfl dX7_carriesTwoTrees_26 ?_
    obtain ⟨q11, hq11, h⟩ := sp_bind h
    refine at_callVv (st := []) hK mt_X0_begin ml_X7_114 cl_X0 hg_9 (t_X0_begin hK hq11) rfl rfl (Nat.le_of_ble_eq_true rfl) ⟨Nat.le_of_ble_eq_true rfl, Nat.le_of_ble_eq_true rfl⟩ ⟨Nat.le_refl _, Nat.le_refl _⟩ dX7_carriesTwoTrees_29 ?_
    refine at_iconst 0 dX7_carriesTwoTrees_32 ic_0 ?_
    refine at_istore [(0, .ref (b + 16)), (1, .int v1), (2, .int (2 * (q7 - 1))), (3, .int q8), (4, .int 0)] dX7_carriesTwoTrees_33 (Nat.le_of_ble_eq_true rfl) rfl ?_
    refine at_sub [0, 2, 3, 4] [(0, .ref (b + 16)), (2, .int (2 * (q7 - 1))), (3, .int q8), (4, .int 0)] rfl ?_
    exact t_X7_carriesTwoTrees_35 hK N _ N _ _ _ _ h
  · rw [if_neg c10] at h
    refine at_iconst 0 dX7_carriesTwoTrees_23 ic_0 ?_
    cases h; exact at_zret rfl rfl (Nat.le_refl _) (Nat.le_refl _) ⟨rfl, rfl⟩ dX7_carriesTwoTrees_24
set_option maxRecDepth 100000 in
theorem t_X0_lay {D : va_G} {b : Nat} {K : State → Heap → Prop} {sa : Nat → Nat} (hK : sx_Kk b K sa) {uG uN uD uR uP uL uT uA uM uH xA xB xC xD xE xF xG xH xI xJ xK xL uO : sx_C} {G : sx_H} {v1 : Int32} {v2 : Int32} {v3 : Int32} {uF : sx_C} {res : sx_C} (h : f_X0_lay v1 v2 v3 uF = some res) : sx_Runs D b K yX0_lay YX0_lay (sx_rm 0) [.ref (b + 9), .int v1, .int v2, .int v3] (sx_hp b uG uN uD uR uF uP uL uT uA uM uH xA xB xC xD xE xF xG xH xI xJ xK xL uO G) (sx_Ex none (sx_hp b uG uN uD uR res uP uL uT uA uM uH xA xB xC xD xE xF xG xH xI xJ xK xL uO G)) := by
  rw [f_X0_lay] at h
  refine sx_run (by decide +kernel) rfl rfl (Nat.le_of_ble_eq_true rfl) ?_
  refine at_iload_n 1 dX0_lay_0 rfl ?_
  refine at_if_lt 30 dX0_lay_1 (by decide) (fun c1 => ?_) (fun c1 => ?_)
  · rw [if_pos c1] at h
    cases h; exact at_vret rfl (Nat.le_refl _) (Nat.le_refl _) ⟨rfl, rfl⟩ dX0_lay_30
  · rw [if_neg c1] at h
    refine at_iload_n 1 dX0_lay_4 rfl ?_
    refine at_bipush 17 dX0_lay_5 bp_17 ?_
    refine at_icmp_ge 30 dX0_lay_7 (by decide) (fun c2 => ?_) (fun c2 => ?_)
    · rw [if_pos c2] at h
      cases h; exact at_vret rfl (Nat.le_refl _) (Nat.le_refl _) ⟨rfl, rfl⟩ dX0_lay_30
    · rw [if_neg c2] at h
      refine at_aload_n 0 dX0_lay_10 rfl ?_
      refine at_getf cl_X0 (by decide) fl_X0_11 hg_9 rfl dX0_lay_11 ?_
      refine at_iload_n 1 dX0_lay_14 rfl ?_
      refine at_iload_n 2 dX0_lay_15 rfl ?_
      refine at_bipush 7 dX0_lay_16 bp_7 ?_
      refine at_iand dX0_lay_18 ?_
      obtain ⟨hi3, h⟩ := sp_chk h
      refine at_iast hg_10 hi3 hs_10 dX0_lay_19 ?_
      refine at_aload_n 0 dX0_lay_20 rfl ?_
      refine at_getf cl_X0 (by decide) fl_X0_15 hg_9 rfl dX0_lay_21 ?_
      refine at_iload_n 1 dX0_lay_24 rfl ?_
      refine at_iload_n 3 dX0_lay_25 rfl ?_
      refine at_bipush 7 dX0_lay_26 bp_7 ?_
      refine at_iand dX0_lay_28 ?_
      obtain ⟨hi4, h⟩ := sp_chk h
      refine at_iast hg_11 hi4 hs_11 dX0_lay_29 ?_
      cases h; exact at_vret rfl (Nat.le_refl _) (Nat.le_refl _) ⟨rfl, rfl⟩ dX0_lay_30
