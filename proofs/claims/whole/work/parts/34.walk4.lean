set_option maxRecDepth 100000 in
theorem t_X11_treesWith {D : va_G} {b : Nat} {K : State → Heap → Prop} {sa : Nat → Nat} (hK : sx_Kk b K sa) {N : Nat} {uG uN uD uR uF uP uL uA uM uH xA xB xC xD xE xF xG xH xI xJ xK xL uO : sx_C} {G : sx_H} {v1 : Int32} {uT : sx_C} {res : Int32 × sx_C} (h : f_X11_treesWith N uG uN v1 uT = some res) : sx_Runs D b K yX11_treesWith YX11_treesWith (sx_rm 4) [.ref (b + 0), .int v1] (sx_hp b uG uN uD uR uF uP uL uT uA uM uH xA xB xC xD xE xF xG xH xI xJ xK xL uO G) (sx_Ex (some (.int res.1)) (sx_hp b uG uN uD uR uF uP uL (res.2) uA uM uH xA xB xC xD xE xF xG xH xI xJ xK xL uO G)) := by
  rw [f_X11_treesWith] at h
  refine sx_run (by decide +kernel) rfl rfl (Nat.le_of_ble_eq_true rfl) ?_
  refine at_aload_n 0 dX11_treesWith_0 rfl ?_
  refine at_getf cl_X11 (by decide) fl_X11_16 hg_0 rfl dX11_treesWith_1 ?_
  refine at_iload_n 1 dX11_treesWith_4 rfl ?_
  obtain ⟨q1, hq1, h⟩ := sp_bind h
  refine at_callVi (st := []) hK mt_X6_isLine ml_X11_122 cl_X6 hg_2 (t_X6_isLine hK hq1) rfl rfl (Nat.le_of_ble_eq_true rfl) ⟨Nat.le_of_ble_eq_true rfl, Nat.le_of_ble_eq_true rfl⟩ ⟨Nat.le_refl _, Nat.le_refl _⟩ dX11_treesWith_5 ?_
  refine at_zne 13 dX11_treesWith_8 (by decide) (fun c2 => ?_) (fun c2 => ?_)
  · rw [if_pos c2] at h
    refine at_aload_n 0 dX11_treesWith_13 rfl ?_
    refine at_iload_n 1 dX11_treesWith_14 rfl ?_
    obtain ⟨q3, hq3, h⟩ := sp_bind h
    refine at_callVi (st := []) hK mt_X11_isOpen ml_X11_171 cl_X11 hg_0 (t_X11_isOpen hK hq3) rfl rfl (Nat.le_of_ble_eq_true rfl) ⟨Nat.le_of_ble_eq_true rfl, Nat.le_of_ble_eq_true rfl⟩ ⟨Nat.le_refl _, Nat.le_refl _⟩ dX11_treesWith_15 ?_
    refine at_zne 24 dX11_treesWith_18 (by decide) (fun c4 => ?_) (fun c4 => ?_)
    · rw [if_pos c4] at h
      refine at_aload_n 0 dX11_treesWith_24 rfl ?_
      refine at_getf cl_X11 (by decide) fl_X11_67 hg_0 rfl dX11_treesWith_25 ?_
      refine at_aload_n 0 dX11_treesWith_28 rfl ?_
      refine at_getf cl_X11 (by decide) fl_X11_91 hg_0 rfl dX11_treesWith_29 ?_
      refine at_aload_n 0 dX11_treesWith_32 rfl ?_
      refine at_getf cl_X11 (by decide) fl_X11_94 hg_0 rfl dX11_treesWith_33 ?_
      obtain ⟨q5, hq5, h⟩ := sp_bind h
      refine at_callVi (st := []) hK mt_X10_tally ml_X11_264 cl_X10 hg_22 (t_X10_tally hK hq5) rfl rfl (Nat.le_of_ble_eq_true rfl) ⟨Nat.le_of_ble_eq_true rfl, Nat.le_of_ble_eq_true rfl⟩ ⟨Nat.le_refl _, Nat.le_refl _⟩ dX11_treesWith_36 ?_
      refine at_aload_n 0 dX11_treesWith_39 rfl ?_
      refine at_getf cl_X11 (by decide) fl_X11_67 hg_0 rfl dX11_treesWith_40 ?_
      refine at_aload_n 0 dX11_treesWith_43 rfl ?_
      refine at_getf cl_X11 (by decide) fl_X11_91 hg_0 rfl dX11_treesWith_44 ?_
      refine at_aload_n 0 dX11_treesWith_47 rfl ?_
      refine at_getf cl_X11 (by decide) fl_X11_94 hg_0 rfl dX11_treesWith_48 ?_
      refine at_iconst 1 dX11_treesWith_51 ic_1 ?_
      refine at_iload_n 1 dX11_treesWith_52 rfl ?_
      refine at_ishl dX11_treesWith_53 ?_
      refine at_ior dX11_treesWith_54 ?_
      obtain ⟨q6, hq6, h⟩ := sp_bind h
      refine at_callVi (st := [.int (q5.1)]) hK mt_X10_tally ml_X11_264 cl_X10 hg_22 (t_X10_tally hK hq6) rfl rfl (Nat.le_of_ble_eq_true rfl) ⟨Nat.le_of_ble_eq_true rfl, Nat.le_of_ble_eq_true rfl⟩ ⟨Nat.le_refl _, Nat.le_refl _⟩ dX11_treesWith_55 ?_
      refine at_isub dX11_treesWith_58 ?_
      cases h; exact at_iret rfl (Nat.le_refl _) (Nat.le_refl _) ⟨rfl, rfl⟩ dX11_treesWith_59
    · rw [if_neg c4] at h
      refine at_bipush (-2) dX11_treesWith_21 bp_m2 ?_
      cases h; exact at_iret rfl (Nat.le_refl _) (Nat.le_refl _) ⟨rfl, rfl⟩ dX11_treesWith_23
  · rw [if_neg c2] at h
    refine at_iconst (-1) dX11_treesWith_11 ic_m1 ?_
    cases h; exact at_iret rfl (Nat.le_refl _) (Nat.le_refl _) ⟨rfl, rfl⟩ dX11_treesWith_12
set_option maxRecDepth 100000 in
theorem t_X11_idle_91 {D : va_G} {b : Nat} {K : State → Heap → Prop} {sa : Nat → Nat} (hK : sx_Kk b K sa) (N : Nat) {uG uN uD uR uP uL uT uA uM uH xA xB xC xD xE xF xG xH xI xJ xK xL uO : sx_C} {G : sx_H} (res : Int32 × sx_C) : ∀ (s0 : Int32) (uF : sx_C), f_X11_idle_91 N uG uN s0 uF = some res → sx_At D b K YX11_idle (sx_rm 5) (sx_Ex (some (.int res.1)) (sx_hp b uG uN uD uR (res.2) uP uL uT uA uM uH xA xB xC xD xE xF xG xH xI xJ xK xL uO G)) 91 [] [.int s0] (sx_hp b uG uN uD uR uF uP uL uT uA uM uH xA xB xC xD xE xF xG xH xI xJ xK xL uO G) 0 0 := by
  intro s0 uF h
  rw [f_X11_idle_91] at h
  refine at_istore_n [(3, .int s0)] dX11_idle_91 (Nat.le_of_ble_eq_true rfl) rfl ?_
  refine at_iload_n 0 dX11_idle_92 rfl ?_
  refine at_if_eq 100 dX11_idle_93 (by decide) (fun c1 => ?_) (fun c1 => ?_)
  · rw [if_pos c1] at h
    refine at_iconst 0 dX11_idle_100 ic_0 ?_
    cases h; exact at_iret rfl (Nat.le_refl _) (Nat.le_refl _) ⟨rfl, rfl⟩ dX11_idle_101
  · rw [if_neg c1] at h
    refine at_iconst 1 dX11_idle_96 ic_1 ?_
    refine at_goto 101 dX11_idle_97 (by decide) ?_
    cases h; exact at_iret rfl (Nat.le_refl _) (Nat.le_refl _) ⟨rfl, rfl⟩ dX11_idle_101
set_option maxRecDepth 100000 in
theorem t_X11_idle_90 {D : va_G} {b : Nat} {K : State → Heap → Prop} {sa : Nat → Nat} (hK : sx_Kk b K sa) (N : Nat) {uG uN uD uR uP uL uT uA uM uH xA xB xC xD xE xF xG xH xI xJ xK xL uO : sx_C} {G : sx_H} (res : Int32 × sx_C) : ∀ (uF : sx_C), f_X11_idle_90 N uG uN uF = some res → sx_At D b K YX11_idle (sx_rm 5) (sx_Ex (some (.int res.1)) (sx_hp b uG uN uD uR (res.2) uP uL uT uA uM uH xA xB xC xD xE xF xG xH xI xJ xK xL uO G)) 90 [] [] (sx_hp b uG uN uD uR uF uP uL uT uA uM uH xA xB xC xD xE xF xG xH xI xJ xK xL uO G) 0 0 := by
  intro uF h
  rw [f_X11_idle_90] at h
  refine at_iconst 0 dX11_idle_90 ic_0 ?_
  exact t_X11_idle_91 hK N _ _ _ h
set_option maxRecDepth 100000 in
theorem t_X11_idle {D : va_G} {b : Nat} {K : State → Heap → Prop} {sa : Nat → Nat} (hK : sx_Kk b K sa) {N : Nat} {uG uN uD uR uP uL uT uA uM uH xA xB xC xD xE xF xG xH xI xJ xK xL uO : sx_C} {G : sx_H} {v1 : Int32} {uF : sx_C} {res : Int32 × sx_C} (h : f_X11_idle N uG uN v1 uF = some res) : sx_Runs D b K yX11_idle YX11_idle (sx_rm 5) [.ref (b + 0), .int v1] (sx_hp b uG uN uD uR uF uP uL uT uA uM uH xA xB xC xD xE xF xG xH xI xJ xK xL uO G) (sx_Ex (some (.int res.1)) (sx_hp b uG uN uD uR (res.2) uP uL uT uA uM uH xA xB xC xD xE xF xG xH xI xJ xK xL uO G)) := by
  rw [f_X11_idle] at h
  refine sx_run (by decide +kernel) rfl rfl (Nat.le_of_ble_eq_true rfl) ?_
  refine at_aload_n 0 dX11_idle_0 rfl ?_
  refine at_getf cl_X11 (by decide) fl_X11_16 hg_0 rfl dX11_idle_1 ?_
  refine at_iload_n 1 dX11_idle_4 rfl ?_
  obtain ⟨q2, hq2, h⟩ := sp_bind h
  refine at_callVi (st := []) hK mt_X6_isLine ml_X11_122 cl_X6 hg_2 (t_X6_isLine hK hq2) rfl rfl (Nat.le_of_ble_eq_true rfl) ⟨Nat.le_of_ble_eq_true rfl, Nat.le_of_ble_eq_true rfl⟩ ⟨Nat.le_refl _, Nat.le_refl _⟩ dX11_idle_5 ?_
  refine at_zne 13 dX11_idle_8 (by decide) (fun c3 => ?_) (fun c3 => ?_)
  · rw [if_pos c3] at h
    refine at_aload_n 0 dX11_idle_13 rfl ?_
    refine at_iload_n 1 dX11_idle_14 rfl ?_
    obtain ⟨q4, hq4, h⟩ := sp_bind h
    refine at_callVi (st := []) hK mt_X11_isOpen ml_X11_171 cl_X11 hg_0 (t_X11_isOpen hK hq4) rfl rfl (Nat.le_of_ble_eq_true rfl) ⟨Nat.le_of_ble_eq_true rfl, Nat.le_of_ble_eq_true rfl⟩ ⟨Nat.le_refl _, Nat.le_refl _⟩ dX11_idle_15 ?_
    refine at_zne 24 dX11_idle_18 (by decide) (fun c5 => ?_) (fun c5 => ?_)
    · rw [if_pos c5] at h
      refine at_aload_n 0 dX11_idle_24 rfl ?_
      refine at_getf cl_X11 (by decide) fl_X11_44 hg_0 rfl dX11_idle_25 ?_
      refine at_aload_n 0 dX11_idle_28 rfl ?_
      refine at_getf cl_X11 (by decide) fl_X11_91 hg_0 rfl dX11_idle_29 ?_
      refine at_aload_n 0 dX11_idle_32 rfl ?_
      refine at_getf cl_X11 (by decide) fl_X11_94 hg_0 rfl dX11_idle_33 ?_
      obtain ⟨q6, hq6, h⟩ := sp_bind h
      refine at_callVi (st := []) hK mt_X3_lacking ml_X11_217 cl_X3 hg_15 (t_X3_lacking hK hq6) rfl rfl (Nat.le_of_ble_eq_true rfl) ⟨Nat.le_of_ble_eq_true rfl, Nat.le_of_ble_eq_true rfl⟩ ⟨Nat.le_refl _, Nat.le_refl _⟩ dX11_idle_36 ?_
      refine at_istore_n [(0, .ref (b + 0)), (1, .int v1), (2, .int (q6.1))] dX11_idle_39 (Nat.le_of_ble_eq_true rfl) rfl ?_
      refine at_aload_n 0 dX11_idle_40 rfl ?_
      refine at_getf cl_X11 (by decide) fl_X11_44 hg_0 rfl dX11_idle_41 ?_
      refine at_aload_n 0 dX11_idle_44 rfl ?_
      refine at_getf cl_X11 (by decide) fl_X11_91 hg_0 rfl dX11_idle_45 ?_
      refine at_iconst 1 dX11_idle_48 ic_1 ?_
      refine at_iload_n 1 dX11_idle_49 rfl ?_
      refine at_ishl dX11_idle_50 ?_
      refine at_ior dX11_idle_51 ?_
      refine at_aload_n 0 dX11_idle_52 rfl ?_
      refine at_getf cl_X11 (by decide) fl_X11_94 hg_0 rfl dX11_idle_53 ?_
      obtain ⟨q7, hq7, h⟩ := sp_bind h
      refine at_callVi (st := []) hK mt_X3_lacking ml_X11_217 cl_X3 hg_15 (t_X3_lacking hK hq7) rfl rfl (Nat.le_of_ble_eq_true rfl) ⟨Nat.le_of_ble_eq_true rfl, Nat.le_of_ble_eq_true rfl⟩ ⟨Nat.le_refl _, Nat.le_refl _⟩ dX11_idle_56 ?_
      refine at_iload_n 2 dX11_idle_59 rfl ?_
      refine at_icmp_ne 90 dX11_idle_60 (by decide) (fun c8 => ?_) (fun c8 => ?_)
      · rw [if_neg c8] at h
        refine at_sub [] [] rfl ?_
        exact t_X11_idle_90 hK N _ _ h
      · rw [if_pos c8] at h
        refine at_aload_n 0 dX11_idle_63 rfl ?_
        refine at_getf cl_X11 (by decide) fl_X11_44 hg_0 rfl dX11_idle_64 ?_
        refine at_aload_n 0 dX11_idle_67 rfl ?_
        refine at_getf cl_X11 (by decide) fl_X11_91 hg_0 rfl dX11_idle_68 ?_
        refine at_aload_n 0 dX11_idle_71 rfl ?_
        refine at_getf cl_X11 (by decide) fl_X11_94 hg_0 rfl dX11_idle_72 ?_
        refine at_iconst 1 dX11_idle_75 ic_1 ?_
        refine at_iload_n 1 dX11_idle_76 rfl ?_
        refine at_ishl dX11_idle_77 ?_
        refine at_ior dX11_idle_78 ?_
        obtain ⟨q9, hq9, h⟩ := sp_bind h
        refine at_callVi (st := []) hK mt_X3_lacking ml_X11_217 cl_X3 hg_15 (t_X3_lacking hK hq9) rfl rfl (Nat.le_of_ble_eq_true rfl) ⟨Nat.le_of_ble_eq_true rfl, Nat.le_of_ble_eq_true rfl⟩ ⟨Nat.le_refl _, Nat.le_refl _⟩ dX11_idle_79 ?_
        refine at_iload_n 2 dX11_idle_82 rfl ?_
        refine at_icmp_ne 90 dX11_idle_83 (by decide) (fun c10 => ?_) (fun c10 => ?_)
        · rw [if_neg c10] at h
          refine at_sub [] [] rfl ?_
          exact t_X11_idle_90 hK N _ _ h
        · rw [if_pos c10] at h
          refine at_iconst 1 dX11_idle_86 ic_1 ?_
          refine at_goto 91 dX11_idle_87 (by decide) ?_
          refine at_sub [] [] rfl ?_
          exact t_X11_idle_91 hK N _ _ _ h
    · rw [if_neg c5] at h
      refine at_bipush (-2) dX11_idle_21 bp_m2 ?_
      cases h; exact at_iret rfl (Nat.le_refl _) (Nat.le_refl _) ⟨rfl, rfl⟩ dX11_idle_23
  · rw [if_neg c3] at h
    refine at_iconst (-1) dX11_idle_11 ic_m1 ?_
    cases h; exact at_iret rfl (Nat.le_refl _) (Nat.le_refl _) ⟨rfl, rfl⟩ dX11_idle_12
set_option maxRecDepth 100000 in
theorem t_X11_ifLine_78 {D : va_G} {b : Nat} {K : State → Heap → Prop} {sa : Nat → Nat} (hK : sx_Kk b K sa) (N : Nat) {uG uN uD uR uP uL uT uA uM uH xA xB xC xD xE xF xG xH xI xJ xK xL uO : sx_C} {G : sx_H} (res : Int32 × sx_C) : ∀ (s0 : Int32) (uF : sx_C), f_X11_ifLine_78 N uG uN s0 uF = some res → sx_At D b K YX11_ifLine (sx_rm 5) (sx_Ex (some (.int res.1)) (sx_hp b uG uN uD uR (res.2) uP uL uT uA uM uH xA xB xC xD xE xF xG xH xI xJ xK xL uO G)) 78 [] [.int s0] (sx_hp b uG uN uD uR uF uP uL uT uA uM uH xA xB xC xD xE xF xG xH xI xJ xK xL uO G) 0 0 := by
  intro s0 uF h
  rw [f_X11_ifLine_78] at h
  refine at_istore [(4, .int s0)] dX11_ifLine_78 (Nat.le_of_ble_eq_true rfl) rfl ?_
  refine at_iload 0 dX11_ifLine_80 rfl ?_
  obtain ⟨q1, hq1, h⟩ := sp_bind h
  refine at_callSi (st := []) hK mt_X3_outcomeBy ml_X11_220 (t_X3_outcomeBy hK hq1) rfl rfl (Nat.le_of_ble_eq_true rfl) ⟨Nat.le_of_ble_eq_true rfl, Nat.le_of_ble_eq_true rfl⟩ ⟨Nat.le_refl _, Nat.le_refl _⟩ dX11_ifLine_82 ?_
  cases h; exact at_iret rfl (Nat.le_refl _) (Nat.le_refl _) ⟨rfl, rfl⟩ dX11_ifLine_85
set_option maxRecDepth 100000 in
theorem t_X11_ifLine {D : va_G} {b : Nat} {K : State → Heap → Prop} {sa : Nat → Nat} (hK : sx_Kk b K sa) {N : Nat} {uG uN uD uR uP uL uT uA uM uH xA xB xC xD xE xF xG xH xI xJ xK xL uO : sx_C} {G : sx_H} {v1 : Int32} {v2 : Int32} {uF : sx_C} {res : Int32 × sx_C} (h : f_X11_ifLine N uG uN v1 v2 uF = some res) : sx_Runs D b K yX11_ifLine YX11_ifLine (sx_rm 5) [.ref (b + 0), .int v1, .int v2] (sx_hp b uG uN uD uR uF uP uL uT uA uM uH xA xB xC xD xE xF xG xH xI xJ xK xL uO G) (sx_Ex (some (.int res.1)) (sx_hp b uG uN uD uR (res.2) uP uL uT uA uM uH xA xB xC xD xE xF xG xH xI xJ xK xL uO G)) := by
  rw [f_X11_ifLine] at h
  refine sx_run (by decide +kernel) rfl rfl (Nat.le_of_ble_eq_true rfl) ?_
  refine at_aload_n 0 dX11_ifLine_0 rfl ?_
  refine at_getf cl_X11 (by decide) fl_X11_16 hg_0 rfl dX11_ifLine_1 ?_
  refine at_iload_n 1 dX11_ifLine_4 rfl ?_
  obtain ⟨q2, hq2, h⟩ := sp_bind h
  refine at_callVi (st := []) hK mt_X6_isLine ml_X11_122 cl_X6 hg_2 (t_X6_isLine hK hq2) rfl rfl (Nat.le_of_ble_eq_true rfl) ⟨Nat.le_of_ble_eq_true rfl, Nat.le_of_ble_eq_true rfl⟩ ⟨Nat.le_refl _, Nat.le_refl _⟩ dX11_ifLine_5 ?_
  refine at_zeq 20 dX11_ifLine_8 (by decide) (fun c3 => ?_) (fun c3 => ?_)
  · rw [if_neg c3] at h
    refine at_iconst (-1) dX11_ifLine_20 ic_m1 ?_
    cases h; exact at_iret rfl (Nat.le_refl _) (Nat.le_refl _) ⟨rfl, rfl⟩ dX11_ifLine_21
  · rw [if_pos c3] at h
    refine at_iload_n 2 dX11_ifLine_11 rfl ?_
    refine at_if_lt 20 dX11_ifLine_12 (by decide) (fun c4 => ?_) (fun c4 => ?_)
    · rw [if_pos c4] at h
      refine at_iconst (-1) dX11_ifLine_20 ic_m1 ?_
      cases h; exact at_iret rfl (Nat.le_refl _) (Nat.le_refl _) ⟨rfl, rfl⟩ dX11_ifLine_21
    · rw [if_neg c4] at h
      refine at_iload_n 2 dX11_ifLine_15 rfl ?_
      refine at_iconst 1 dX11_ifLine_16 ic_1 ?_
      refine at_icmp_le 22 dX11_ifLine_17 (by decide) (fun c5 => ?_) (fun c5 => ?_)
      · rw [if_pos c5] at h
        refine at_aload_n 0 dX11_ifLine_22 rfl ?_
        refine at_iload_n 1 dX11_ifLine_23 rfl ?_
        obtain ⟨q6, hq6, h⟩ := sp_bind h
        refine at_callVi (st := []) hK mt_X11_isOpen ml_X11_171 cl_X11 hg_0 (t_X11_isOpen hK hq6) rfl rfl (Nat.le_of_ble_eq_true rfl) ⟨Nat.le_of_ble_eq_true rfl, Nat.le_of_ble_eq_true rfl⟩ ⟨Nat.le_refl _, Nat.le_refl _⟩ dX11_ifLine_24 ?_
        refine at_zne 33 dX11_ifLine_27 (by decide) (fun c7 => ?_) (fun c7 => ?_)
        · rw [if_pos c7] at h
          refine at_iconst 1 dX11_ifLine_33 ic_1 ?_
          refine at_iload_n 1 dX11_ifLine_34 rfl ?_
          refine at_ishl dX11_ifLine_35 ?_
          refine at_istore_n [(0, .ref (b + 0)), (1, .int v1), (2, .int v2), (3, .int (sp_shl 1 v1))] dX11_ifLine_36 (Nat.le_of_ble_eq_true rfl) rfl ?_
          refine at_iload_n 2 dX11_ifLine_37 rfl ?_
          refine at_if_ne 61 dX11_ifLine_38 (by decide) (fun c8 => ?_) (fun c8 => ?_)
          · rw [if_neg c8] at h
            refine at_aload_n 0 dX11_ifLine_61 rfl ?_
            refine at_getf cl_X11 (by decide) fl_X11_44 hg_0 rfl dX11_ifLine_62 ?_
            refine at_aload_n 0 dX11_ifLine_65 rfl ?_
            refine at_getf cl_X11 (by decide) fl_X11_91 hg_0 rfl dX11_ifLine_66 ?_
            refine at_aload_n 0 dX11_ifLine_69 rfl ?_
            refine at_getf cl_X11 (by decide) fl_X11_94 hg_0 rfl dX11_ifLine_70 ?_
            refine at_iload_n 3 dX11_ifLine_73 rfl ?_
            refine at_ior dX11_ifLine_74 ?_
            obtain ⟨q9, hq9, h⟩ := sp_bind h
            refine at_callVi (st := []) hK mt_X3_lacking ml_X11_217 cl_X3 hg_15 (t_X3_lacking hK hq9) rfl rfl (Nat.le_of_ble_eq_true rfl) ⟨Nat.le_of_ble_eq_true rfl, Nat.le_of_ble_eq_true rfl⟩ ⟨Nat.le_refl _, Nat.le_refl _⟩ dX11_ifLine_75 ?_
            refine at_sub [] [] rfl ?_
            exact t_X11_ifLine_78 hK N _ _ _ h
          · rw [if_pos c8] at h
            refine at_aload_n 0 dX11_ifLine_41 rfl ?_
            refine at_getf cl_X11 (by decide) fl_X11_44 hg_0 rfl dX11_ifLine_42 ?_
            refine at_aload_n 0 dX11_ifLine_45 rfl ?_
            refine at_getf cl_X11 (by decide) fl_X11_91 hg_0 rfl dX11_ifLine_46 ?_
            refine at_iload_n 3 dX11_ifLine_49 rfl ?_
            refine at_ior dX11_ifLine_50 ?_
            refine at_aload_n 0 dX11_ifLine_51 rfl ?_
            refine at_getf cl_X11 (by decide) fl_X11_94 hg_0 rfl dX11_ifLine_52 ?_
            obtain ⟨q10, hq10, h⟩ := sp_bind h
            refine at_callVi (st := []) hK mt_X3_lacking ml_X11_217 cl_X3 hg_15 (t_X3_lacking hK hq10) rfl rfl (Nat.le_of_ble_eq_true rfl) ⟨Nat.le_of_ble_eq_true rfl, Nat.le_of_ble_eq_true rfl⟩ ⟨Nat.le_refl _, Nat.le_refl _⟩ dX11_ifLine_55 ?_
            refine at_goto 78 dX11_ifLine_58 (by decide) ?_
            refine at_sub [] [] rfl ?_
            exact t_X11_ifLine_78 hK N _ _ _ h
        · rw [if_neg c7] at h
          refine at_bipush (-2) dX11_ifLine_30 bp_m2 ?_
          cases h; exact at_iret rfl (Nat.le_refl _) (Nat.le_refl _) ⟨rfl, rfl⟩ dX11_ifLine_32
      · rw [if_neg c5] at h
        refine at_iconst (-1) dX11_ifLine_20 ic_m1 ?_
        cases h; exact at_iret rfl (Nat.le_refl _) (Nat.le_refl _) ⟨rfl, rfl⟩ dX11_ifLine_21
set_option maxRecDepth 100000 in
theorem t_X11_areTwoKnots {D : va_G} {b : Nat} {K : State → Heap → Prop} {sa : Nat → Nat} (hK : sx_Kk b K sa) {uG uN uD uR uF uP uL uT uA uM uH xA xB xC xD xE xF xG xH xI xJ xK xL uO : sx_C} {G : sx_H} {v1 : Int32} {v2 : Int32} {res : Bool} (h : f_X11_areTwoKnots uN v1 v2 = some res) : sx_Runs D b K yX11_areTwoKnots YX11_areTwoKnots (sx_rm 1) [.ref (b + 0), .int v1, .int v2] (sx_hp b uG uN uD uR uF uP uL uT uA uM uH xA xB xC xD xE xF xG xH xI xJ xK xL uO G) (sx_Ex (some (.int (sp_b res))) (sx_hp b uG uN uD uR uF uP uL uT uA uM uH xA xB xC xD xE xF xG xH xI xJ xK xL uO G)) := by
  rw [f_X11_areTwoKnots] at h
  refine sx_run (by decide +kernel) rfl rfl (Nat.le_of_ble_eq_true rfl) ?_
  refine at_aload_n 0 dX11_areTwoKnots_0 rfl ?_
  refine at_getf cl_X11 (by decide) fl_X11_16 hg_0 rfl dX11_areTwoKnots_1 ?_
  refine at_iload_n 1 dX11_areTwoKnots_4 rfl ?_
  obtain ⟨q1, hq1, h⟩ := sp_bind h
  refine at_callVi (st := []) hK mt_X6_isKnot ml_X11_148 cl_X6 hg_2 (t_X6_isKnot hK hq1) rfl rfl (Nat.le_of_ble_eq_true rfl) ⟨Nat.le_of_ble_eq_true rfl, Nat.le_of_ble_eq_true rfl⟩ ⟨Nat.le_refl _, Nat.le_refl _⟩ dX11_areTwoKnots_5 ?_
  refine at_zeq 31 dX11_areTwoKnots_8 (by decide) (fun c2 => ?_) (fun c2 => ?_)
  · rw [if_neg c2] at h
    refine at_iconst 0 dX11_areTwoKnots_31 ic_0 ?_
    cases h; exact at_zret rfl rfl (Nat.le_refl _) (Nat.le_refl _) ⟨rfl, rfl⟩ dX11_areTwoKnots_32
  · rw [if_pos c2] at h
    refine at_aload_n 0 dX11_areTwoKnots_11 rfl ?_
    refine at_getf cl_X11 (by decide) fl_X11_16 hg_0 rfl dX11_areTwoKnots_12 ?_
    refine at_iload_n 2 dX11_areTwoKnots_15 rfl ?_
    obtain ⟨q3, hq3, h⟩ := sp_bind h
    refine at_callVi (st := []) hK mt_X6_isKnot ml_X11_148 cl_X6 hg_2 (t_X6_isKnot hK hq3) rfl rfl (Nat.le_of_ble_eq_true rfl) ⟨Nat.le_of_ble_eq_true rfl, Nat.le_of_ble_eq_true rfl⟩ ⟨Nat.le_refl _, Nat.le_refl _⟩ dX11_areTwoKnots_16 ?_
    refine at_zeq 31 dX11_areTwoKnots_19 (by decide) (fun c4 => ?_) (fun c4 => ?_)
    · rw [if_neg c4] at h
      refine at_iconst 0 dX11_areTwoKnots_31 ic_0 ?_
      cases h; exact at_zret rfl rfl (Nat.le_refl _) (Nat.le_refl _) ⟨rfl, rfl⟩ dX11_areTwoKnots_32
    · rw [if_pos c4] at h
      refine at_iload_n 1 dX11_areTwoKnots_22 rfl ?_
      refine at_iload_n 2 dX11_areTwoKnots_23 rfl ?_
      refine at_icmp_eq 31 dX11_areTwoKnots_24 (by decide) (fun c5 => ?_) (fun c5 => ?_)
      · rw [if_pos c5] at h
        refine at_iconst 0 dX11_areTwoKnots_31 ic_0 ?_
        cases h; exact at_zret rfl rfl (Nat.le_refl _) (Nat.le_refl _) ⟨rfl, rfl⟩ dX11_areTwoKnots_32
      · rw [if_neg c5] at h
        refine at_iconst 1 dX11_areTwoKnots_27 ic_1 ?_
        refine at_goto 32 dX11_areTwoKnots_28 (by decide) ?_
        cases h; exact at_zret rfl rfl (Nat.le_refl _) (Nat.le_refl _) ⟨rfl, rfl⟩ dX11_areTwoKnots_32
set_option maxRecDepth 100000 in
theorem t_X3_lackingWithMore {D : va_G} {b : Nat} {K : State → Heap → Prop} {sa : Nat → Nat} (hK : sx_Kk b K sa) {N : Nat} {uG uN uD uR uP uL uT uA uM uH xA xB xC xD xE xF xG xH xI xJ xK xL uO : sx_C} {G : sx_H} {v1 : Int32} {v2 : Int32} {v3 : Int32} {v4 : Int32} {uF : sx_C} {res : Int32 × sx_C} (h : f_X3_lackingWithMore N uN v1 v2 v3 v4 uF = some res) : sx_Runs D b K yX3_lackingWithMore YX3_lackingWithMore (sx_rm 3) [.ref (b + 15), .int v1, .int v2, .int v3, .int v4] (sx_hp b uG uN uD uR uF uP uL uT uA uM uH xA xB xC xD xE xF xG xH xI xJ xK xL uO G) (sx_Ex (some (.int res.1)) (sx_hp b uG uN uD uR (res.2) uP uL uT uA uM uH xA xB xC xD xE xF xG xH xI xJ xK xL uO G)) := by
  rw [f_X3_lackingWithMore] at h
  refine sx_run (by decide +kernel) rfl rfl (Nat.le_of_ble_eq_true rfl) ?_
  refine at_aload_n 0 dX3_lackingWithMore_0 rfl ?_
  refine at_getf cl_X3 (by decide) fl_X3_9 hg_15 rfl dX3_lackingWithMore_1 ?_
  refine at_iload_n 1 dX3_lackingWithMore_4 rfl ?_
  obtain ⟨q1, hq1, h⟩ := sp_bind h
  refine at_callVi (st := []) hK mt_X6_placesBy ml_X3_65 cl_X6 hg_2 (t_X6_placesBy hK hq1) rfl rfl (Nat.le_of_ble_eq_true rfl) ⟨Nat.le_of_ble_eq_true rfl, Nat.le_of_ble_eq_true rfl⟩ ⟨Nat.le_refl _, Nat.le_refl _⟩ dX3_lackingWithMore_5 ?_
  refine at_istore [(0, .ref (b + 15)), (1, .int v1), (2, .int v2), (3, .int v3), (4, .int v4), (5, .int q1)] dX3_lackingWithMore_8 (Nat.le_of_ble_eq_true rfl) rfl ?_
  refine at_aload_n 0 dX3_lackingWithMore_10 rfl ?_
  refine at_getf cl_X3 (by decide) fl_X3_9 hg_15 rfl dX3_lackingWithMore_11 ?_
  refine at_iload 5 dX3_lackingWithMore_14 rfl ?_
  obtain ⟨q2, hq2, h⟩ := sp_bind h
  refine at_callVi (st := []) hK mt_X6_endsMeet ml_X3_83 cl_X6 hg_2 (t_X6_endsMeet hK hq2) rfl rfl (Nat.le_of_ble_eq_true rfl) ⟨Nat.le_of_ble_eq_true rfl, Nat.le_of_ble_eq_true rfl⟩ ⟨Nat.le_refl _, Nat.le_refl _⟩ dX3_lackingWithMore_16 ?_
  refine at_zeq 24 dX3_lackingWithMore_19 (by decide) (fun c3 => ?_) (fun c3 => ?_)
  · rw [if_neg c3] at h
    refine at_aload_n 0 dX3_lackingWithMore_24 rfl ?_
    refine at_iload 5 dX3_lackingWithMore_25 rfl ?_
    refine at_aload_n 0 dX3_lackingWithMore_27 rfl ?_
    refine at_getf cl_X3 (by decide) fl_X3_9 hg_15 rfl dX3_lackingWithMore_28 ?_
    refine at_iload_n 1 dX3_lackingWithMore_31 rfl ?_
    refine at_iload_n 2 dX3_lackingWithMore_32 rfl ?_
    obtain ⟨q4, hq4, h⟩ := sp_bind h
    refine at_callVi (st := [.int q1, .ref (b + 15)]) hK mt_X6_openOf ml_X3_73 cl_X6 hg_2 (t_X6_openOf hK hq4) rfl rfl (Nat.le_of_ble_eq_true rfl) ⟨Nat.le_of_ble_eq_true rfl, Nat.le_of_ble_eq_true rfl⟩ ⟨Nat.le_refl _, Nat.le_refl _⟩ dX3_lackingWithMore_33 ?_
    obtain ⟨q5, hq5, h⟩ := sp_bind h
    refine at_callVv (st := []) hK mt_X3_bringOpen ml_X3_76 cl_X3 hg_15 (t_X3_bringOpen hK hq5) rfl rfl (Nat.le_of_ble_eq_true rfl) ⟨Nat.le_of_ble_eq_true rfl, Nat.le_of_ble_eq_true rfl⟩ ⟨Nat.le_refl _, Nat.le_refl _⟩ dX3_lackingWithMore_36 ?_
    refine at_aload_n 0 dX3_lackingWithMore_39 rfl ?_
    refine at_getf cl_X3 (by decide) fl_X3_15 hg_15 rfl dX3_lackingWithMore_40 ?_
    refine at_bipush 14 dX3_lackingWithMore_43 bp_14 ?_
    refine at_iload 5 dX3_lackingWithMore_45 rfl ?_
    refine at_iload_n 3 dX3_lackingWithMore_47 rfl ?_
    obtain ⟨q6, hq6, h⟩ := sp_bind h
    refine at_callSi (st := [.int 14, .ref (b + 9)]) hK mt_X8_numberOf ml_X3_38 (t_X8_numberOf hK hq6) rfl rfl (Nat.le_of_ble_eq_true rfl) ⟨Nat.le_of_ble_eq_true rfl, Nat.le_of_ble_eq_true rfl⟩ ⟨Nat.le_refl _, Nat.le_refl _⟩ dX3_lackingWithMore_48 ?_
    refine at_iload 5 dX3_lackingWithMore_51 rfl ?_
    refine at_iload 4 dX3_lackingWithMore_53 rfl ?_
    obtain ⟨q7, hq7, h⟩ := sp_bind h
    refine at_callSi (st := [.int q6, .int 14, .ref (b + 9)]) hK mt_X8_numberOf ml_X3_38 (t_X8_numberOf hK hq7) rfl rfl (Nat.le_of_ble_eq_true rfl) ⟨Nat.le_of_ble_eq_true rfl, Nat.le_of_ble_eq_true rfl⟩ ⟨Nat.le_refl _, Nat.le_refl _⟩ dX3_lackingWithMore_55 ?_
    obtain ⟨q8, hq8, h⟩ := sp_bind h
    refine at_callVv (st := []) hK mt_X0_lay ml_X3_47 cl_X0 hg_9 (t_X0_lay hK hq8) rfl rfl (Nat.le_of_ble_eq_true rfl) ⟨Nat.le_of_ble_eq_true rfl, Nat.le_of_ble_eq_true rfl⟩ ⟨Nat.le_refl _, Nat.le_refl _⟩ dX3_lackingWithMore_58 ?_
    refine at_aload_n 0 dX3_lackingWithMore_61 rfl ?_
    refine at_getf cl_X3 (by decide) fl_X3_15 hg_15 rfl dX3_lackingWithMore_62 ?_
    refine at_bipush 14 dX3_lackingWithMore_65 bp_14 ?_
    obtain ⟨q9, hq9, h⟩ := sp_bind h
    refine at_callVi (st := []) hK mt_X0_bring ml_X3_51 cl_X0 hg_9 (t_X0_bring hK hq9) rfl rfl (Nat.le_of_ble_eq_true rfl) ⟨Nat.le_of_ble_eq_true rfl, Nat.le_of_ble_eq_true rfl⟩ ⟨Nat.le_refl _, Nat.le_refl _⟩ dX3_lackingWithMore_67 ?_
    refine at_pop dX3_lackingWithMore_70 rfl ?_
    refine at_aload_n 0 dX3_lackingWithMore_71 rfl ?_
    refine at_iload 5 dX3_lackingWithMore_72 rfl ?_
    refine at_aload_n 0 dX3_lackingWithMore_74 rfl ?_
    refine at_getf cl_X3 (by decide) fl_X3_9 hg_15 rfl dX3_lackingWithMore_75 ?_
    refine at_getf cl_X6 (by decide) fl_X3_54 hg_2 rfl dX3_lackingWithMore_78 ?_
    obtain ⟨q10, hq10, h⟩ := sp_bind h
    refine at_callSi (st := [.ref (b + 15)]) hK mt_X8_numberOf ml_X3_38 (t_X8_numberOf hK hq10) rfl rfl (Nat.le_of_ble_eq_true rfl) ⟨Nat.le_of_ble_eq_true rfl, Nat.le_of_ble_eq_true rfl⟩ ⟨Nat.le_refl _, Nat.le_refl _⟩ dX3_lackingWithMore_81 ?_
    refine at_iload 5 dX3_lackingWithMore_84 rfl ?_
    refine at_aload_n 0 dX3_lackingWithMore_86 rfl ?_
    refine at_getf cl_X3 (by decide) fl_X3_9 hg_15 rfl dX3_lackingWithMore_87 ?_
    refine at_getf cl_X6 (by decide) fl_X3_58 hg_2 rfl dX3_lackingWithMore_90 ?_
    obtain ⟨q11, hq11, h⟩ := sp_bind h
    refine at_callSi (st := [.int q10, .ref (b + 15)]) hK mt_X8_numberOf ml_X3_38 (t_X8_numberOf hK hq11) rfl rfl (Nat.le_of_ble_eq_true rfl) ⟨Nat.le_of_ble_eq_true rfl, Nat.le_of_ble_eq_true rfl⟩ ⟨Nat.le_refl _, Nat.le_refl _⟩ dX3_lackingWithMore_93 ?_
    obtain ⟨q12, hq12, h⟩ := sp_bind h
    refine at_callVi (st := []) hK mt_X3_stillTaken ml_X3_80 cl_X3 hg_15 (t_X3_stillTaken hK hq12) rfl rfl (Nat.le_of_ble_eq_true rfl) ⟨Nat.le_of_ble_eq_true rfl, Nat.le_of_ble_eq_true rfl⟩ ⟨Nat.le_refl _, Nat.le_refl _⟩ dX3_lackingWithMore_96 ?_
    cases h; exact at_iret rfl (Nat.le_refl _) (Nat.le_refl _) ⟨rfl, rfl⟩ dX3_lackingWithMore_99
  · rw [if_pos c3] at h
    refine at_iconst 0 dX3_lackingWithMore_22 ic_0 ?_
    cases h; exact at_iret rfl (Nat.le_refl _) (Nat.le_refl _) ⟨rfl, rfl⟩ dX3_lackingWithMore_23
set_option maxRecDepth 100000 in
theorem t_X11_ifMore {D : va_G} {b : Nat} {K : State → Heap → Prop} {sa : Nat → Nat} (hK : sx_Kk b K sa) {N : Nat} {uG uN uD uR uP uL uT uA uM uH xA xB xC xD xE xF xG xH xI xJ xK xL uO : sx_C} {G : sx_H} {v1 : Int32} {v2 : Int32} {uF : sx_C} {res : Int32 × sx_C} (h : f_X11_ifMore N uG uN v1 v2 uF = some res) : sx_Runs D b K yX11_ifMore YX11_ifMore (sx_rm 4) [.ref (b + 0), .int v1, .int v2] (sx_hp b uG uN uD uR uF uP uL uT uA uM uH xA xB xC xD xE xF xG xH xI xJ xK xL uO G) (sx_Ex (some (.int res.1)) (sx_hp b uG uN uD uR (res.2) uP uL uT uA uM uH xA xB xC xD xE xF xG xH xI xJ xK xL uO G)) := by
  rw [f_X11_ifMore] at h
  refine sx_run (by decide +kernel) rfl rfl (Nat.le_of_ble_eq_true rfl) ?_
  refine at_aload_n 0 dX11_ifMore_0 rfl ?_
  refine at_iload_n 1 dX11_ifMore_1 rfl ?_
  refine at_iload_n 2 dX11_ifMore_2 rfl ?_
  obtain ⟨q1, hq1, h⟩ := sp_bind h
  refine at_callVi (st := []) hK mt_X11_areTwoKnots ml_X11_267 cl_X11 hg_0 (t_X11_areTwoKnots hK hq1) rfl rfl (Nat.le_of_ble_eq_true rfl) ⟨Nat.le_of_ble_eq_true rfl, Nat.le_of_ble_eq_true rfl⟩ ⟨Nat.le_refl _, Nat.le_refl _⟩ dX11_ifMore_3 ?_
  refine at_zne 11 dX11_ifMore_6 (by decide) (fun c2 => ?_) (fun c2 => ?_)
  · rw [if_pos c2] at h
    refine at_aload_n 0 dX11_ifMore_11 rfl ?_
    refine at_getf cl_X11 (by decide) fl_X11_44 hg_0 rfl dX11_ifMore_12 ?_
    refine at_aload_n 0 dX11_ifMore_15 rfl ?_
    refine at_getf cl_X11 (by decide) fl_X11_91 hg_0 rfl dX11_ifMore_16 ?_
    refine at_aload_n 0 dX11_ifMore_19 rfl ?_
    refine at_getf cl_X11 (by decide) fl_X11_94 hg_0 rfl dX11_ifMore_20 ?_
    refine at_iload_n 1 dX11_ifMore_23 rfl ?_
    refine at_iload_n 2 dX11_ifMore_24 rfl ?_
    obtain ⟨q3, hq3, h⟩ := sp_bind h
    refine at_callVi (st := []) hK mt_X3_lackingWithMore ml_X11_270 cl_X3 hg_15 (t_X3_lackingWithMore hK hq3) rfl rfl (Nat.le_of_ble_eq_true rfl) ⟨Nat.le_of_ble_eq_true rfl, Nat.le_of_ble_eq_true rfl⟩ ⟨Nat.le_refl _, Nat.le_refl _⟩ dX11_ifMore_25 ?_
    obtain ⟨q4, hq4, h⟩ := sp_bind h
    refine at_callSi (st := []) hK mt_X3_outcomeBy ml_X11_220 (t_X3_outcomeBy hK hq4) rfl rfl (Nat.le_of_ble_eq_true rfl) ⟨Nat.le_of_ble_eq_true rfl, Nat.le_of_ble_eq_true rfl⟩ ⟨Nat.le_refl _, Nat.le_refl _⟩ dX11_ifMore_28 ?_
    cases h; exact at_iret rfl (Nat.le_refl _) (Nat.le_refl _) ⟨rfl, rfl⟩ dX11_ifMore_31
  · rw [if_neg c2] at h
    refine at_iconst (-1) dX11_ifMore_9 ic_m1 ?_
    cases h; exact at_iret rfl (Nat.le_refl _) (Nat.le_refl _) ⟨rfl, rfl⟩ dX11_ifMore_10
set_option maxRecDepth 100000 in
theorem t_X11_ifEnds {D : va_G} {b : Nat} {K : State → Heap → Prop} {sa : Nat → Nat} (hK : sx_Kk b K sa) {N : Nat} {uG uN uD uR uP uL uT uA uM uH xA xB xC xD xE xF xG xH xI xJ xK xL uO : sx_C} {G : sx_H} {v1 : Int32} {v2 : Int32} {uF : sx_C} {res : Int32 × sx_C} (h : f_X11_ifEnds N uG uN v1 v2 uF = some res) : sx_Runs D b K yX11_ifEnds YX11_ifEnds (sx_rm 4) [.ref (b + 0), .int v1, .int v2] (sx_hp b uG uN uD uR uF uP uL uT uA uM uH xA xB xC xD xE xF xG xH xI xJ xK xL uO G) (sx_Ex (some (.int res.1)) (sx_hp b uG uN uD uR (res.2) uP uL uT uA uM uH xA xB xC xD xE xF xG xH xI xJ xK xL uO G)) := by
  rw [f_X11_ifEnds] at h
  refine sx_run (by decide +kernel) rfl rfl (Nat.le_of_ble_eq_true rfl) ?_
  refine at_aload_n 0 dX11_ifEnds_0 rfl ?_
  refine at_iload_n 1 dX11_ifEnds_1 rfl ?_
  refine at_iload_n 2 dX11_ifEnds_2 rfl ?_
  obtain ⟨q1, hq1, h⟩ := sp_bind h
  refine at_callVi (st := []) hK mt_X11_areTwoKnots ml_X11_267 cl_X11 hg_0 (t_X11_areTwoKnots hK hq1) rfl rfl (Nat.le_of_ble_eq_true rfl) ⟨Nat.le_of_ble_eq_true rfl, Nat.le_of_ble_eq_true rfl⟩ ⟨Nat.le_refl _, Nat.le_refl _⟩ dX11_ifEnds_3 ?_
  refine at_zne 11 dX11_ifEnds_6 (by decide) (fun c2 => ?_) (fun c2 => ?_)
  · rw [if_pos c2] at h
    refine at_aload_n 0 dX11_ifEnds_11 rfl ?_
    refine at_getf cl_X11 (by decide) fl_X11_44 hg_0 rfl dX11_ifEnds_12 ?_
    refine at_aload_n 0 dX11_ifEnds_15 rfl ?_
    refine at_getf cl_X11 (by decide) fl_X11_91 hg_0 rfl dX11_ifEnds_16 ?_
    refine at_aload_n 0 dX11_ifEnds_19 rfl ?_
    refine at_getf cl_X11 (by decide) fl_X11_94 hg_0 rfl dX11_ifEnds_20 ?_
    refine at_iload_n 1 dX11_ifEnds_23 rfl ?_
    refine at_iload_n 2 dX11_ifEnds_24 rfl ?_
    obtain ⟨q3, hq3, h⟩ := sp_bind h
    refine at_callVi (st := []) hK mt_X3_lackingBetween ml_X11_273 cl_X3 hg_15 (t_X3_lackingBetween hK hq3) rfl rfl (Nat.le_of_ble_eq_true rfl) ⟨Nat.le_of_ble_eq_true rfl, Nat.le_of_ble_eq_true rfl⟩ ⟨Nat.le_refl _, Nat.le_refl _⟩ dX11_ifEnds_25 ?_
    obtain ⟨q4, hq4, h⟩ := sp_bind h
    refine at_callSi (st := []) hK mt_X3_outcomeBy ml_X11_220 (t_X3_outcomeBy hK hq4) rfl rfl (Nat.le_of_ble_eq_true rfl) ⟨Nat.le_of_ble_eq_true rfl, Nat.le_of_ble_eq_true rfl⟩ ⟨Nat.le_refl _, Nat.le_refl _⟩ dX11_ifEnds_28 ?_
    cases h; exact at_iret rfl (Nat.le_refl _) (Nat.le_refl _) ⟨rfl, rfl⟩ dX11_ifEnds_31
  · rw [if_neg c2] at h
    refine at_iconst (-1) dX11_ifEnds_9 ic_m1 ?_
    cases h; exact at_iret rfl (Nat.le_refl _) (Nat.le_refl _) ⟨rfl, rfl⟩ dX11_ifEnds_10
set_option maxRecDepth 100000 in
theorem t_X11_lacks {D : va_G} {b : Nat} {K : State → Heap → Prop} {sa : Nat → Nat} (hK : sx_Kk b K sa) {N : Nat} {uG uN uD uR uP uL uT uA uM uH xA xB xC xD xE xF xG xH xI xJ xK xL uO : sx_C} {G : sx_H} {uF : sx_C} {res : Int32 × sx_C} (h : f_X11_lacks N uG uN uF = some res) : sx_Runs D b K yX11_lacks YX11_lacks (sx_rm 5) [.ref (b + 0)] (sx_hp b uG uN uD uR uF uP uL uT uA uM uH xA xB xC xD xE xF xG xH xI xJ xK xL uO G) (sx_Ex (some (.int res.1)) (sx_hp b uG uN uD uR (res.2) uP uL uT uA uM uH xA xB xC xD xE xF xG xH xI xJ xK xL uO G)) := by
  rw [f_X11_lacks] at h
  refine sx_run (by decide +kernel) rfl rfl (Nat.le_of_ble_eq_true rfl) ?_
  refine at_aload_n 0 dX11_lacks_0 rfl ?_
  refine at_getf cl_X11 (by decide) fl_X11_44 hg_0 rfl dX11_lacks_1 ?_
  refine at_aload_n 0 dX11_lacks_4 rfl ?_
  refine at_getf cl_X11 (by decide) fl_X11_91 hg_0 rfl dX11_lacks_5 ?_
  refine at_aload_n 0 dX11_lacks_8 rfl ?_
  refine at_getf cl_X11 (by decide) fl_X11_94 hg_0 rfl dX11_lacks_9 ?_
  obtain ⟨q1, hq1, h⟩ := sp_bind h
  refine at_callVi (st := []) hK mt_X3_lacking ml_X11_217 cl_X3 hg_15 (t_X3_lacking hK hq1) rfl rfl (Nat.le_of_ble_eq_true rfl) ⟨Nat.le_of_ble_eq_true rfl, Nat.le_of_ble_eq_true rfl⟩ ⟨Nat.le_refl _, Nat.le_refl _⟩ dX11_lacks_12 ?_
  cases h; exact at_iret rfl (Nat.le_refl _) (Nat.le_refl _) ⟨rfl, rfl⟩ dX11_lacks_15
set_option maxRecDepth 100000 in
theorem t_X11_cutAnswer {D : va_G} {b : Nat} {K : State → Heap → Prop} {sa : Nat → Nat} (hK : sx_Kk b K sa) {N : Nat} {uG uN uD uR uP uL uT uA uM uH xA xB xC xD xE xF xG xH xI xJ xK xL uO : sx_C} {G : sx_H} {v1 : Int32} {uF : sx_C} {res : Int32 × sx_C} (h : f_X11_cutAnswer N uG uN v1 uF = some res) : sx_Runs D b K yX11_cutAnswer YX11_cutAnswer (sx_rm 5) [.ref (b + 0), .int v1] (sx_hp b uG uN uD uR uF uP uL uT uA uM uH xA xB xC xD xE xF xG xH xI xJ xK xL uO G) (sx_Ex (some (.int res.1)) (sx_hp b uG uN uD uR (res.2) uP uL uT uA uM uH xA xB xC xD xE xF xG xH xI xJ xK xL uO G)) := by
  rw [f_X11_cutAnswer] at h
  refine sx_run (by decide +kernel) rfl rfl (Nat.le_of_ble_eq_true rfl) ?_
  refine at_aload_n 0 dX11_cutAnswer_0 rfl ?_
  refine at_getf cl_X11 (by decide) fl_X11_16 hg_0 rfl dX11_cutAnswer_1 ?_
  refine at_iload_n 1 dX11_cutAnswer_4 rfl ?_
  obtain ⟨q1, hq1, h⟩ := sp_bind h
  refine at_callVi (st := []) hK mt_X6_isLine ml_X11_122 cl_X6 hg_2 (t_X6_isLine hK hq1) rfl rfl (Nat.le_of_ble_eq_true rfl) ⟨Nat.le_of_ble_eq_true rfl, Nat.le_of_ble_eq_true rfl⟩ ⟨Nat.le_refl _, Nat.le_refl _⟩ dX11_cutAnswer_5 ?_
  refine at_zne 13 dX11_cutAnswer_8 (by decide) (fun c2 => ?_) (fun c2 => ?_)
  · rw [if_pos c2] at h
    refine at_aload_n 0 dX11_cutAnswer_13 rfl ?_
    refine at_iload_n 1 dX11_cutAnswer_14 rfl ?_
    obtain ⟨q3, hq3, h⟩ := sp_bind h
    refine at_callVi (st := []) hK mt_X11_isOpen ml_X11_171 cl_X11 hg_0 (t_X11_isOpen hK hq3) rfl rfl (Nat.le_of_ble_eq_true rfl) ⟨Nat.le_of_ble_eq_true rfl, Nat.le_of_ble_eq_true rfl⟩ ⟨Nat.le_refl _, Nat.le_refl _⟩ dX11_cutAnswer_15 ?_
    refine at_zeq 28 dX11_cutAnswer_18 (by decide) (fun c4 => ?_) (fun c4 => ?_)
    · rw [if_neg c4] at h
      refine at_bipush (-2) dX11_cutAnswer_28 bp_m2 ?_
      cases h; exact at_iret rfl (Nat.le_refl _) (Nat.le_refl _) ⟨rfl, rfl⟩ dX11_cutAnswer_30
    · rw [if_pos c4] at h
      refine at_aload_n 0 dX11_cutAnswer_21 rfl ?_
      obtain ⟨q5, hq5, h⟩ := sp_bind h
      refine at_callVi (st := []) hK mt_X11_isOver ml_X11_174 cl_X11 hg_0 (t_X11_isOver hK hq5) rfl rfl (Nat.le_of_ble_eq_true rfl) ⟨Nat.le_of_ble_eq_true rfl, Nat.le_of_ble_eq_true rfl⟩ ⟨Nat.le_refl _, Nat.le_refl _⟩ dX11_cutAnswer_22 ?_
      refine at_zeq 31 dX11_cutAnswer_25 (by decide) (fun c6 => ?_) (fun c6 => ?_)
      · rw [if_neg c6] at h
        refine at_aload_n 0 dX11_cutAnswer_31 rfl ?_
        refine at_getf cl_X11 (by decide) fl_X11_44 hg_0 rfl dX11_cutAnswer_32 ?_
        refine at_iconst 0 dX11_cutAnswer_35 ic_0 ?_
        refine at_iconst 1 dX11_cutAnswer_36 ic_1 ?_
        refine at_aload_n 0 dX11_cutAnswer_37 rfl ?_
        refine at_getf cl_X11 (by decide) fl_X11_91 hg_0 rfl dX11_cutAnswer_38 ?_
        refine at_iconst 1 dX11_cutAnswer_41 ic_1 ?_
        refine at_iload_n 1 dX11_cutAnswer_42 rfl ?_
        refine at_ishl dX11_cutAnswer_43 ?_
        refine at_ior dX11_cutAnswer_44 ?_
        refine at_aload_n 0 dX11_cutAnswer_45 rfl ?_
        refine at_getf cl_X11 (by decide) fl_X11_94 hg_0 rfl dX11_cutAnswer_46 ?_
        obtain ⟨q7, hq7, h⟩ := sp_bind h
        refine at_callVi (st := []) hK mt_X3_winningFrom ml_X11_276 cl_X3 hg_15 (t_X3_winningFrom hK hq7) rfl rfl (Nat.le_of_ble_eq_true rfl) ⟨Nat.le_of_ble_eq_true rfl, Nat.le_of_ble_eq_true rfl⟩ ⟨Nat.le_refl _, Nat.le_refl _⟩ dX11_cutAnswer_49 ?_
        cases h; exact at_iret rfl (Nat.le_refl _) (Nat.le_refl _) ⟨rfl, rfl⟩ dX11_cutAnswer_52
      · rw [if_pos c6] at h
        refine at_bipush (-2) dX11_cutAnswer_28 bp_m2 ?_
        cases h; exact at_iret rfl (Nat.le_refl _) (Nat.le_refl _) ⟨rfl, rfl⟩ dX11_cutAnswer_30
  · rw [if_neg c2] at h
    refine at_iconst (-1) dX11_cutAnswer_11 ic_m1 ?_
    cases h; exact at_iret rfl (Nat.le_refl _) (Nat.le_refl _) ⟨rfl, rfl⟩ dX11_cutAnswer_12
set_option maxRecDepth 100000 in
theorem t_X11_verifiedForCut {D : va_G} {b : Nat} {K : State → Heap → Prop} {sa : Nat → Nat} (hK : sx_Kk b K sa) {N : Nat} {uG uN uD uR uL uT uA uH xA xB xC xD xE xF xG xH xI xJ xK xL uO : sx_C} {G : sx_H} {v1 : Int32} {uF : sx_C} {uP : sx_C} {uM : sx_C} {res : Int32 × sx_C × sx_C × sx_C} (h : f_X11_verifiedForCut N uG uN v1 uF uP uM = some res) : sx_Runs D b K yX11_verifiedForCut YX11_verifiedForCut (sx_rm 47) [.ref (b + 0), .int v1] (sx_hp b uG uN uD uR uF uP uL uT uA uM uH xA xB xC xD xE xF xG xH xI xJ xK xL uO G) (sx_Ex (some (.int res.1)) (sx_hp b uG uN uD uR (res.2.1) (res.2.2.1) uL uT uA (res.2.2.2) uH xA xB xC xD xE xF xG xH xI xJ xK xL uO G)) := by
  rw [f_X11_verifiedForCut] at h
  refine sx_run (by decide +kernel) rfl rfl (Nat.le_of_ble_eq_true rfl) ?_
  refine at_iload_n 1 dX11_verifiedForCut_0 rfl ?_
  refine at_if_lt 9 dX11_verifiedForCut_1 (by decide) (fun c1 => ?_) (fun c1 => ?_)
  · rw [if_pos c1] at h
    refine at_iconst (-1) dX11_verifiedForCut_9 ic_m1 ?_
    cases h; exact at_iret rfl (Nat.le_refl _) (Nat.le_refl _) ⟨rfl, rfl⟩ dX11_verifiedForCut_10
  · rw [if_neg c1] at h
    refine at_iload_n 1 dX11_verifiedForCut_4 rfl ?_
    refine at_iconst 1 dX11_verifiedForCut_5 ic_1 ?_
    refine at_icmp_le 11 dX11_verifiedForCut_6 (by decide) (fun c2 => ?_) (fun c2 => ?_)
    · rw [if_pos c2] at h
      refine at_aload_n 0 dX11_verifiedForCut_11 rfl ?_
      obtain ⟨q3, hq3, h⟩ := sp_bind h
      refine at_callVi (st := []) hK mt_X11_isSmall ml_X11_236 cl_X11 hg_0 (t_X11_isSmall hK hq3) rfl rfl (Nat.le_of_ble_eq_true rfl) ⟨Nat.le_of_ble_eq_true rfl, Nat.le_of_ble_eq_true rfl⟩ ⟨Nat.le_refl _, Nat.le_refl _⟩ dX11_verifiedForCut_12 ?_
      refine at_zeq 37 dX11_verifiedForCut_15 (by decide) (fun c4 => ?_) (fun c4 => ?_)
      · rw [if_neg c4] at h
        refine at_bipush (-2) dX11_verifiedForCut_37 bp_m2 ?_
        cases h; exact at_iret rfl (Nat.le_refl _) (Nat.le_refl _) ⟨rfl, rfl⟩ dX11_verifiedForCut_39
      · rw [if_pos c4] at h
        refine at_aload_n 0 dX11_verifiedForCut_18 rfl ?_
        refine at_getf cl_X11 (by decide) fl_X11_44 hg_0 rfl dX11_verifiedForCut_19 ?_
        refine at_aload_n 0 dX11_verifiedForCut_22 rfl ?_
        refine at_getf cl_X11 (by decide) fl_X11_91 hg_0 rfl dX11_verifiedForCut_23 ?_
        refine at_aload_n 0 dX11_verifiedForCut_26 rfl ?_
        refine at_getf cl_X11 (by decide) fl_X11_94 hg_0 rfl dX11_verifiedForCut_27 ?_
        obtain ⟨q5, hq5, h⟩ := sp_bind h
        refine at_callVi (st := []) hK mt_X3_lacking ml_X11_217 cl_X3 hg_15 (t_X3_lacking hK hq5) rfl rfl (Nat.le_of_ble_eq_true rfl) ⟨Nat.le_of_ble_eq_true rfl, Nat.le_of_ble_eq_true rfl⟩ ⟨Nat.le_refl _, Nat.le_refl _⟩ dX11_verifiedForCut_30 ?_
        refine at_iconst 2 dX11_verifiedForCut_33 ic_2 ?_
        refine at_icmp_ge 40 dX11_verifiedForCut_34 (by decide) (fun c6 => ?_) (fun c6 => ?_)
        · rw [if_pos c6] at h
          refine at_aload_n 0 dX11_verifiedForCut_40 rfl ?_
          refine at_getf cl_X11 (by decide) fl_X11_76 hg_0 rfl dX11_verifiedForCut_41 ?_
          refine at_iconst 0 dX11_verifiedForCut_44 ic_0 ?_
          refine at_aload_n 0 dX11_verifiedForCut_45 rfl ?_
          refine at_getf cl_X11 (by decide) fl_X11_91 hg_0 rfl dX11_verifiedForCut_46 ?_
          refine at_aload_n 0 dX11_verifiedForCut_49 rfl ?_
          refine at_getf cl_X11 (by decide) fl_X11_94 hg_0 rfl dX11_verifiedForCut_50 ?_
          refine at_iload_n 1 dX11_verifiedForCut_53 rfl ?_
          obtain ⟨q7, hq7, h⟩ := sp_bind h
          refine at_callVi (st := []) hK mt_X1_goThrough ml_X11_239 cl_X1 hg_32 (t_X1_goThrough hK hq7) rfl rfl (Nat.le_of_ble_eq_true rfl) ⟨Nat.le_of_ble_eq_true rfl, Nat.le_of_ble_eq_true rfl⟩ ⟨Nat.le_refl _, Nat.le_refl _⟩ dX11_verifiedForCut_54 ?_
          cases h; exact at_iret rfl (Nat.le_refl _) (Nat.le_refl _) ⟨rfl, rfl⟩ dX11_verifiedForCut_57
        · rw [if_neg c6] at h
          refine at_bipush (-2) dX11_verifiedForCut_37 bp_m2 ?_
          cases h; exact at_iret rfl (Nat.le_refl _) (Nat.le_refl _) ⟨rfl, rfl⟩ dX11_verifiedForCut_39
    · rw [if_neg c2] at h
      refine at_iconst (-1) dX11_verifiedForCut_9 ic_m1 ?_
      cases h; exact at_iret rfl (Nat.le_refl _) (Nat.le_refl _) ⟨rfl, rfl⟩ dX11_verifiedForCut_10
set_option maxRecDepth 100000 in
theorem t_X4_turnedBy {D : va_G} {b : Nat} {K : State → Heap → Prop} {sa : Nat → Nat} (hK : sx_Kk b K sa) {N : Nat} {uG uN uD uR uF uP uL uT uA uM uH xA xB xC xD xE xF xG xH xI xJ xK xL uO : sx_C} {G : sx_H} {v1 : Int32} {res : Int32} (h : f_X4_turnedBy N uL v1 = some res) : sx_Runs D b K yX4_turnedBy YX4_turnedBy (sx_rm 3) [.ref (b + 17), .int v1] (sx_hp b uG uN uD uR uF uP uL uT uA uM uH xA xB xC xD xE xF xG xH xI xJ xK xL uO G) (sx_Ex (some (.int res)) (sx_hp b uG uN uD uR uF uP uL uT uA uM uH xA xB xC xD xE xF xG xH xI xJ xK xL uO G)) := by
  rw [f_X4_turnedBy] at h
  refine sx_run (by decide +kernel) rfl rfl (Nat.le_of_ble_eq_true rfl) ?_
  refine at_iconst 2 dX4_turnedBy_0 ic_2 ?_
  refine at_aload_n 0 dX4_turnedBy_1 rfl ?_
  refine at_iload_n 1 dX4_turnedBy_2 rfl ?_
  obtain ⟨q1, hq1, h⟩ := sp_bind h
  refine at_callVi (st := [.int 2]) hK mt_X4_having ml_X4_138 cl_X4 hg_17 (t_X4_having hK hq1) rfl rfl (Nat.le_of_ble_eq_true rfl) ⟨Nat.le_of_ble_eq_true rfl, Nat.le_of_ble_eq_true rfl⟩ ⟨Nat.le_refl _, Nat.le_refl _⟩ dX4_turnedBy_3 ?_
  refine at_imul dX4_turnedBy_6 ?_
  refine at_aload_n 0 dX4_turnedBy_7 rfl ?_
  refine at_iconst 0 dX4_turnedBy_8 ic_0 ?_
  obtain ⟨q2, hq2, h⟩ := sp_bind h
  refine at_callVi (st := [.int (2 * q1)]) hK mt_X4_total ml_X4_141 cl_X4 hg_17 (t_X4_total hK hq2) rfl rfl (Nat.le_of_ble_eq_true rfl) ⟨Nat.le_of_ble_eq_true rfl, Nat.le_of_ble_eq_true rfl⟩ ⟨Nat.le_refl _, Nat.le_refl _⟩ dX4_turnedBy_9 ?_
  refine at_isub dX4_turnedBy_12 ?_
  cases h; exact at_iret rfl (Nat.le_refl _) (Nat.le_refl _) ⟨rfl, rfl⟩ dX4_turnedBy_13
set_option maxRecDepth 100000 in
theorem t_X11_pivots {D : va_G} {b : Nat} {K : State → Heap → Prop} {sa : Nat → Nat} (hK : sx_Kk b K sa) {N : Nat} {uG uN uD uR uF uP uT uA uM uH xA xB xC xD xE xF xG xH xI xJ xK xL uO : sx_C} {G : sx_H} {v1 : Int32} {uL : sx_C} {res : Int32 × sx_C} (h : f_X11_pivots N uG uN v1 uL = some res) : sx_Runs D b K yX11_pivots YX11_pivots (sx_rm 45) [.ref (b + 0), .int v1] (sx_hp b uG uN uD uR uF uP uL uT uA uM uH xA xB xC xD xE xF xG xH xI xJ xK xL uO G) (sx_Ex (some (.int res.1)) (sx_hp b uG uN uD uR uF uP (res.2) uT uA uM uH xA xB xC xD xE xF xG xH xI xJ xK xL uO G)) := by
  rw [f_X11_pivots] at h
  refine sx_run (by decide +kernel) rfl rfl (Nat.le_of_ble_eq_true rfl) ?_
  refine at_aload_n 0 dX11_pivots_0 rfl ?_
  refine at_getf cl_X11 (by decide) fl_X11_16 hg_0 rfl dX11_pivots_1 ?_
  refine at_iload_n 1 dX11_pivots_4 rfl ?_
  obtain ⟨q1, hq1, h⟩ := sp_bind h
  refine at_callVi (st := []) hK mt_X6_isLine ml_X11_122 cl_X6 hg_2 (t_X6_isLine hK hq1) rfl rfl (Nat.le_of_ble_eq_true rfl) ⟨Nat.le_of_ble_eq_true rfl, Nat.le_of_ble_eq_true rfl⟩ ⟨Nat.le_refl _, Nat.le_refl _⟩ dX11_pivots_5 ?_
  refine at_zne 13 dX11_pivots_8 (by decide) (fun c2 => ?_) (fun c2 => ?_)
  · rw [if_pos c2] at h
    refine at_aload_n 0 dX11_pivots_13 rfl ?_
    refine at_iload_n 1 dX11_pivots_14 rfl ?_
    obtain ⟨q3, hq3, h⟩ := sp_bind h
    refine at_callVi (st := []) hK mt_X11_isOpen ml_X11_171 cl_X11 hg_0 (t_X11_isOpen hK hq3) rfl rfl (Nat.le_of_ble_eq_true rfl) ⟨Nat.le_of_ble_eq_true rfl, Nat.le_of_ble_eq_true rfl⟩ ⟨Nat.le_refl _, Nat.le_refl _⟩ dX11_pivots_15 ?_
    refine at_zne 24 dX11_pivots_18 (by decide) (fun c4 => ?_) (fun c4 => ?_)
    · rw [if_pos c4] at h
      refine at_aload_n 0 dX11_pivots_24 rfl ?_
      refine at_getf cl_X11 (by decide) fl_X11_60 hg_0 rfl dX11_pivots_25 ?_
      refine at_aload_n 0 dX11_pivots_28 rfl ?_
      refine at_getf cl_X11 (by decide) fl_X11_91 hg_0 rfl dX11_pivots_29 ?_
      refine at_aload_n 0 dX11_pivots_32 rfl ?_
      refine at_getf cl_X11 (by decide) fl_X11_94 hg_0 rfl dX11_pivots_33 ?_
      obtain ⟨q5, hq5, h⟩ := sp_bind h
      refine at_callVv (st := []) hK mt_X4_lookAt ml_X11_242 cl_X4 hg_17 (t_X4_lookAt hK hq5) rfl rfl (Nat.le_of_ble_eq_true rfl) ⟨Nat.le_of_ble_eq_true rfl, Nat.le_of_ble_eq_true rfl⟩ ⟨Nat.le_refl _, Nat.le_refl _⟩ dX11_pivots_36 ?_
      refine at_aload_n 0 dX11_pivots_39 rfl ?_
      refine at_getf cl_X11 (by decide) fl_X11_60 hg_0 rfl dX11_pivots_40 ?_
      refine at_iload_n 1 dX11_pivots_43 rfl ?_
      obtain ⟨q6, hq6, h⟩ := sp_bind h
      refine at_callVi (st := []) hK mt_X4_turnedBy ml_X11_279 cl_X4 hg_17 (t_X4_turnedBy hK hq6) rfl rfl (Nat.le_of_ble_eq_true rfl) ⟨Nat.le_of_ble_eq_true rfl, Nat.le_of_ble_eq_true rfl⟩ ⟨Nat.le_refl _, Nat.le_refl _⟩ dX11_pivots_44 ?_
      cases h; exact at_iret rfl (Nat.le_refl _) (Nat.le_refl _) ⟨rfl, rfl⟩ dX11_pivots_47
    · rw [if_neg c4] at h
      refine at_bipush (-2) dX11_pivots_21 bp_m2 ?_
      cases h; exact at_iret rfl (Nat.le_refl _) (Nat.le_refl _) ⟨rfl, rfl⟩ dX11_pivots_23
  · rw [if_neg c2] at h
    refine at_iconst (-1) dX11_pivots_11 ic_m1 ?_
    cases h; exact at_iret rfl (Nat.le_refl _) (Nat.le_refl _) ⟨rfl, rfl⟩ dX11_pivots_12
set_option maxRecDepth 100000 in
theorem t_X4_inAll_46 {D : va_G} {b : Nat} {K : State → Heap → Prop} {sa : Nat → Nat} (hK : sx_Kk b K sa) (N : Nat) {k4 : Int32 → Int32 → Option (Int32)} {uG uN uD uR uF uP uL uT uA uM uH xA xB xC xD xE xF xG xH xI xJ xK xL uO : sx_C} {G : sx_H} (res : Int32) (hk4 : ∀ (v1 : Int32) (v2 : Int32), k4 v1 v2 = some res → sx_At D b K YX4_inAll (sx_rm 2) (sx_Ex (some (.int res)) (sx_hp b uG uN uD uR uF uP uL uT uA uM uH xA xB xC xD xE xF xG xH xI xJ xK xL uO G)) 4 [(0, .ref (b + 17)), (1, .int v1), (2, .int v2)] [] (sx_hp b uG uN uD uR uF uP uL uT uA uM uH xA xB xC xD xE xF xG xH xI xJ xK xL uO G) 0 0) : ∀ (v1 : Int32) (v2 : Int32), f_X4_inAll_46 N k4 uL v1 v2 = some res → sx_At D b K YX4_inAll (sx_rm 2) (sx_Ex (some (.int res)) (sx_hp b uG uN uD uR uF uP uL uT uA uM uH xA xB xC xD xE xF xG xH xI xJ xK xL uO G)) 46 [(0, .ref (b + 17)), (1, .int v1), (2, .int v2)] [] (sx_hp b uG uN uD uR uF uP uL uT uA uM uH xA xB xC xD xE xF xG xH xI xJ xK xL uO G) 0 0 := by
  intro v1 v2 h
  rw [f_X4_inAll_46] at h
  refine at_iinc 2 1 [(0, .ref (b + 17)), (1, .int v1), (2, .int (v2 + 1))] dX4_inAll_46 rfl ic_1 (Nat.le_of_ble_eq_true rfl) rfl ?_
  refine at_goto 4 dX4_inAll_49 (by decide) ?_
  exact hk4 _ _ h
set_option maxRecDepth 100000 in
theorem t_X4_inAll_4 {D : va_G} {b : Nat} {K : State → Heap → Prop} {sa : Nat → Nat} (hK : sx_Kk b K sa) (N : Nat) {uG uN uD uR uF uP uL uT uA uM uH xA xB xC xD xE xF xG xH xI xJ xK xL uO : sx_C} {G : sx_H} (res : Int32) : ∀ (n0 : Nat) (v1 : Int32) (v2 : Int32), f_X4_inAll_4 N uL n0 v1 v2 = some res → sx_At D b K YX4_inAll (sx_rm 2) (sx_Ex (some (.int res)) (sx_hp b uG uN uD uR uF uP uL uT uA uM uH xA xB xC xD xE xF xG xH xI xJ xK xL uO G)) 4 [(0, .ref (b + 17)), (1, .int v1), (2, .int v2)] [] (sx_hp b uG uN uD uR uF uP uL uT uA uM uH xA xB xC xD xE xF xG xH xI xJ xK xL uO G) 0 0 := by
  intro n0
  induction n0 with
  | zero => intro _ _ h; cases h
  | succ n0 ih =>
    intro v1 v2 h
    rw [f_X4_inAll_4] at h
    refine at_iload_n 2 dX4_inAll_4 rfl ?_
    refine at_aload_n 0 dX4_inAll_5 rfl ?_
    refine at_getf cl_X4 (by decide) fl_X4_35 hg_17 rfl dX4_inAll_6 ?_
    refine at_icmp_ge 52 dX4_inAll_9 (by decide) (fun c1 => ?_) (fun c1 => ?_)
    · rw [if_pos c1] at h
      refine at_aload_n 0 dX4_inAll_52 rfl ?_
      refine at_iload_n 1 dX4_inAll_53 rfl ?_
      obtain ⟨q2, hq2, h⟩ := sp_bind h
      refine at_callVi (st := []) hK mt_X4_linesOf ml_X4_124 cl_X4 hg_17 (t_X4_linesOf hK hq2) rfl rfl (Nat.le_of_ble_eq_true rfl) ⟨Nat.le_of_ble_eq_true rfl, Nat.le_of_ble_eq_true rfl⟩ ⟨Nat.le_refl _, Nat.le_refl _⟩ dX4_inAll_54 ?_
      cases h; exact at_iret rfl (Nat.le_refl _) (Nat.le_refl _) ⟨rfl, rfl⟩ dX4_inAll_57
    · rw [if_neg c1] at h
      refine at_aload_n 0 dX4_inAll_12 rfl ?_
      refine at_aload_n 0 dX4_inAll_13 rfl ?_
      obtain ⟨q3, hq3, h⟩ := sp_bind h
      refine at_callVi (st := [.ref (b + 17)]) hK mt_X4_all ml_X4_103 cl_X4 hg_17 (t_X4_all hK hq3) rfl rfl (Nat.le_of_ble_eq_true rfl) ⟨Nat.le_of_ble_eq_true rfl, Nat.le_of_ble_eq_true rfl⟩ ⟨Nat.le_refl _, Nat.le_refl _⟩ dX4_inAll_14 ?_
      obtain ⟨q4, hq4, h⟩ := sp_bind h
      refine at_callVi (st := []) hK mt_X4_isLucky ml_X4_100 cl_X4 hg_17 (t_X4_isLucky hK hq4) rfl rfl (Nat.le_of_ble_eq_true rfl) ⟨Nat.le_of_ble_eq_true rfl, Nat.le_of_ble_eq_true rfl⟩ ⟨Nat.le_refl _, Nat.le_refl _⟩ dX4_inAll_17 ?_
      refine at_zeq 46 dX4_inAll_20 (by decide) (fun c5 => ?_) (fun c5 => ?_)
      · rw [if_neg c5] at h
        exact t_X4_inAll_46 hK N _ ih _ _ h
      · rw [if_pos c5] at h
        refine at_aload_n 0 dX4_inAll_23 rfl ?_
        refine at_aload_n 0 dX4_inAll_24 rfl ?_
        obtain ⟨q6, hq6, h⟩ := sp_bind h
        refine at_callVi (st := [.ref (b + 17)]) hK mt_X4_all ml_X4_103 cl_X4 hg_17 (t_X4_all hK hq6) rfl rfl (Nat.le_of_ble_eq_true rfl) ⟨Nat.le_of_ble_eq_true rfl, Nat.le_of_ble_eq_true rfl⟩ ⟨Nat.le_refl _, Nat.le_refl _⟩ dX4_inAll_25 ?_
        refine at_iconst 1 dX4_inAll_28 ic_1 ?_
        refine at_iload_n 2 dX4_inAll_29 rfl ?_
        refine at_ishl dX4_inAll_30 ?_
        refine at_iconst (-1) dX4_inAll_31 ic_m1 ?_
        refine at_ixor dX4_inAll_32 ?_
        refine at_iand dX4_inAll_33 ?_
        obtain ⟨q7, hq7, h⟩ := sp_bind h
        refine at_callVi (st := []) hK mt_X4_isLucky ml_X4_100 cl_X4 hg_17 (t_X4_isLucky hK hq7) rfl rfl (Nat.le_of_ble_eq_true rfl) ⟨Nat.le_of_ble_eq_true rfl, Nat.le_of_ble_eq_true rfl⟩ ⟨Nat.le_refl _, Nat.le_refl _⟩ dX4_inAll_34 ?_
        refine at_zne 46 dX4_inAll_37 (by decide) (fun c8 => ?_) (fun c8 => ?_)
        · rw [if_pos c8] at h
          exact t_X4_inAll_46 hK N _ ih _ _ h
        · rw [if_neg c8] at h
          refine at_iload_n 1 dX4_inAll_40 rfl ?_
          refine at_iconst 1 dX4_inAll_41 ic_1 ?_
          refine at_iload_n 2 dX4_inAll_42 rfl ?_
          refine at_ishl dX4_inAll_43 ?_
          refine at_ior dX4_inAll_44 ?_
          refine at_istore_n [(0, .ref (b + 17)), (1, .int (v1 ||| (sp_shl 1 v2))), (2, .int v2)] dX4_inAll_45 (Nat.le_of_ble_eq_true rfl) rfl ?_
          exact t_X4_inAll_46 hK N _ ih _ _ h
set_option maxRecDepth 100000 in
theorem t_X4_inAll {D : va_G} {b : Nat} {K : State → Heap → Prop} {sa : Nat → Nat} (hK : sx_Kk b K sa) {N : Nat} {uG uN uD uR uF uP uL uT uA uM uH xA xB xC xD xE xF xG xH xI xJ xK xL uO : sx_C} {G : sx_H} {res : Int32} (h : f_X4_inAll N uL  = some res) : sx_Runs D b K yX4_inAll YX4_inAll (sx_rm 2) [.ref (b + 17)] (sx_hp b uG uN uD uR uF uP uL uT uA uM uH xA xB xC xD xE xF xG xH xI xJ xK xL uO G) (sx_Ex (some (.int res)) (sx_hp b uG uN uD uR uF uP uL uT uA uM uH xA xB xC xD xE xF xG xH xI xJ xK xL uO G)) := by
  rw [f_X4_inAll] at h
  refine sx_run (by decide +kernel) rfl rfl (Nat.le_of_ble_eq_true rfl) ?_
  refine at_iconst 0 dX4_inAll_0 ic_0 ?_
  refine at_istore_n [(0, .ref (b + 17)), (1, .int 0)] dX4_inAll_1 (Nat.le_of_ble_eq_true rfl) rfl ?_
  refine at_iconst 0 dX4_inAll_2 ic_0 ?_
  refine at_istore_n [(0, .ref (b + 17)), (1, .int 0), (2, .int 0)] dX4_inAll_3 (Nat.le_of_ble_eq_true rfl) rfl ?_
  exact t_X4_inAll_4 hK N _ N _ _ h
set_option maxRecDepth 100000 in
theorem t_X11_needed {D : va_G} {b : Nat} {K : State → Heap → Prop} {sa : Nat → Nat} (hK : sx_Kk b K sa) {N : Nat} {uG uN uD uR uF uP uT uA uM uH xA xB xC xD xE xF xG xH xI xJ xK xL uO : sx_C} {G : sx_H} {uL : sx_C} {res : Int32 × sx_C} (h : f_X11_needed N uG uN uL = some res) : sx_Runs D b K yX11_needed YX11_needed (sx_rm 45) [.ref (b + 0)] (sx_hp b uG uN uD uR uF uP uL uT uA uM uH xA xB xC xD xE xF xG xH xI xJ xK xL uO G) (sx_Ex (some (.int res.1)) (sx_hp b uG uN uD uR uF uP (res.2) uT uA uM uH xA xB xC xD xE xF xG xH xI xJ xK xL uO G)) := by
  rw [f_X11_needed] at h
  refine sx_run (by decide +kernel) rfl rfl (Nat.le_of_ble_eq_true rfl) ?_
  refine at_aload_n 0 dX11_needed_0 rfl ?_
  refine at_getf cl_X11 (by decide) fl_X11_60 hg_0 rfl dX11_needed_1 ?_
  refine at_aload_n 0 dX11_needed_4 rfl ?_
  refine at_getf cl_X11 (by decide) fl_X11_91 hg_0 rfl dX11_needed_5 ?_
  refine at_aload_n 0 dX11_needed_8 rfl ?_
  refine at_getf cl_X11 (by decide) fl_X11_94 hg_0 rfl dX11_needed_9 ?_
  obtain ⟨q1, hq1, h⟩ := sp_bind h
  refine at_callVv (st := []) hK mt_X4_lookAt ml_X11_242 cl_X4 hg_17 (t_X4_lookAt hK hq1) rfl rfl (Nat.le_of_ble_eq_true rfl) ⟨Nat.le_of_ble_eq_true rfl, Nat.le_of_ble_eq_true rfl⟩ ⟨Nat.le_refl _, Nat.le_refl _⟩ dX11_needed_12 ?_
  refine at_aload_n 0 dX11_needed_15 rfl ?_
  refine at_getf cl_X11 (by decide) fl_X11_60 hg_0 rfl dX11_needed_16 ?_
  obtain ⟨q2, hq2, h⟩ := sp_bind h
  refine at_callVi (st := []) hK mt_X4_inAll ml_X11_282 cl_X4 hg_17 (t_X4_inAll hK hq2) rfl rfl (Nat.le_of_ble_eq_true rfl) ⟨Nat.le_of_ble_eq_true rfl, Nat.le_of_ble_eq_true rfl⟩ ⟨Nat.le_refl _, Nat.le_refl _⟩ dX11_needed_19 ?_
  cases h; exact at_iret rfl (Nat.le_refl _) (Nat.le_refl _) ⟨rfl, rfl⟩ dX11_needed_22
set_option maxRecDepth 100000 in
theorem t_X11_walls {D : va_G} {b : Nat} {K : State → Heap → Prop} {sa : Nat → Nat} (hK : sx_Kk b K sa) {N : Nat} {uG uN uD uR uF uP uT uA uM uH xA xB xC xD xE xF xG xH xI xJ xK xL uO : sx_C} {G : sx_H} {v1 : Int32} {uL : sx_C} {res : Int32 × sx_C} (h : f_X11_walls N uG uN v1 uL = some res) : sx_Runs D b K yX11_walls YX11_walls (sx_rm 46) [.ref (b + 0), .int v1] (sx_hp b uG uN uD uR uF uP uL uT uA uM uH xA xB xC xD xE xF xG xH xI xJ xK xL uO G) (sx_Ex (some (.int res.1)) (sx_hp b uG uN uD uR uF uP (res.2) uT uA uM uH xA xB xC xD xE xF xG xH xI xJ xK xL uO G)) := by
  rw [f_X11_walls] at h
  refine sx_run (by decide +kernel) rfl rfl (Nat.le_of_ble_eq_true rfl) ?_
  refine at_aload_n 0 dX11_walls_0 rfl ?_
  refine at_iconst 1 dX11_walls_1 ic_1 ?_
  refine at_iload_n 1 dX11_walls_2 rfl ?_
  obtain ⟨q1, hq1, h⟩ := sp_bind h
  refine at_callVi (st := []) hK mt_X11_setsOf ml_X11_258 cl_X11 hg_0 (t_X11_setsOf hK hq1) rfl rfl (Nat.le_of_ble_eq_true rfl) ⟨Nat.le_of_ble_eq_true rfl, Nat.le_of_ble_eq_true rfl⟩ ⟨Nat.le_refl _, Nat.le_refl _⟩ dX11_walls_3 ?_
  cases h; exact at_iret rfl (Nat.le_refl _) (Nat.le_refl _) ⟨rfl, rfl⟩ dX11_walls_6
set_option maxRecDepth 100000 in
theorem t_X11_set {D : va_G} {b : Nat} {K : State → Heap → Prop} {sa : Nat → Nat} (hK : sx_Kk b K sa) {N : Nat} {uG uN uD uR uL uT uA uM uH xA xB xC xD xE xF xG xH xI xJ xK xL uO : sx_C} {G : sx_H} {v1 : Int32} {uF : sx_C} {uP : sx_C} {res : Int32 × sx_C × sx_C} (h : f_X11_set N uG uN v1 uF uP = some res) : sx_Runs D b K yX11_set YX11_set (sx_rm 4) [.ref (b + 0), .int v1] (sx_hp b uG uN uD uR uF uP uL uT uA uM uH xA xB xC xD xE xF xG xH xI xJ xK xL uO G) (sx_Ex (some (.int res.1)) (sx_hp b uG uN uD uR (res.2.1) (res.2.2) uL uT uA uM uH xA xB xC xD xE xF xG xH xI xJ xK xL uO G)) := by
  rw [f_X11_set] at h
  refine sx_run (by decide +kernel) rfl rfl (Nat.le_of_ble_eq_true rfl) ?_
  refine at_iload_n 1 dX11_set_0 rfl ?_
  refine at_if_ge 8 dX11_set_1 (by decide) (fun c1 => ?_) (fun c1 => ?_)
  · rw [if_pos c1] at h
    refine at_aload_n 0 dX11_set_8 rfl ?_
    refine at_getf cl_X11 (by decide) fl_X11_51 hg_0 rfl dX11_set_9 ?_
    refine at_aload_n 0 dX11_set_12 rfl ?_
    refine at_getf cl_X11 (by decide) fl_X11_91 hg_0 rfl dX11_set_13 ?_
    refine at_aload_n 0 dX11_set_16 rfl ?_
    refine at_getf cl_X11 (by decide) fl_X11_94 hg_0 rfl dX11_set_17 ?_
    refine at_iload_n 1 dX11_set_20 rfl ?_
    obtain ⟨q2, hq2, h⟩ := sp_bind h
    refine at_callVi (st := []) hK mt_X7_nthSet ml_X11_285 cl_X7 hg_16 (t_X7_nthSet hK hq2) rfl rfl (Nat.le_of_ble_eq_true rfl) ⟨Nat.le_of_ble_eq_true rfl, Nat.le_of_ble_eq_true rfl⟩ ⟨Nat.le_refl _, Nat.le_refl _⟩ dX11_set_21 ?_
    cases h; exact at_iret rfl (Nat.le_refl _) (Nat.le_refl _) ⟨rfl, rfl⟩ dX11_set_24
  · rw [if_neg c1] at h
    refine at_iconst (-1) dX11_set_4 ic_m1 ?_
    refine at_goto 24 dX11_set_5 (by decide) ?_
    cases h; exact at_iret rfl (Nat.le_refl _) (Nat.le_refl _) ⟨rfl, rfl⟩ dX11_set_24
set_option maxRecDepth 100000 in
theorem t_X4_areAlike_62 {D : va_G} {b : Nat} {K : State → Heap → Prop} {sa : Nat → Nat} (hK : sx_Kk b K sa) (N : Nat) {k26 : Int32 → Int32 → Int32 → Int32 → Option (Bool)} {uG uN uD uR uF uP uL uT uA uM uH xA xB xC xD xE xF xG xH xI xJ xK xL uO : sx_C} {G : sx_H} (res : Bool) (hk26 : ∀ (v3 : Int32) (v4 : Int32) (v5 : Int32) (v6 : Int32), k26 v3 v4 v5 v6 = some res → sx_At D b K YX4_areAlike (sx_rm 2) (sx_Ex (some (.int (sp_b res))) (sx_hp b uG uN uD uR uF uP uL uT uA uM uH xA xB xC xD xE xF xG xH xI xJ xK xL uO G)) 26 [(0, .ref (b + 17)), (3, .int v3), (4, .int v4), (5, .int v5), (6, .int v6)] [] (sx_hp b uG uN uD uR uF uP uL uT uA uM uH xA xB xC xD xE xF xG xH xI xJ xK xL uO G) 0 0) : ∀ (v3 : Int32) (v4 : Int32) (v5 : Int32) (v6 : Int32), f_X4_areAlike_62 N k26 uL v3 v4 v5 v6 = some res → sx_At D b K YX4_areAlike (sx_rm 2) (sx_Ex (some (.int (sp_b res))) (sx_hp b uG uN uD uR uF uP uL uT uA uM uH xA xB xC xD xE xF xG xH xI xJ xK xL uO G)) 62 [(0, .ref (b + 17)), (3, .int v3), (4, .int v4), (5, .int v5), (6, .int v6)] [] (sx_hp b uG uN uD uR uF uP uL uT uA uM uH xA xB xC xD xE xF xG xH xI xJ xK xL uO G) 0 0 := by
  intro v3 v4 v5 v6 h
  rw [f_X4_areAlike_62] at h
  refine at_iinc 4 1 [(0, .ref (b + 17)), (3, .int v3), (4, .int v4), (5, .int v5), (6, .int (v6 + 1))] dX4_areAlike_62 rfl ic_1 (Nat.le_of_ble_eq_true rfl) rfl ?_
  refine at_goto 26 dX4_areAlike_65 (by decide) ?_
  exact hk26 _ _ _ _ h
set_option maxRecDepth 100000 in
theorem t_X4_areAlike_26 {D : va_G} {b : Nat} {K : State → Heap → Prop} {sa : Nat → Nat} (hK : sx_Kk b K sa) (N : Nat) {uG uN uD uR uF uP uL uT uA uM uH xA xB xC xD xE xF xG xH xI xJ xK xL uO : sx_C} {G : sx_H} (res : Bool) : ∀ (n0 : Nat) (v3 : Int32) (v4 : Int32) (v5 : Int32) (v6 : Int32), f_X4_areAlike_26 N uL n0 v3 v4 v5 v6 = some res → sx_At D b K YX4_areAlike (sx_rm 2) (sx_Ex (some (.int (sp_b res))) (sx_hp b uG uN uD uR uF uP uL uT uA uM uH xA xB xC xD xE xF xG xH xI xJ xK xL uO G)) 26 [(0, .ref (b + 17)), (3, .int v3), (4, .int v4), (5, .int v5), (6, .int v6)] [] (sx_hp b uG uN uD uR uF uP uL uT uA uM uH xA xB xC xD xE xF xG xH xI xJ xK xL uO G) 0 0 := by
  intro n0
  induction n0 with
  | zero => intro _ _ _ _ h; cases h
  | succ n0 ih =>
    intro v3 v4 v5 v6 h
    rw [f_X4_areAlike_26] at h
    refine at_iload 4 dX4_areAlike_26 rfl ?_
    refine at_iload 3 dX4_areAlike_28 rfl ?_
    refine at_icmp_ge 68 dX4_areAlike_30 (by decide) (fun c1 => ?_) (fun c1 => ?_)
    · rw [if_pos c1] at h
      refine at_iconst 1 dX4_areAlike_68 ic_1 ?_
      cases h; exact at_zret rfl rfl (Nat.le_refl _) (Nat.le_refl _) ⟨rfl, rfl⟩ dX4_areAlike_69
    · rw [if_neg c1] at h
      refine at_iload 4 dX4_areAlike_33 rfl ?_
      refine at_iload 2 dX4_areAlike_35 rfl ?_
      refine at_iand dX4_areAlike_37 ?_
      refine at_iload_n 1 dX4_areAlike_38 rfl ?_
      refine at_icmp_ne 62 dX4_areAlike_39 (by decide) (fun c2 => ?_) (fun c2 => ?_)
      · rw [if_neg c2] at h
        exact t_X4_areAlike_62 hK N _ ih _ _ _ _ h
      · rw [if_pos c2] at h
        refine at_aload_n 0 dX4_areAlike_42 rfl ?_
        refine at_iload 4 dX4_areAlike_43 rfl ?_
        obtain ⟨q3, hq3, h⟩ := sp_bind h
        refine at_callVi (st := []) hK mt_X4_isLucky ml_X4_100 cl_X4 hg_17 (t_X4_isLucky hK hq3) rfl rfl (Nat.le_of_ble_eq_true rfl) ⟨Nat.le_of_ble_eq_true rfl, Nat.le_of_ble_eq_true rfl⟩ ⟨Nat.le_refl _, Nat.le_refl _⟩ dX4_areAlike_45 ?_
        refine at_aload_n 0 dX4_areAlike_48 rfl ?_
        refine at_iload 4 dX4_areAlike_49 rfl ?_
        refine at_iload 2 dX4_areAlike_51 rfl ?_
        refine at_ixor dX4_areAlike_53 ?_
        obtain ⟨q4, hq4, h⟩ := sp_bind h
        refine at_callVi (st := [.int (sp_b q3)]) hK mt_X4_isLucky ml_X4_100 cl_X4 hg_17 (t_X4_isLucky hK hq4) rfl rfl (Nat.le_of_ble_eq_true rfl) ⟨Nat.le_of_ble_eq_true rfl, Nat.le_of_ble_eq_true rfl⟩ ⟨Nat.le_refl _, Nat.le_refl _⟩ dX4_areAlike_54 ?_
        refine at_icmp_eq 62 dX4_areAlike_57 (by decide) (fun c5 => ?_) (fun c5 => ?_)
        · rw [if_pos c5] at h
          exact t_X4_areAlike_62 hK N _ ih _ _ _ _ h
        · rw [if_neg c5] at h
          refine at_iconst 0 dX4_areAlike_60 ic_0 ?_
          cases h; exact at_zret rfl rfl (Nat.le_refl _) (Nat.le_refl _) ⟨rfl, rfl⟩ dX4_areAlike_61
set_option maxRecDepth 100000 in
theorem t_X4_areAlike {D : va_G} {b : Nat} {K : State → Heap → Prop} {sa : Nat → Nat} (hK : sx_Kk b K sa) {N : Nat} {uG uN uD uR uF uP uL uT uA uM uH xA xB xC xD xE xF xG xH xI xJ xK xL uO : sx_C} {G : sx_H} {v1 : Int32} {v2 : Int32} {res : Bool} (h : f_X4_areAlike N uL v1 v2 = some res) : sx_Runs D b K yX4_areAlike YX4_areAlike (sx_rm 2) [.ref (b + 17), .int v1, .int v2] (sx_hp b uG uN uD uR uF uP uL uT uA uM uH xA xB xC xD xE xF xG xH xI xJ xK xL uO G) (sx_Ex (some (.int (sp_b res))) (sx_hp b uG uN uD uR uF uP uL uT uA uM uH xA xB xC xD xE xF xG xH xI xJ xK xL uO G)) := by
  rw [f_X4_areAlike] at h
  refine sx_run (by decide +kernel) rfl rfl (Nat.le_of_ble_eq_true rfl) ?_
  refine at_aload_n 0 dX4_areAlike_0 rfl ?_
  refine at_iload_n 1 dX4_areAlike_1 rfl ?_
  obtain ⟨q6, hq6, h⟩ := sp_bind h
  refine at_callVi (st := []) hK mt_X4_bitOf ml_X4_127 cl_X4 hg_17 (t_X4_bitOf hK hq6) rfl rfl (Nat.le_of_ble_eq_true rfl) ⟨Nat.le_of_ble_eq_true rfl, Nat.le_of_ble_eq_true rfl⟩ ⟨Nat.le_refl _, Nat.le_refl _⟩ dX4_areAlike_2 ?_
  refine at_istore_n [(0, .ref (b + 17)), (1, .int v1), (2, .int v2), (3, .int q6)] dX4_areAlike_5 (Nat.le_of_ble_eq_true rfl) rfl ?_
  refine at_iload_n 3 dX4_areAlike_6 rfl ?_
  refine at_aload_n 0 dX4_areAlike_7 rfl ?_
  refine at_iload_n 2 dX4_areAlike_8 rfl ?_
  obtain ⟨q7, hq7, h⟩ := sp_bind h
  refine at_callVi (st := [.int q6]) hK mt_X4_bitOf ml_X4_127 cl_X4 hg_17 (t_X4_bitOf hK hq7) rfl rfl (Nat.le_of_ble_eq_true rfl) ⟨Nat.le_of_ble_eq_true rfl, Nat.le_of_ble_eq_true rfl⟩ ⟨Nat.le_refl _, Nat.le_refl _⟩ dX4_areAlike_9 ?_
  refine at_ior dX4_areAlike_12 ?_
  refine at_istore [(0, .ref (b + 17)), (1, .int v1), (2, .int v2), (3, .int q6), (4, .int (q6 ||| q7))] dX4_areAlike_13 (Nat.le_of_ble_eq_true rfl) rfl ?_
  refine at_iconst 1 dX4_areAlike_15 ic_1 ?_
  refine at_aload_n 0 dX4_areAlike_16 rfl ?_
  refine at_getf cl_X4 (by decide) fl_X4_35 hg_17 rfl dX4_areAlike_17 ?_
  refine at_ishl dX4_areAlike_20 ?_
  refine at_istore [(0, .ref (b + 17)), (1, .int v1), (2, .int v2), (3, .int q6), (4, .int (q6 ||| q7)), (5, .int (sp_shl 1 (gi uL 8)))] dX4_areAlike_21 (Nat.le_of_ble_eq_true rfl) rfl ?_
  refine at_iconst 0 dX4_areAlike_23 ic_0 ?_
  refine at_istore [(0, .ref (b + 17)), (1, .int v1), (2, .int v2), (3, .int q6), (4, .int (q6 ||| q7)), (5, .int (sp_shl 1 (gi uL 8))), (6, .int 0)] dX4_areAlike_24 (Nat.le_of_ble_eq_true rfl) rfl ?_
  refine at_sub [0, 3, 4, 5, 6] [(0, .ref (b + 17)), (3, .int q6), (4, .int (q6 ||| q7)), (5, .int (sp_shl 1 (gi uL 8))), (6, .int 0)] rfl ?_
  exact t_X4_areAlike_26 hK N _ N _ _ _ _ h
set_option maxRecDepth 100000 in
theorem t_X11_alike {D : va_G} {b : Nat} {K : State → Heap → Prop} {sa : Nat → Nat} (hK : sx_Kk b K sa) {N : Nat} {uG uN uD uR uF uP uT uA uM uH xA xB xC xD xE xF xG xH xI xJ xK xL uO : sx_C} {G : sx_H} {v1 : Int32} {v2 : Int32} {uL : sx_C} {res : Int32 × sx_C} (h : f_X11_alike N uG uN v1 v2 uL = some res) : sx_Runs D b K yX11_alike YX11_alike (sx_rm 45) [.ref (b + 0), .int v1, .int v2] (sx_hp b uG uN uD uR uF uP uL uT uA uM uH xA xB xC xD xE xF xG xH xI xJ xK xL uO G) (sx_Ex (some (.int res.1)) (sx_hp b uG uN uD uR uF uP (res.2) uT uA uM uH xA xB xC xD xE xF xG xH xI xJ xK xL uO G)) := by
  rw [f_X11_alike] at h
  refine sx_run (by decide +kernel) rfl rfl (Nat.le_of_ble_eq_true rfl) ?_
  refine at_aload_n 0 dX11_alike_0 rfl ?_
  refine at_getf cl_X11 (by decide) fl_X11_16 hg_0 rfl dX11_alike_1 ?_
  refine at_iload_n 1 dX11_alike_4 rfl ?_
  obtain ⟨q1, hq1, h⟩ := sp_bind h
  refine at_callVi (st := []) hK mt_X6_isLine ml_X11_122 cl_X6 hg_2 (t_X6_isLine hK hq1) rfl rfl (Nat.le_of_ble_eq_true rfl) ⟨Nat.le_of_ble_eq_true rfl, Nat.le_of_ble_eq_true rfl⟩ ⟨Nat.le_refl _, Nat.le_refl _⟩ dX11_alike_5 ?_
  refine at_zeq 22 dX11_alike_8 (by decide) (fun c2 => ?_) (fun c2 => ?_)
  · rw [if_neg c2] at h
    refine at_iconst (-1) dX11_alike_22 ic_m1 ?_
    cases h; exact at_iret rfl (Nat.le_refl _) (Nat.le_refl _) ⟨rfl, rfl⟩ dX11_alike_23
  · rw [if_pos c2] at h
    refine at_aload_n 0 dX11_alike_11 rfl ?_
    refine at_getf cl_X11 (by decide) fl_X11_16 hg_0 rfl dX11_alike_12 ?_
    refine at_iload_n 2 dX11_alike_15 rfl ?_
    obtain ⟨q3, hq3, h⟩ := sp_bind h
    refine at_callVi (st := []) hK mt_X6_isLine ml_X11_122 cl_X6 hg_2 (t_X6_isLine hK hq3) rfl rfl (Nat.le_of_ble_eq_true rfl) ⟨Nat.le_of_ble_eq_true rfl, Nat.le_of_ble_eq_true rfl⟩ ⟨Nat.le_refl _, Nat.le_refl _⟩ dX11_alike_16 ?_
    refine at_zne 24 dX11_alike_19 (by decide) (fun c4 => ?_) (fun c4 => ?_)
    · rw [if_pos c4] at h
      refine at_aload_n 0 dX11_alike_24 rfl ?_
      refine at_iload_n 1 dX11_alike_25 rfl ?_
      obtain ⟨q5, hq5, h⟩ := sp_bind h
      refine at_callVi (st := []) hK mt_X11_isOpen ml_X11_171 cl_X11 hg_0 (t_X11_isOpen hK hq5) rfl rfl (Nat.le_of_ble_eq_true rfl) ⟨Nat.le_of_ble_eq_true rfl, Nat.le_of_ble_eq_true rfl⟩ ⟨Nat.le_refl _, Nat.le_refl _⟩ dX11_alike_26 ?_
      refine at_zeq 40 dX11_alike_29 (by decide) (fun c6 => ?_) (fun c6 => ?_)
      · rw [if_neg c6] at h
        refine at_bipush (-2) dX11_alike_40 bp_m2 ?_
        cases h; exact at_iret rfl (Nat.le_refl _) (Nat.le_refl _) ⟨rfl, rfl⟩ dX11_alike_42
      · rw [if_pos c6] at h
        refine at_aload_n 0 dX11_alike_32 rfl ?_
        refine at_iload_n 2 dX11_alike_33 rfl ?_
        obtain ⟨q7, hq7, h⟩ := sp_bind h
        refine at_callVi (st := []) hK mt_X11_isOpen ml_X11_171 cl_X11 hg_0 (t_X11_isOpen hK hq7) rfl rfl (Nat.le_of_ble_eq_true rfl) ⟨Nat.le_of_ble_eq_true rfl, Nat.le_of_ble_eq_true rfl⟩ ⟨Nat.le_refl _, Nat.le_refl _⟩ dX11_alike_34 ?_
        refine at_zne 43 dX11_alike_37 (by decide) (fun c8 => ?_) (fun c8 => ?_)
        · rw [if_pos c8] at h
          refine at_aload_n 0 dX11_alike_43 rfl ?_
          refine at_getf cl_X11 (by decide) fl_X11_60 hg_0 rfl dX11_alike_44 ?_
          refine at_aload_n 0 dX11_alike_47 rfl ?_
          refine at_getf cl_X11 (by decide) fl_X11_91 hg_0 rfl dX11_alike_48 ?_
          refine at_aload_n 0 dX11_alike_51 rfl ?_
          refine at_getf cl_X11 (by decide) fl_X11_94 hg_0 rfl dX11_alike_52 ?_
          obtain ⟨q9, hq9, h⟩ := sp_bind h
          refine at_callVv (st := []) hK mt_X4_lookAt ml_X11_242 cl_X4 hg_17 (t_X4_lookAt hK hq9) rfl rfl (Nat.le_of_ble_eq_true rfl) ⟨Nat.le_of_ble_eq_true rfl, Nat.le_of_ble_eq_true rfl⟩ ⟨Nat.le_refl _, Nat.le_refl _⟩ dX11_alike_55 ?_
          refine at_iload_n 1 dX11_alike_58 rfl ?_
          refine at_iload_n 2 dX11_alike_59 rfl ?_
          refine at_icmp_eq 75 dX11_alike_60 (by decide) (fun c10 => ?_) (fun c10 => ?_)
          · rw [if_pos c10] at h
            refine at_iconst 1 dX11_alike_75 ic_1 ?_
            refine at_goto 80 dX11_alike_76 (by decide) ?_
            cases h; exact at_iret rfl (Nat.le_refl _) (Nat.le_refl _) ⟨rfl, rfl⟩ dX11_alike_80
          · rw [if_neg c10] at h
            refine at_aload_n 0 dX11_alike_63 rfl ?_
            refine at_getf cl_X11 (by decide) fl_X11_60 hg_0 rfl dX11_alike_64 ?_
            refine at_iload_n 1 dX11_alike_67 rfl ?_
            refine at_iload_n 2 dX11_alike_68 rfl ?_
            obtain ⟨q11, hq11, h⟩ := sp_bind h
            refine at_callVi (st := []) hK mt_X4_areAlike ml_X11_288 cl_X4 hg_17 (t_X4_areAlike hK hq11) rfl rfl (Nat.le_of_ble_eq_true rfl) ⟨Nat.le_of_ble_eq_true rfl, Nat.le_of_ble_eq_true rfl⟩ ⟨Nat.le_refl _, Nat.le_refl _⟩ dX11_alike_69 ?_
            refine at_zeq 79 dX11_alike_72 (by decide) (fun c12 => ?_) (fun c12 => ?_)
            · rw [if_neg c12] at h
              refine at_iconst 0 dX11_alike_79 ic_0 ?_
              cases h; exact at_iret rfl (Nat.le_refl _) (Nat.le_refl _) ⟨rfl, rfl⟩ dX11_alike_80
            · rw [if_pos c12] at h
              refine at_iconst 1 dX11_alike_75 ic_1 ?_
              refine at_goto 80 dX11_alike_76 (by decide) ?_
              cases h; exact at_iret rfl (Nat.le_refl _) (Nat.le_refl _) ⟨rfl, rfl⟩ dX11_alike_80
        · rw [if_neg c8] at h
          refine at_bipush (-2) dX11_alike_40 bp_m2 ?_
          cases h; exact at_iret rfl (Nat.le_refl _) (Nat.le_refl _) ⟨rfl, rfl⟩ dX11_alike_42
    · rw [if_neg c4] at h
      refine at_iconst (-1) dX11_alike_22 ic_m1 ?_
      cases h; exact at_iret rfl (Nat.le_refl _) (Nat.le_refl _) ⟨rfl, rfl⟩ dX11_alike_23
set_option maxRecDepth 100000 in
theorem t_X4_aheadOf_68 {D : va_G} {b : Nat} {K : State → Heap → Prop} {sa : Nat → Nat} (hK : sx_Kk b K sa) (N : Nat) {k16 : Int32 → Int32 → Int32 → Option (Int32)} {uG uN uD uR uF uP uL uT uA uM uH xA xB xC xD xE xF xG xH xI xJ xK xL uO : sx_C} {G : sx_H} (res : Int32) (hk16 : ∀ (v1 : Int32) (v2 : Int32) (v3 : Int32), k16 v1 v2 v3 = some res → sx_At D b K YX4_aheadOf (sx_rm 0) (sx_Ex (some (.int res)) (sx_hp b uG uN uD uR uF uP uL uT uA uM uH xA xB xC xD xE xF xG xH xI xJ xK xL uO G)) 16 [(0, .ref (b + 17)), (1, .int v1), (2, .int v2), (3, .int v3)] [] (sx_hp b uG uN uD uR uF uP uL uT uA uM uH xA xB xC xD xE xF xG xH xI xJ xK xL uO G) 0 0) : ∀ (v1 : Int32) (v2 : Int32) (v3 : Int32), f_X4_aheadOf_68 N k16 uL v1 v2 v3 = some res → sx_At D b K YX4_aheadOf (sx_rm 0) (sx_Ex (some (.int res)) (sx_hp b uG uN uD uR uF uP uL uT uA uM uH xA xB xC xD xE xF xG xH xI xJ xK xL uO G)) 68 [(0, .ref (b + 17)), (1, .int v1), (2, .int v2), (3, .int v3)] [] (sx_hp b uG uN uD uR uF uP uL uT uA uM uH xA xB xC xD xE xF xG xH xI xJ xK xL uO G) 0 0 := by
  intro v1 v2 v3 h
  rw [f_X4_aheadOf_68] at h
  refine at_iinc 3 1 [(0, .ref (b + 17)), (1, .int v1), (2, .int v2), (3, .int (v3 + 1))] dX4_aheadOf_68 rfl ic_1 (Nat.le_of_ble_eq_true rfl) rfl ?_
  refine at_goto 16 dX4_aheadOf_71 (by decide) ?_
  exact hk16 _ _ _ h
set_option maxRecDepth 100000 in
theorem t_X4_aheadOf_65 {D : va_G} {b : Nat} {K : State → Heap → Prop} {sa : Nat → Nat} (hK : sx_Kk b K sa) (N : Nat) {k16 : Int32 → Int32 → Int32 → Option (Int32)} {uG uN uD uR uF uP uL uT uA uM uH xA xB xC xD xE xF xG xH xI xJ xK xL uO : sx_C} {G : sx_H} (res : Int32) (hk16 : ∀ (v1 : Int32) (v2 : Int32) (v3 : Int32), k16 v1 v2 v3 = some res → sx_At D b K YX4_aheadOf (sx_rm 0) (sx_Ex (some (.int res)) (sx_hp b uG uN uD uR uF uP uL uT uA uM uH xA xB xC xD xE xF xG xH xI xJ xK xL uO G)) 16 [(0, .ref (b + 17)), (1, .int v1), (2, .int v2), (3, .int v3)] [] (sx_hp b uG uN uD uR uF uP uL uT uA uM uH xA xB xC xD xE xF xG xH xI xJ xK xL uO G) 0 0) : ∀ (v1 : Int32) (v2 : Int32) (v3 : Int32), f_X4_aheadOf_65 N k16 uL v1 v2 v3 = some res → sx_At D b K YX4_aheadOf (sx_rm 0) (sx_Ex (some (.int res)) (sx_hp b uG uN uD uR uF uP uL uT uA uM uH xA xB xC xD xE xF xG xH xI xJ xK xL uO G)) 65 [(0, .ref (b + 17)), (1, .int v1), (2, .int v2), (3, .int v3)] [] (sx_hp b uG uN uD uR uF uP uL uT uA uM uH xA xB xC xD xE xF xG xH xI xJ xK xL uO G) 0 0 := by
  intro v1 v2 v3 h
  rw [f_X4_aheadOf_65] at h
  refine at_iinc 2 1 [(0, .ref (b + 17)), (1, .int v1), (2, .int (v2 + 1)), (3, .int v3)] dX4_aheadOf_65 rfl ic_1 (Nat.le_of_ble_eq_true rfl) rfl ?_
  exact t_X4_aheadOf_68 hK N _ hk16 _ _ _ h
set_option maxRecDepth 100000 in
theorem t_X4_aheadOf_16 {D : va_G} {b : Nat} {K : State → Heap → Prop} {sa : Nat → Nat} (hK : sx_Kk b K sa) (N : Nat) {uG uN uD uR uF uP uL uT uA uM uH xA xB xC xD xE xF xG xH xI xJ xK xL uO : sx_C} {G : sx_H} (res : Int32) : ∀ (n0 : Nat) (v1 : Int32) (v2 : Int32) (v3 : Int32), f_X4_aheadOf_16 N uL n0 v1 v2 v3 = some res → sx_At D b K YX4_aheadOf (sx_rm 0) (sx_Ex (some (.int res)) (sx_hp b uG uN uD uR uF uP uL uT uA uM uH xA xB xC xD xE xF xG xH xI xJ xK xL uO G)) 16 [(0, .ref (b + 17)), (1, .int v1), (2, .int v2), (3, .int v3)] [] (sx_hp b uG uN uD uR uF uP uL uT uA uM uH xA xB xC xD xE xF xG xH xI xJ xK xL uO G) 0 0 := by
  intro n0
  induction n0 with
  | zero => intro _ _ _ h; cases h
  | succ n0 ih =>
    intro v1 v2 v3 h
    rw [f_X4_aheadOf_16] at h
    refine at_iload_n 3 dX4_aheadOf_16 rfl ?_
    refine at_aload_n 0 dX4_aheadOf_17 rfl ?_
    refine at_getf cl_X4 (by decide) fl_X4_35 hg_17 rfl dX4_aheadOf_18 ?_
    refine at_icmp_ge 74 dX4_aheadOf_21 (by decide) (fun c1 => ?_) (fun c1 => ?_)
    · rw [if_pos c1] at h
      refine at_iload_n 2 dX4_aheadOf_74 rfl ?_
      cases h; exact at_iret rfl (Nat.le_refl _) (Nat.le_refl _) ⟨rfl, rfl⟩ dX4_aheadOf_75
    · rw [if_neg c1] at h
      refine at_iload_n 3 dX4_aheadOf_24 rfl ?_
      refine at_bipush 14 dX4_aheadOf_25 bp_14 ?_
      refine at_icmp_ge 74 dX4_aheadOf_27 (by decide) (fun c2 => ?_) (fun c2 => ?_)
      · rw [if_pos c2] at h
        refine at_iload_n 2 dX4_aheadOf_74 rfl ?_
        cases h; exact at_iret rfl (Nat.le_refl _) (Nat.le_refl _) ⟨rfl, rfl⟩ dX4_aheadOf_75
      · rw [if_neg c2] at h
        refine at_aload_n 0 dX4_aheadOf_30 rfl ?_
        refine at_getf cl_X4 (by decide) fl_X4_21 hg_17 rfl dX4_aheadOf_31 ?_
        refine at_iload_n 3 dX4_aheadOf_34 rfl ?_
        obtain ⟨w3, hw3, h⟩ := sp_bind h
        refine at_iald hg_21 hw3 dX4_aheadOf_35 ?_
        refine at_aload_n 0 dX4_aheadOf_36 rfl ?_
        refine at_getf cl_X4 (by decide) fl_X4_21 hg_17 rfl dX4_aheadOf_37 ?_
        refine at_iload_n 1 dX4_aheadOf_40 rfl ?_
        obtain ⟨w4, hw4, h⟩ := sp_bind h
        refine at_iald hg_21 hw4 dX4_aheadOf_41 ?_
        refine at_icmp_gt 65 dX4_aheadOf_42 (by decide) (fun c5 => ?_) (fun c5 => ?_)
        · rw [if_pos c5] at h
          exact t_X4_aheadOf_65 hK N _ ih _ _ _ h
        · rw [if_neg c5] at h
          refine at_aload_n 0 dX4_aheadOf_45 rfl ?_
          refine at_getf cl_X4 (by decide) fl_X4_21 hg_17 rfl dX4_aheadOf_46 ?_
          refine at_iload_n 3 dX4_aheadOf_49 rfl ?_
          obtain ⟨w6, hw6, h⟩ := sp_bind h
          refine at_iald hg_21 hw6 dX4_aheadOf_50 ?_
          refine at_aload_n 0 dX4_aheadOf_51 rfl ?_
          refine at_getf cl_X4 (by decide) fl_X4_21 hg_17 rfl dX4_aheadOf_52 ?_
          refine at_iload_n 1 dX4_aheadOf_55 rfl ?_
          obtain ⟨w7, hw7, h⟩ := sp_bind h
          refine at_iald hg_21 hw7 dX4_aheadOf_56 ?_
          refine at_icmp_ne 68 dX4_aheadOf_57 (by decide) (fun c8 => ?_) (fun c8 => ?_)
          · rw [if_neg c8] at h
            exact t_X4_aheadOf_68 hK N _ ih _ _ _ h
          · rw [if_pos c8] at h
            refine at_iload_n 3 dX4_aheadOf_60 rfl ?_
            refine at_iload_n 1 dX4_aheadOf_61 rfl ?_
            refine at_icmp_ge 68 dX4_aheadOf_62 (by decide) (fun c9 => ?_) (fun c9 => ?_)
            · rw [if_pos c9] at h
              exact t_X4_aheadOf_68 hK N _ ih _ _ _ h
            · rw [if_neg c9] at h
              exact t_X4_aheadOf_65 hK N _ ih _ _ _ h
set_option maxRecDepth 100000 in
theorem t_X4_aheadOf {D : va_G} {b : Nat} {K : State → Heap → Prop} {sa : Nat → Nat} (hK : sx_Kk b K sa) {N : Nat} {uG uN uD uR uF uP uL uT uA uM uH xA xB xC xD xE xF xG xH xI xJ xK xL uO : sx_C} {G : sx_H} {v1 : Int32} {res : Int32} (h : f_X4_aheadOf N uL v1 = some res) : sx_Runs D b K yX4_aheadOf YX4_aheadOf (sx_rm 0) [.ref (b + 17), .int v1] (sx_hp b uG uN uD uR uF uP uL uT uA uM uH xA xB xC xD xE xF xG xH xI xJ xK xL uO G) (sx_Ex (some (.int res)) (sx_hp b uG uN uD uR uF uP uL uT uA uM uH xA xB xC xD xE xF xG xH xI xJ xK xL uO G)) := by
  rw [f_X4_aheadOf] at h
  refine sx_run (by decide +kernel) rfl rfl (Nat.le_of_ble_eq_true rfl) ?_
  refine at_iload_n 1 dX4_aheadOf_0 rfl ?_
  refine at_if_lt 10 dX4_aheadOf_1 (by decide) (fun c10 => ?_) (fun c10 => ?_)
  · rw [if_pos c10] at h
    refine at_iconst (-1) dX4_aheadOf_10 ic_m1 ?_
    cases h; exact at_iret rfl (Nat.le_refl _) (Nat.le_refl _) ⟨rfl, rfl⟩ dX4_aheadOf_11
  · rw [if_neg c10] at h
    refine at_iload_n 1 dX4_aheadOf_4 rfl ?_
    refine at_bipush 14 dX4_aheadOf_5 bp_14 ?_
    refine at_icmp_lt 12 dX4_aheadOf_7 (by decide) (fun c11 => ?_) (fun c11 => ?_)
    · rw [if_pos c11] at h
      refine at_iconst 0 dX4_aheadOf_12 ic_0 ?_
      refine at_istore_n [(0, .ref (b + 17)), (1, .int v1), (2, .int 0)] dX4_aheadOf_13 (Nat.le_of_ble_eq_true rfl) rfl ?_
      refine at_iconst 0 dX4_aheadOf_14 ic_0 ?_
      refine at_istore_n [(0, .ref (b + 17)), (1, .int v1), (2, .int 0), (3, .int 0)] dX4_aheadOf_15 (Nat.le_of_ble_eq_true rfl) rfl ?_
      exact t_X4_aheadOf_16 hK N _ N _ _ _ h
    · rw [if_neg c11] at h
      refine at_iconst (-1) dX4_aheadOf_10 ic_m1 ?_
      cases h; exact at_iret rfl (Nat.le_refl _) (Nat.le_refl _) ⟨rfl, rfl⟩ dX4_aheadOf_11
set_option maxRecDepth 100000 in
theorem t_X4_strongest_40 {D : va_G} {b : Nat} {K : State → Heap → Prop} {sa : Nat → Nat} (hK : sx_Kk b K sa) (N : Nat) {uG uN uD uR uF uP uT uA uM uH xA xB xC xD xE xF xG xH xI xJ xK xL uO : sx_C} {G : sx_H} (res : Int32 × sx_C) : ∀ (n0 : Nat) (v1 : Int32) (v2 : Int32) (uL : sx_C), f_X4_strongest_40 N n0 v1 v2 uL = some res → sx_At D b K YX4_strongest (sx_rm 4) (sx_Ex (some (.int res.1)) (sx_hp b uG uN uD uR uF uP (res.2) uT uA uM uH xA xB xC xD xE xF xG xH xI xJ xK xL uO G)) 40 [(0, .ref (b + 17)), (1, .int v1), (2, .int v2)] [] (sx_hp b uG uN uD uR uF uP uL uT uA uM uH xA xB xC xD xE xF xG xH xI xJ xK xL uO G) 0 0 := by
  intro n0
  induction n0 with
  | zero => intro _ _ _ h; cases h
  | succ n0 ih =>
    intro v1 v2 uL h
    rw [f_X4_strongest_40] at h
    refine at_iload_n 2 dX4_strongest_40 rfl ?_
    refine at_aload_n 0 dX4_strongest_41 rfl ?_
    refine at_getf cl_X4 (by decide) fl_X4_35 hg_17 rfl dX4_strongest_42 ?_
    refine at_icmp_ge 76 dX4_strongest_45 (by decide) (fun c6 => ?_) (fun c6 => ?_)
    · rw [if_pos c6] at h
      refine at_bipush (-2) dX4_strongest_76 bp_m2 ?_
      cases h; exact at_iret rfl (Nat.le_refl _) (Nat.le_refl _) ⟨rfl, rfl⟩ dX4_strongest_78
    · rw [if_neg c6] at h
      refine at_iload_n 2 dX4_strongest_48 rfl ?_
      refine at_bipush 14 dX4_strongest_49 bp_14 ?_
      refine at_icmp_ge 76 dX4_strongest_51 (by decide) (fun c7 => ?_) (fun c7 => ?_)
      · rw [if_pos c7] at h
        refine at_bipush (-2) dX4_strongest_76 bp_m2 ?_
        cases h; exact at_iret rfl (Nat.le_refl _) (Nat.le_refl _) ⟨rfl, rfl⟩ dX4_strongest_78
      · rw [if_neg c7] at h
        refine at_aload_n 0 dX4_strongest_54 rfl ?_
        refine at_iload_n 2 dX4_strongest_55 rfl ?_
        obtain ⟨q8, hq8, h⟩ := sp_bind h
        refine at_callVi (st := []) hK mt_X4_aheadOf ml_X4_147 cl_X4 hg_17 (t_X4_aheadOf hK hq8) rfl rfl (Nat.le_of_ble_eq_true rfl) ⟨Nat.le_of_ble_eq_true rfl, Nat.le_of_ble_eq_true rfl⟩ ⟨Nat.le_refl _, Nat.le_refl _⟩ dX4_strongest_56 ?_
        refine at_iload_n 1 dX4_strongest_59 rfl ?_
        refine at_icmp_ne 70 dX4_strongest_60 (by decide) (fun c9 => ?_) (fun c9 => ?_)
        · rw [if_neg c9] at h
          refine at_iinc 2 1 [(0, .ref (b + 17)), (1, .int v1), (2, .int (v2 + 1))] dX4_strongest_70 rfl ic_1 (Nat.le_of_ble_eq_true rfl) rfl ?_
          refine at_goto 40 dX4_strongest_73 (by decide) ?_
          exact ih _ _ _ h
        · rw [if_pos c9] at h
          refine at_aload_n 0 dX4_strongest_63 rfl ?_
          refine at_getf cl_X4 (by decide) fl_X4_18 hg_17 rfl dX4_strongest_64 ?_
          refine at_iload_n 2 dX4_strongest_67 rfl ?_
          obtain ⟨w10, hw10, h⟩ := sp_bind h
          refine at_iald hg_20 hw10 dX4_strongest_68 ?_
          cases h; exact at_iret rfl (Nat.le_refl _) (Nat.le_refl _) ⟨rfl, rfl⟩ dX4_strongest_69
set_option maxRecDepth 100000 in
theorem t_X4_strongest_38 {D : va_G} {b : Nat} {K : State → Heap → Prop} {sa : Nat → Nat} (hK : sx_Kk b K sa) (N : Nat) {uG uN uD uR uF uP uT uA uM uH xA xB xC xD xE xF xG xH xI xJ xK xL uO : sx_C} {G : sx_H} (res : Int32 × sx_C) : ∀ (v1 : Int32) (uL : sx_C), f_X4_strongest_38 N v1 uL = some res → sx_At D b K YX4_strongest (sx_rm 4) (sx_Ex (some (.int res.1)) (sx_hp b uG uN uD uR uF uP (res.2) uT uA uM uH xA xB xC xD xE xF xG xH xI xJ xK xL uO G)) 38 [(0, .ref (b + 17)), (1, .int v1)] [] (sx_hp b uG uN uD uR uF uP uL uT uA uM uH xA xB xC xD xE xF xG xH xI xJ xK xL uO G) 0 0 := by
  intro v1 uL h
  rw [f_X4_strongest_38] at h
  refine at_iconst 0 dX4_strongest_38 ic_0 ?_
  refine at_istore_n [(0, .ref (b + 17)), (1, .int v1), (2, .int 0)] dX4_strongest_39 (Nat.le_of_ble_eq_true rfl) rfl ?_
  exact t_X4_strongest_40 hK N _ N _ _ _ h
set_option maxRecDepth 100000 in
theorem t_X4_strongest_2 {D : va_G} {b : Nat} {K : State → Heap → Prop} {sa : Nat → Nat} (hK : sx_Kk b K sa) (N : Nat) {uG uN uD uR uF uP uT uA uM uH xA xB xC xD xE xF xG xH xI xJ xK xL uO : sx_C} {G : sx_H} (res : Int32 × sx_C) : ∀ (n0 : Nat) (v1 : Int32) (v2 : Int32) (uL : sx_C), f_X4_strongest_2 N n0 v1 v2 uL = some res → sx_At D b K YX4_strongest (sx_rm 4) (sx_Ex (some (.int res.1)) (sx_hp b uG uN uD uR uF uP (res.2) uT uA uM uH xA xB xC xD xE xF xG xH xI xJ xK xL uO G)) 2 [(0, .ref (b + 17)), (1, .int v1), (2, .int v2)] [] (sx_hp b uG uN uD uR uF uP uL uT uA uM uH xA xB xC xD xE xF xG xH xI xJ xK xL uO G) 0 0 := by
  intro n0
  induction n0 with
  | zero => intro _ _ _ h; cases h
  | succ n0 ih =>
    intro v1 v2 uL h
    rw [f_X4_strongest_2] at h
    refine at_iload_n 2 dX4_strongest_2 rfl ?_
    refine at_aload_n 0 dX4_strongest_3 rfl ?_
    refine at_getf cl_X4 (by decide) fl_X4_35 hg_17 rfl dX4_strongest_4 ?_
    refine at_icmp_ge 38 dX4_strongest_7 (by decide) (fun c1 => ?_) (fun c1 => ?_)
    · rw [if_pos c1] at h
      refine at_sub [0, 1] [(0, .ref (b + 17)), (1, .int v1)] rfl ?_
      exact t_X4_strongest_38 hK N _ _ _ h
    · rw [if_neg c1] at h
      refine at_iload_n 2 dX4_strongest_10 rfl ?_
      refine at_bipush 14 dX4_strongest_11 bp_14 ?_
      refine at_icmp_ge 38 dX4_strongest_13 (by decide) (fun c2 => ?_) (fun c2 => ?_)
      · rw [if_pos c2] at h
        refine at_sub [0, 1] [(0, .ref (b + 17)), (1, .int v1)] rfl ?_
        exact t_X4_strongest_38 hK N _ _ _ h
      · rw [if_neg c2] at h
        refine at_aload_n 0 dX4_strongest_16 rfl ?_
        refine at_getf cl_X4 (by decide) fl_X4_21 hg_17 rfl dX4_strongest_17 ?_
        refine at_iload_n 2 dX4_strongest_20 rfl ?_
        refine at_aload_n 0 dX4_strongest_21 rfl ?_
        refine at_aload_n 0 dX4_strongest_22 rfl ?_
        refine at_getf cl_X4 (by decide) fl_X4_18 hg_17 rfl dX4_strongest_23 ?_
        refine at_iload_n 2 dX4_strongest_26 rfl ?_
        obtain ⟨w3, hw3, h⟩ := sp_bind h
        refine at_iald hg_20 hw3 dX4_strongest_27 ?_
        obtain ⟨q4, hq4, h⟩ := sp_bind h
        refine at_callVi (st := [.int v2, .ref (b + 21)]) hK mt_X4_turnedBy ml_X4_144 cl_X4 hg_17 (t_X4_turnedBy hK hq4) rfl rfl (Nat.le_of_ble_eq_true rfl) ⟨Nat.le_of_ble_eq_true rfl, Nat.le_of_ble_eq_true rfl⟩ ⟨Nat.le_refl _, Nat.le_refl _⟩ dX4_strongest_28 ?_
        obtain ⟨hi5, h⟩ := sp_chk h
        refine at_iast hg_21 hi5 hs_21 dX4_strongest_31 ?_
        refine at_iinc 2 1 [(0, .ref (b + 17)), (1, .int v1), (2, .int (v2 + 1))] dX4_strongest_32 rfl ic_1 (Nat.le_of_ble_eq_true rfl) rfl ?_
        refine at_goto 2 dX4_strongest_35 (by decide) ?_
        exact ih _ _ _ h
set_option maxRecDepth 100000 in
theorem t_X4_strongest {D : va_G} {b : Nat} {K : State → Heap → Prop} {sa : Nat → Nat} (hK : sx_Kk b K sa) {N : Nat} {uG uN uD uR uF uP uT uA uM uH xA xB xC xD xE xF xG xH xI xJ xK xL uO : sx_C} {G : sx_H} {v1 : Int32} {uL : sx_C} {res : Int32 × sx_C} (h : f_X4_strongest N v1 uL = some res) : sx_Runs D b K yX4_strongest YX4_strongest (sx_rm 4) [.ref (b + 17), .int v1] (sx_hp b uG uN uD uR uF uP uL uT uA uM uH xA xB xC xD xE xF xG xH xI xJ xK xL uO G) (sx_Ex (some (.int res.1)) (sx_hp b uG uN uD uR uF uP (res.2) uT uA uM uH xA xB xC xD xE xF xG xH xI xJ xK xL uO G)) := by
  rw [f_X4_strongest] at h
  refine sx_run (by decide +kernel) rfl rfl (Nat.le_of_ble_eq_true rfl) ?_
  refine at_iconst 0 dX4_strongest_0 ic_0 ?_
  refine at_istore_n [(0, .ref (b + 17)), (1, .int v1), (2, .int 0)] dX4_strongest_1 (Nat.le_of_ble_eq_true rfl) rfl ?_
  exact t_X4_strongest_2 hK N _ N _ _ _ h
set_option maxRecDepth 100000 in
theorem t_X11_strong {D : va_G} {b : Nat} {K : State → Heap → Prop} {sa : Nat → Nat} (hK : sx_Kk b K sa) {N : Nat} {uG uN uD uR uF uP uT uA uM uH xA xB xC xD xE xF xG xH xI xJ xK xL uO : sx_C} {G : sx_H} {v1 : Int32} {uL : sx_C} {res : Int32 × sx_C} (h : f_X11_strong N uG uN v1 uL = some res) : sx_Runs D b K yX11_strong YX11_strong (sx_rm 45) [.ref (b + 0), .int v1] (sx_hp b uG uN uD uR uF uP uL uT uA uM uH xA xB xC xD xE xF xG xH xI xJ xK xL uO G) (sx_Ex (some (.int res.1)) (sx_hp b uG uN uD uR uF uP (res.2) uT uA uM uH xA xB xC xD xE xF xG xH xI xJ xK xL uO G)) := by
  rw [f_X11_strong] at h
  refine sx_run (by decide +kernel) rfl rfl (Nat.le_of_ble_eq_true rfl) ?_
  refine at_iload_n 1 dX11_strong_0 rfl ?_
  refine at_if_ge 6 dX11_strong_1 (by decide) (fun c1 => ?_) (fun c1 => ?_)
  · rw [if_pos c1] at h
    refine at_aload_n 0 dX11_strong_6 rfl ?_
    refine at_getf cl_X11 (by decide) fl_X11_60 hg_0 rfl dX11_strong_7 ?_
    refine at_aload_n 0 dX11_strong_10 rfl ?_
    refine at_getf cl_X11 (by decide) fl_X11_91 hg_0 rfl dX11_strong_11 ?_
    refine at_aload_n 0 dX11_strong_14 rfl ?_
    refine at_getf cl_X11 (by decide) fl_X11_94 hg_0 rfl dX11_strong_15 ?_
    obtain ⟨q2, hq2, h⟩ := sp_bind h
    refine at_callVv (st := []) hK mt_X4_lookAt ml_X11_242 cl_X4 hg_17 (t_X4_lookAt hK hq2) rfl rfl (Nat.le_of_ble_eq_true rfl) ⟨Nat.le_of_ble_eq_true rfl, Nat.le_of_ble_eq_true rfl⟩ ⟨Nat.le_refl _, Nat.le_refl _⟩ dX11_strong_18 ?_
    refine at_aload_n 0 dX11_strong_21 rfl ?_
    refine at_getf cl_X11 (by decide) fl_X11_60 hg_0 rfl dX11_strong_22 ?_
    refine at_iload_n 1 dX11_strong_25 rfl ?_
    obtain ⟨q3, hq3, h⟩ := sp_bind h
    refine at_callVi (st := []) hK mt_X4_strongest ml_X11_291 cl_X4 hg_17 (t_X4_strongest hK hq3) rfl rfl (Nat.le_of_ble_eq_true rfl) ⟨Nat.le_of_ble_eq_true rfl, Nat.le_of_ble_eq_true rfl⟩ ⟨Nat.le_refl _, Nat.le_refl _⟩ dX11_strong_26 ?_
    cases h; exact at_iret rfl (Nat.le_refl _) (Nat.le_refl _) ⟨rfl, rfl⟩ dX11_strong_29
  · rw [if_neg c1] at h
    refine at_iconst (-1) dX11_strong_4 ic_m1 ?_
    cases h; exact at_iret rfl (Nat.le_refl _) (Nat.le_refl _) ⟨rfl, rfl⟩ dX11_strong_5
set_option maxRecDepth 100000 in
theorem t_X11_forests {D : va_G} {b : Nat} {K : State → Heap → Prop} {sa : Nat → Nat} (hK : sx_Kk b K sa) {N : Nat} {uG uN uD uR uP uL uT uA uM uH xA xB xC xD xE xF xG xH xI xJ xK xL uO : sx_C} {G : sx_H} {v1 : Int32} {uF : sx_C} {res : Int32 × sx_C} (h : f_X11_forests N uG uN v1 uF = some res) : sx_Runs D b K yX11_forests YX11_forests (sx_rm 4) [.ref (b + 0), .int v1] (sx_hp b uG uN uD uR uF uP uL uT uA uM uH xA xB xC xD xE xF xG xH xI xJ xK xL uO G) (sx_Ex (some (.int res.1)) (sx_hp b uG uN uD uR (res.2) uP uL uT uA uM uH xA xB xC xD xE xF xG xH xI xJ xK xL uO G)) := by
  rw [f_X11_forests] at h
  refine sx_run (by decide +kernel) rfl rfl (Nat.le_of_ble_eq_true rfl) ?_
  refine at_iload_n 1 dX11_forests_0 rfl ?_
  refine at_if_lt 9 dX11_forests_1 (by decide) (fun c1 => ?_) (fun c1 => ?_)
  · rw [if_pos c1] at h
    refine at_iconst (-1) dX11_forests_9 ic_m1 ?_
    cases h; exact at_iret rfl (Nat.le_refl _) (Nat.le_refl _) ⟨rfl, rfl⟩ dX11_forests_10
  · rw [if_neg c1] at h
    refine at_iload_n 1 dX11_forests_4 rfl ?_
    refine at_iconst 2 dX11_forests_5 ic_2 ?_
    refine at_icmp_le 11 dX11_forests_6 (by decide) (fun c2 => ?_) (fun c2 => ?_)
    · rw [if_pos c2] at h
      refine at_aload_n 0 dX11_forests_11 rfl ?_
      refine at_getf cl_X11 (by decide) fl_X11_44 hg_0 rfl dX11_forests_12 ?_
      refine at_aload_n 0 dX11_forests_15 rfl ?_
      refine at_getf cl_X11 (by decide) fl_X11_16 hg_0 rfl dX11_forests_16 ?_
      refine at_aload_n 0 dX11_forests_19 rfl ?_
      refine at_getf cl_X11 (by decide) fl_X11_91 hg_0 rfl dX11_forests_20 ?_
      obtain ⟨q3, hq3, h⟩ := sp_bind h
      refine at_callVi (st := [.ref (b + 15)]) hK mt_X6_placesBy ml_X11_151 cl_X6 hg_2 (t_X6_placesBy hK hq3) rfl rfl (Nat.le_of_ble_eq_true rfl) ⟨Nat.le_of_ble_eq_true rfl, Nat.le_of_ble_eq_true rfl⟩ ⟨Nat.le_refl _, Nat.le_refl _⟩ dX11_forests_23 ?_
      refine at_aload_n 0 dX11_forests_26 rfl ?_
      obtain ⟨q4, hq4, h⟩ := sp_bind h
      refine at_callVi (st := [.int q3, .ref (b + 15)]) hK mt_X11_open ml_X11_193 cl_X11 hg_0 (t_X11_open hK hq4) rfl rfl (Nat.le_of_ble_eq_true rfl) ⟨Nat.le_of_ble_eq_true rfl, Nat.le_of_ble_eq_true rfl⟩ ⟨Nat.le_refl _, Nat.le_refl _⟩ dX11_forests_27 ?_
      obtain ⟨q5, hq5, h⟩ := sp_bind h
      refine at_callVv (st := []) hK mt_X3_bringOpen ml_X11_294 cl_X3 hg_15 (t_X3_bringOpen hK hq5) rfl rfl (Nat.le_of_ble_eq_true rfl) ⟨Nat.le_of_ble_eq_true rfl, Nat.le_of_ble_eq_true rfl⟩ ⟨Nat.le_refl _, Nat.le_refl _⟩ dX11_forests_30 ?_
      refine at_iload_n 1 dX11_forests_33 rfl ?_
      refine at_if_ne 45 dX11_forests_34 (by decide) (fun c6 => ?_) (fun c6 => ?_)
      · rw [if_neg c6] at h
        refine at_aload_n 0 dX11_forests_45 rfl ?_
        refine at_getf cl_X11 (by decide) fl_X11_35 hg_0 rfl dX11_forests_46 ?_
        obtain ⟨q7, hq7, h⟩ := sp_bind h
        refine at_callVv (st := []) hK mt_X0_lower ml_X11_300 cl_X0 hg_9 (t_X0_lower hK hq7) rfl rfl (Nat.le_of_ble_eq_true rfl) ⟨Nat.le_of_ble_eq_true rfl, Nat.le_of_ble_eq_true rfl⟩ ⟨Nat.le_refl _, Nat.le_refl _⟩ dX11_forests_49 ?_
        refine at_iload_n 1 dX11_forests_52 rfl ?_
        refine at_iconst 1 dX11_forests_53 ic_1 ?_
        refine at_icmp_ne 67 dX11_forests_54 (by decide) (fun c8 => ?_) (fun c8 => ?_)
        · rw [if_neg c8] at h
          refine at_aload_n 0 dX11_forests_67 rfl ?_
          refine at_getf cl_X11 (by decide) fl_X11_35 hg_0 rfl dX11_forests_68 ?_
          refine at_getf cl_X0 (by decide) fl_X11_306 hg_9 rfl dX11_forests_71 ?_
          cases h; exact at_iret rfl (Nat.le_refl _) (Nat.le_refl _) ⟨rfl, rfl⟩ dX11_forests_74
        · rw [if_pos c8] at h
          refine at_aload_n 0 dX11_forests_57 rfl ?_
          refine at_getf cl_X11 (by decide) fl_X11_35 hg_0 rfl dX11_forests_58 ?_
          refine at_getf cl_X0 (by decide) fl_X11_303 hg_9 rfl dX11_forests_61 ?_
          refine at_goto 74 dX11_forests_64 (by decide) ?_
          cases h; exact at_iret rfl (Nat.le_refl _) (Nat.le_refl _) ⟨rfl, rfl⟩ dX11_forests_74
      · rw [if_pos c6] at h
        refine at_aload_n 0 dX11_forests_37 rfl ?_
        refine at_getf cl_X11 (by decide) fl_X11_35 hg_0 rfl dX11_forests_38 ?_
        obtain ⟨q9, hq9, h⟩ := sp_bind h
        refine at_callVi (st := []) hK mt_X0_total ml_X11_297 cl_X0 hg_9 (t_X0_total hK hq9) rfl rfl (Nat.le_of_ble_eq_true rfl) ⟨Nat.le_of_ble_eq_true rfl, Nat.le_of_ble_eq_true rfl⟩ ⟨Nat.le_refl _, Nat.le_refl _⟩ dX11_forests_41 ?_
        cases h; exact at_iret rfl (Nat.le_refl _) (Nat.le_refl _) ⟨rfl, rfl⟩ dX11_forests_44
    · rw [if_neg c2] at h
      refine at_iconst (-1) dX11_forests_9 ic_m1 ?_
      cases h; exact at_iret rfl (Nat.le_refl _) (Nat.le_refl _) ⟨rfl, rfl⟩ dX11_forests_10
set_option maxRecDepth 100000 in
theorem t_X1_draw {D : va_G} {b : Nat} {K : State → Heap → Prop} {sa : Nat → Nat} (hK : sx_Kk b K sa) {uG uN uD uR uF uP uL uT uM uH xA xB xC xD xE xF xG xH xI xJ xK xL uO : sx_C} {G : sx_H} {v1 : Int32} {uA : sx_C} {res : Int32 × sx_C} (h : f_X1_draw v1 uA = some res) : sx_Runs D b K yX1_draw YX1_draw (sx_rm 0) [.ref (b + 32), .int v1] (sx_hp b uG uN uD uR uF uP uL uT uA uM uH xA xB xC xD xE xF xG xH xI xJ xK xL uO G) (sx_Ex (some (.int res.1)) (sx_hp b uG uN uD uR uF uP uL uT (res.2) uM uH xA xB xC xD xE xF xG xH xI xJ xK xL uO G)) := by
  rw [f_X1_draw] at h
  refine sx_run (by decide +kernel) rfl rfl (Nat.le_of_ble_eq_true rfl) ?_
  refine at_aload_n 0 dX1_draw_0 rfl ?_
  refine at_aload_n 0 dX1_draw_1 rfl ?_
  refine at_getf cl_X1 (by decide) fl_X1_18 hg_32 rfl dX1_draw_2 ?_
  refine at_ldc2 kn_X1_93 dX1_draw_5 ?_
  refine at_lmul dX1_draw_8 ?_
  refine at_ldc2 kn_X1_95 dX1_draw_9 ?_
  refine at_ladd dX1_draw_12 ?_
  refine at_ldc2 kn_X1_97 dX1_draw_13 ?_
  refine at_lrem dX1_draw_16 (by decide) ?_
  refine at_putf cl_X1 (by decide) fl_X1_18 rfl hg_32 rfl rfl (Nat.le_of_ble_eq_true rfl) hs_32_4 dX1_draw_17 ?_
  refine at_iload_n 1 dX1_draw_20 rfl ?_
  refine at_iconst 1 dX1_draw_21 ic_1 ?_
  refine at_icmp_ge 29 dX1_draw_22 (by decide) (fun c1 => ?_) (fun c1 => ?_)
  · rw [if_pos c1] at h
    refine at_aload_n 0 dX1_draw_29 rfl ?_
    refine at_getf cl_X1 (by decide) fl_X1_18 hg_32 rfl dX1_draw_30 ?_
    refine at_ldc2 kn_X1_99 dX1_draw_33 ?_
    refine at_ldiv dX1_draw_36 (by decide) ?_
    refine at_iload_n 1 dX1_draw_37 rfl ?_
    refine at_i2l dX1_draw_38 ?_
    obtain ⟨hz2, h⟩ := sp_chk h
    refine at_lrem dX1_draw_39 hz2 ?_
    refine at_l2i dX1_draw_40 ?_
    cases h; exact at_iret rfl (Nat.le_refl _) (Nat.le_refl _) ⟨rfl, rfl⟩ dX1_draw_41
  · rw [if_neg c1] at h
    refine at_iconst 0 dX1_draw_25 ic_0 ?_
    refine at_goto 41 dX1_draw_26 (by decide) ?_
    cases h; exact at_iret rfl (Nat.le_refl _) (Nat.le_refl _) ⟨rfl, rfl⟩ dX1_draw_41
set_option maxRecDepth 100000 in
theorem t_X1_drawLine {D : va_G} {b : Nat} {K : State → Heap → Prop} {sa : Nat → Nat} (hK : sx_Kk b K sa) {N : Nat} {uG uN uD uR uF uP uL uT uM uH xA xB xC xD xE xF xG xH xI xJ xK xL uO : sx_C} {G : sx_H} {v1 : Int32} {uA : sx_C} {res : Int32 × sx_C} (h : f_X1_drawLine N v1 uA = some res) : sx_Runs D b K yX1_drawLine YX1_drawLine (sx_rm 2) [.ref (b + 32), .int v1] (sx_hp b uG uN uD uR uF uP uL uT uA uM uH xA xB xC xD xE xF xG xH xI xJ xK xL uO G) (sx_Ex (some (.int res.1)) (sx_hp b uG uN uD uR uF uP uL uT (res.2) uM uH xA xB xC xD xE xF xG xH xI xJ xK xL uO G)) := by
  rw [f_X1_drawLine] at h
  refine sx_run (by decide +kernel) rfl rfl (Nat.le_of_ble_eq_true rfl) ?_
  refine at_iload_n 1 dX1_drawLine_0 rfl ?_
  refine at_aload_n 0 dX1_drawLine_1 rfl ?_
  refine at_iload_n 1 dX1_drawLine_2 rfl ?_
  obtain ⟨q1, hq1, h⟩ := sp_bind h
  refine at_callSi (st := [.ref (b + 32), .int v1]) hK mt_J6_bitCount_0f7a4 ml_X1_101 (t_J6_bitCount_0f7a4 hK hq1) rfl rfl (Nat.le_of_ble_eq_true rfl) ⟨Nat.le_of_ble_eq_true rfl, Nat.le_of_ble_eq_true rfl⟩ ⟨Nat.le_refl _, Nat.le_refl _⟩ dX1_drawLine_3 ?_
  obtain ⟨q2, hq2, h⟩ := sp_bind h
  refine at_callVi (st := [.int v1]) hK mt_X1_draw ml_X1_106 cl_X1 hg_32 (t_X1_draw hK hq2) rfl rfl (Nat.le_of_ble_eq_true rfl) ⟨Nat.le_of_ble_eq_true rfl, Nat.le_of_ble_eq_true rfl⟩ ⟨Nat.le_refl _, Nat.le_refl _⟩ dX1_drawLine_6 ?_
  obtain ⟨q3, hq3, h⟩ := sp_bind h
  refine at_callSi (st := []) hK mt_X11_nth ml_X1_49 (t_X11_nth hK hq3) rfl rfl (Nat.le_of_ble_eq_true rfl) ⟨Nat.le_of_ble_eq_true rfl, Nat.le_of_ble_eq_true rfl⟩ ⟨Nat.le_refl _, Nat.le_refl _⟩ dX1_drawLine_9 ?_
  cases h; exact at_iret rfl (Nat.le_refl _) (Nat.le_refl _) ⟨rfl, rfl⟩ dX1_drawLine_12
set_option maxRecDepth 100000 in
theorem t_X1_movesOfDuel_18 {D : va_G} {b : Nat} {K : State → Heap → Prop} {sa : Nat → Nat} (hK : sx_Kk b K sa) (N : Nat) {uG uN uD uR uL uT uM uH xA xB xC xD xE xF xG xH xI xJ xK xL uO : sx_C} {G : sx_H} (res : Int32 × sx_C × sx_C × sx_C) : ∀ (n0 : Nat) (v4 : Int32) (v5 : Int32) (v6 : Int32) (v7 : Int32) (uF : sx_C) (uP : sx_C) (uA : sx_C), f_X1_movesOfDuel_18 N uN n0 v4 v5 v6 v7 uF uP uA = some res → sx_At D b K YX1_movesOfDuel (sx_rm 5) (sx_Ex (some (.int res.1)) (sx_hp b uG uN uD uR (res.2.1) (res.2.2.1) uL uT (res.2.2.2) uM uH xA xB xC xD xE xF xG xH xI xJ xK xL uO G)) 18 [(0, .ref (b + 32)), (4, .int v4), (5, .int v5), (6, .int v6), (7, .int v7)] [] (sx_hp b uG uN uD uR uF uP uL uT uA uM uH xA xB xC xD xE xF xG xH xI xJ xK xL uO G) 0 0 := by
  intro n0
  induction n0 with
  | zero => intro _ _ _ _ _ _ _ h; cases h
  | succ n0 ih =>
    intro v4 v5 v6 v7 uF uP uA h
    rw [f_X1_movesOfDuel_18] at h
    refine at_iload 4 dX1_movesOfDuel_18 rfl ?_
    refine at_bipush 14 dX1_movesOfDuel_20 bp_14 ?_
    refine at_icmp_ge 90 dX1_movesOfDuel_22 (by decide) (fun c1 => ?_) (fun c1 => ?_)
    · rw [if_pos c1] at h
      refine at_iload 3 dX1_movesOfDuel_90 rfl ?_
      cases h; exact at_iret rfl (Nat.le_refl _) (Nat.le_refl _) ⟨rfl, rfl⟩ dX1_movesOfDuel_92
    · rw [if_neg c1] at h
      refine at_aload_n 0 dX1_movesOfDuel_25 rfl ?_
      refine at_getf cl_X1 (by decide) fl_X1_30 hg_32 rfl dX1_movesOfDuel_26 ?_
      refine at_iload 1 dX1_movesOfDuel_29 rfl ?_
      refine at_iload 2 dX1_movesOfDuel_31 rfl ?_
      obtain ⟨q2, hq2, h⟩ := sp_bind h
      refine at_callVi (st := []) hK mt_X7_find ml_X1_68 cl_X7 hg_16 (t_X7_find hK hq2) rfl rfl (Nat.le_of_ble_eq_true rfl) ⟨Nat.le_of_ble_eq_true rfl, Nat.le_of_ble_eq_true rfl⟩ ⟨Nat.le_refl _, Nat.le_refl _⟩ dX1_movesOfDuel_33 ?_
      refine at_zeq 90 dX1_movesOfDuel_36 (by decide) (fun c3 => ?_) (fun c3 => ?_)
      · rw [if_neg c3] at h
        refine at_iload 3 dX1_movesOfDuel_90 rfl ?_
        cases h; exact at_iret rfl (Nat.le_refl _) (Nat.le_refl _) ⟨rfl, rfl⟩ dX1_movesOfDuel_92
      · rw [if_pos c3] at h
        refine at_aload_n 0 dX1_movesOfDuel_39 rfl ?_
        refine at_aload_n 0 dX1_movesOfDuel_40 rfl ?_
        refine at_getf cl_X1 (by decide) fl_X1_22 hg_32 rfl dX1_movesOfDuel_41 ?_
        refine at_iload 1 dX1_movesOfDuel_44 rfl ?_
        refine at_iload 2 dX1_movesOfDuel_46 rfl ?_
        obtain ⟨q4, hq4, h⟩ := sp_bind h
        refine at_callVi (st := [.ref (b + 32)]) hK mt_X6_openOf ml_X1_46 cl_X6 hg_2 (t_X6_openOf hK hq4) rfl rfl (Nat.le_of_ble_eq_true rfl) ⟨Nat.le_of_ble_eq_true rfl, Nat.le_of_ble_eq_true rfl⟩ ⟨Nat.le_refl _, Nat.le_refl _⟩ dX1_movesOfDuel_48 ?_
        obtain ⟨q5, hq5, h⟩ := sp_bind h
        refine at_callVi (st := []) hK mt_X1_drawLine ml_X1_112 cl_X1 hg_32 (t_X1_drawLine hK hq5) rfl rfl (Nat.le_of_ble_eq_true rfl) ⟨Nat.le_of_ble_eq_true rfl, Nat.le_of_ble_eq_true rfl⟩ ⟨Nat.le_refl _, Nat.le_refl _⟩ dX1_movesOfDuel_51 ?_
        refine at_istore [(0, .ref (b + 32)), (4, .int v4), (5, .int v5), (6, .int v6), (7, .int v7), (8, .int (q5.1))] dX1_movesOfDuel_54 (Nat.le_of_ble_eq_true rfl) rfl ?_
        refine at_iload 1 dX1_movesOfDuel_56 rfl ?_
        refine at_iconst 1 dX1_movesOfDuel_58 ic_1 ?_
        refine at_aload_n 0 dX1_movesOfDuel_59 rfl ?_
        refine at_getf cl_X1 (by decide) fl_X1_30 hg_32 rfl dX1_movesOfDuel_60 ?_
        refine at_iload 5 dX1_movesOfDuel_63 rfl ?_
        obtain ⟨q6, hq6, h⟩ := sp_bind h
        refine at_callVi (st := [.int 1, .int v4]) hK mt_X7_reply ml_X1_115 cl_X7 hg_16 (t_X7_reply hK hq6) rfl rfl (Nat.le_of_ble_eq_true rfl) ⟨Nat.le_of_ble_eq_true rfl, Nat.le_of_ble_eq_true rfl⟩ ⟨Nat.le_refl _, Nat.le_refl _⟩ dX1_movesOfDuel_65 ?_
        refine at_ishl dX1_movesOfDuel_68 ?_
        refine at_ior dX1_movesOfDuel_69 ?_
        refine at_istore [(0, .ref (b + 32)), (4, .int (v4 ||| (sp_shl 1 (q6.1)))), (5, .int v5), (6, .int v6), (7, .int v7), (8, .int (q5.1))] dX1_movesOfDuel_70 (Nat.le_of_ble_eq_true rfl) rfl ?_
        refine at_iload 2 dX1_movesOfDuel_72 rfl ?_
        refine at_iconst 1 dX1_movesOfDuel_74 ic_1 ?_
        refine at_iload 5 dX1_movesOfDuel_75 rfl ?_
        refine at_ishl dX1_movesOfDuel_77 ?_
        refine at_ior dX1_movesOfDuel_78 ?_
        refine at_istore [(0, .ref (b + 32)), (4, .int (v4 ||| (sp_shl 1 (q6.1)))), (5, .int (v5 ||| (sp_shl 1 (q5.1)))), (6, .int v6), (7, .int v7), (8, .int (q5.1))] dX1_movesOfDuel_79 (Nat.le_of_ble_eq_true rfl) rfl ?_
        refine at_iinc 3 2 [(0, .ref (b + 32)), (4, .int (v4 ||| (sp_shl 1 (q6.1)))), (5, .int (v5 ||| (sp_shl 1 (q5.1)))), (6, .int (v6 + 2)), (7, .int v7), (8, .int (q5.1))] dX1_movesOfDuel_81 rfl ic_2 (Nat.le_of_ble_eq_true rfl) rfl ?_
        refine at_iinc 4 1 [(0, .ref (b + 32)), (4, .int (v4 ||| (sp_shl 1 (q6.1)))), (5, .int (v5 ||| (sp_shl 1 (q5.1)))), (6, .int (v6 + 2)), (7, .int (v7 + 1)), (8, .int (q5.1))] dX1_movesOfDuel_84 rfl ic_1 (Nat.le_of_ble_eq_true rfl) rfl ?_
        refine at_goto 18 dX1_movesOfDuel_87 (by decide) ?_
        refine at_sub [0, 1, 2, 3, 4] [(0, .ref (b + 32)), (4, .int (v4 ||| (sp_shl 1 (q6.1)))), (5, .int (v5 ||| (sp_shl 1 (q5.1)))), (6, .int (v6 + 2)), (7, .int (v7 + 1))] rfl ?_
        exact ih _ _ _ _ _ _ _ h
set_option maxRecDepth 100000 in
theorem t_X1_movesOfDuel {D : va_G} {b : Nat} {K : State → Heap → Prop} {sa : Nat → Nat} (hK : sx_Kk b K sa) {N : Nat} {uG uN uD uR uL uT uM uH xA xB xC xD xE xF xG xH xI xJ xK xL uO : sx_C} {G : sx_H} {v1 : Int32} {v2 : Int32} {v3 : Int32} {uF : sx_C} {uP : sx_C} {uA : sx_C} {res : Int32 × sx_C × sx_C × sx_C} (h : f_X1_movesOfDuel N uN v1 v2 v3 uF uP uA = some res) : sx_Runs D b K yX1_movesOfDuel YX1_movesOfDuel (sx_rm 5) [.ref (b + 32), .int v1, .int v2, .int v3] (sx_hp b uG uN uD uR uF uP uL uT uA uM uH xA xB xC xD xE xF xG xH xI xJ xK xL uO G) (sx_Ex (some (.int res.1)) (sx_hp b uG uN uD uR (res.2.1) (res.2.2.1) uL uT (res.2.2.2) uM uH xA xB xC xD xE xF xG xH xI xJ xK xL uO G)) := by
  rw [f_X1_movesOfDuel] at h
  refine sx_run (by decide +kernel) rfl rfl (Nat.le_of_ble_eq_true rfl) ?_
  refine at_iload_n 1 dX1_movesOfDuel_0 rfl ?_
  refine at_istore [(0, .ref (b + 32)), (1, .int v1), (2, .int v2), (3, .int v3), (4, .int v1)] dX1_movesOfDuel_1 (Nat.le_of_ble_eq_true rfl) rfl ?_
  refine at_iload_n 2 dX1_movesOfDuel_3 rfl ?_
  refine at_istore [(0, .ref (b + 32)), (1, .int v1), (2, .int v2), (3, .int v3), (4, .int v1), (5, .int v2)] dX1_movesOfDuel_4 (Nat.le_of_ble_eq_true rfl) rfl ?_
  refine at_iconst 0 dX1_movesOfDuel_6 ic_0 ?_
  refine at_istore [(0, .ref (b + 32)), (1, .int v1), (2, .int v2), (3, .int v3), (4, .int v1), (5, .int v2), (6, .int 0)] dX1_movesOfDuel_7 (Nat.le_of_ble_eq_true rfl) rfl ?_
  refine at_aload_n 0 dX1_movesOfDuel_9 rfl ?_
  refine at_iload_n 3 dX1_movesOfDuel_10 rfl ?_
  refine at_i2l dX1_movesOfDuel_11 ?_
  refine at_putf cl_X1 (by decide) fl_X1_18 rfl hg_32 rfl rfl (Nat.le_of_ble_eq_true rfl) hs_32_4 dX1_movesOfDuel_12 ?_
  refine at_iconst 0 dX1_movesOfDuel_15 ic_0 ?_
  refine at_istore [(0, .ref (b + 32)), (1, .int v1), (2, .int v2), (3, .int v3), (4, .int v1), (5, .int v2), (6, .int 0), (7, .int 0)] dX1_movesOfDuel_16 (Nat.le_of_ble_eq_true rfl) rfl ?_
  refine at_sub [0, 4, 5, 6, 7] [(0, .ref (b + 32)), (4, .int v1), (5, .int v2), (6, .int 0), (7, .int 0)] rfl ?_
  exact t_X1_movesOfDuel_18 hK N _ N _ _ _ _ _ _ _ h
set_option maxRecDepth 100000 in
theorem t_X11_duel {D : va_G} {b : Nat} {K : State → Heap → Prop} {sa : Nat → Nat} (hK : sx_Kk b K sa) {N : Nat} {uG uN uD uR uL uT uM uH xA xB xC xD xE xF xG xH xI xJ xK xL uO : sx_C} {G : sx_H} {v1 : Int32} {uF : sx_C} {uP : sx_C} {uA : sx_C} {res : Int32 × sx_C × sx_C × sx_C} (h : f_X11_duel N uG uN v1 uF uP uA = some res) : sx_Runs D b K yX11_duel YX11_duel (sx_rm 6) [.ref (b + 0), .int v1] (sx_hp b uG uN uD uR uF uP uL uT uA uM uH xA xB xC xD xE xF xG xH xI xJ xK xL uO G) (sx_Ex (some (.int res.1)) (sx_hp b uG uN uD uR (res.2.1) (res.2.2.1) uL uT (res.2.2.2) uM uH xA xB xC xD xE xF xG xH xI xJ xK xL uO G)) := by
  rw [f_X11_duel] at h
  refine sx_run (by decide +kernel) rfl rfl (Nat.le_of_ble_eq_true rfl) ?_
  refine at_iload_n 1 dX11_duel_0 rfl ?_
  refine at_if_ge 6 dX11_duel_1 (by decide) (fun c1 => ?_) (fun c1 => ?_)
  · rw [if_pos c1] at h
    refine at_aload_n 0 dX11_duel_6 rfl ?_
    refine at_getf cl_X11 (by decide) fl_X11_51 hg_0 rfl dX11_duel_7 ?_
    refine at_aload_n 0 dX11_duel_10 rfl ?_
    refine at_getf cl_X11 (by decide) fl_X11_91 hg_0 rfl dX11_duel_11 ?_
    refine at_aload_n 0 dX11_duel_14 rfl ?_
    refine at_getf cl_X11 (by decide) fl_X11_94 hg_0 rfl dX11_duel_15 ?_
    obtain ⟨q2, hq2, h⟩ := sp_bind h
    refine at_callVi (st := []) hK mt_X7_find ml_X11_204 cl_X7 hg_16 (t_X7_find hK hq2) rfl rfl (Nat.le_of_ble_eq_true rfl) ⟨Nat.le_of_ble_eq_true rfl, Nat.le_of_ble_eq_true rfl⟩ ⟨Nat.le_refl _, Nat.le_refl _⟩ dX11_duel_18 ?_
    refine at_zeq 43 dX11_duel_21 (by decide) (fun c3 => ?_) (fun c3 => ?_)
    · rw [if_neg c3] at h
      refine at_bipush (-2) dX11_duel_43 bp_m2 ?_
      cases h; exact at_iret rfl (Nat.le_refl _) (Nat.le_refl _) ⟨rfl, rfl⟩ dX11_duel_45
    · rw [if_pos c3] at h
      refine at_aload_n 0 dX11_duel_24 rfl ?_
      refine at_getf cl_X11 (by decide) fl_X11_76 hg_0 rfl dX11_duel_25 ?_
      refine at_aload_n 0 dX11_duel_28 rfl ?_
      refine at_getf cl_X11 (by decide) fl_X11_91 hg_0 rfl dX11_duel_29 ?_
      refine at_aload_n 0 dX11_duel_32 rfl ?_
      refine at_getf cl_X11 (by decide) fl_X11_94 hg_0 rfl dX11_duel_33 ?_
      refine at_iload_n 1 dX11_duel_36 rfl ?_
      obtain ⟨q4, hq4, h⟩ := sp_bind h
      refine at_callVi (st := []) hK mt_X1_movesOfDuel ml_X11_309 cl_X1 hg_32 (t_X1_movesOfDuel hK hq4) rfl rfl (Nat.le_of_ble_eq_true rfl) ⟨Nat.le_of_ble_eq_true rfl, Nat.le_of_ble_eq_true rfl⟩ ⟨Nat.le_refl _, Nat.le_refl _⟩ dX11_duel_37 ?_
      refine at_goto 45 dX11_duel_40 (by decide) ?_
      cases h; exact at_iret rfl (Nat.le_refl _) (Nat.le_refl _) ⟨rfl, rfl⟩ dX11_duel_45
  · rw [if_neg c1] at h
    refine at_iconst (-1) dX11_duel_4 ic_m1 ?_
    cases h; exact at_iret rfl (Nat.le_refl _) (Nat.le_refl _) ⟨rfl, rfl⟩ dX11_duel_5
set_option maxRecDepth 100000 in
theorem t_X1_holderByChance_89 {D : va_G} {b : Nat} {K : State → Heap → Prop} {sa : Nat → Nat} (hK : sx_Kk b K sa) (N : Nat) {uG uN uD uR uF uP uL uT uM uH xA xB xC xD xE xF xG xH xI xJ xK xL uO : sx_C} {G : sx_H} (res : Int32 × sx_C) : ∀ (v4 : Int32) (v5 : Int32) (uA : sx_C), f_X1_holderByChance_89 N uN v4 v5 uA = some res → sx_At D b K YX1_holderByChance (sx_rm 4) (sx_Ex (some (.int res.1)) (sx_hp b uG uN uD uR uF uP uL uT (res.2) uM uH xA xB xC xD xE xF xG xH xI xJ xK xL uO G)) 89 [(0, .ref (b + 32)), (4, .int v4), (5, .int v5)] [] (sx_hp b uG uN uD uR uF uP uL uT uA uM uH xA xB xC xD xE xF xG xH xI xJ xK xL uO G) 0 0 := by
  intro v4 v5 uA h
  rw [f_X1_holderByChance_89] at h
  refine at_aload_n 0 dX1_holderByChance_89 rfl ?_
  refine at_getf cl_X1 (by decide) fl_X1_22 hg_32 rfl dX1_holderByChance_90 ?_
  refine at_iload 1 dX1_holderByChance_93 rfl ?_
  refine at_iload 2 dX1_holderByChance_95 rfl ?_
  obtain ⟨q7, hq7, h⟩ := sp_bind h
  refine at_callVi (st := []) hK mt_X6_holder ml_X1_34 cl_X6 hg_2 (t_X6_holder hK hq7) rfl rfl (Nat.le_of_ble_eq_true rfl) ⟨Nat.le_of_ble_eq_true rfl, Nat.le_of_ble_eq_true rfl⟩ ⟨Nat.le_refl _, Nat.le_refl _⟩ dX1_holderByChance_97 ?_
  cases h; exact at_iret rfl (Nat.le_refl _) (Nat.le_refl _) ⟨rfl, rfl⟩ dX1_holderByChance_100
set_option maxRecDepth 100000 in
theorem t_X1_holderByChance_77 {D : va_G} {b : Nat} {K : State → Heap → Prop} {sa : Nat → Nat} (hK : sx_Kk b K sa) (N : Nat) {k12 : Int32 → Int32 → Int32 → Int32 → sx_C → Option (Int32 × sx_C)} {uG uN uD uR uF uP uL uT uM uH xA xB xC xD xE xF xG xH xI xJ xK xL uO : sx_C} {G : sx_H} (res : Int32 × sx_C) (hk12 : ∀ (v4 : Int32) (v5 : Int32) (v6 : Int32) (v7 : Int32) (uA : sx_C), k12 v4 v5 v6 v7 uA = some res → sx_At D b K YX1_holderByChance (sx_rm 4) (sx_Ex (some (.int res.1)) (sx_hp b uG uN uD uR uF uP uL uT (res.2) uM uH xA xB xC xD xE xF xG xH xI xJ xK xL uO G)) 12 [(0, .ref (b + 32)), (4, .int v4), (5, .int v5), (6, .int v6), (7, .int v7)] [] (sx_hp b uG uN uD uR uF uP uL uT uA uM uH xA xB xC xD xE xF xG xH xI xJ xK xL uO G) 0 0) : ∀ (v4 : Int32) (v5 : Int32) (v6 : Int32) (v7 : Int32) (uA : sx_C), f_X1_holderByChance_77 N k12 uN v4 v5 v6 v7 uA = some res → sx_At D b K YX1_holderByChance (sx_rm 4) (sx_Ex (some (.int res.1)) (sx_hp b uG uN uD uR uF uP uL uT (res.2) uM uH xA xB xC xD xE xF xG xH xI xJ xK xL uO G)) 77 [(0, .ref (b + 32)), (4, .int v4), (5, .int v5), (6, .int v6), (7, .int v7)] [] (sx_hp b uG uN uD uR uF uP uL uT uA uM uH xA xB xC xD xE xF xG xH xI xJ xK xL uO G) 0 0 := by
  intro v4 v5 v6 v7 uA h
  rw [f_X1_holderByChance_77] at h
  refine at_iconst 1 dX1_holderByChance_77 ic_1 ?_
  refine at_iload 3 dX1_holderByChance_78 rfl ?_
  refine at_isub dX1_holderByChance_80 ?_
  refine at_istore [(0, .ref (b + 32)), (4, .int v4), (5, .int v5), (6, .int (1 - v6)), (7, .int v7)] dX1_holderByChance_81 (Nat.le_of_ble_eq_true rfl) rfl ?_
  refine at_iinc 4 1 [(0, .ref (b + 32)), (4, .int v4), (5, .int v5), (6, .int (1 - v6)), (7, .int (v7 + 1))] dX1_holderByChance_83 rfl ic_1 (Nat.le_of_ble_eq_true rfl) rfl ?_
  refine at_goto 12 dX1_holderByChance_86 (by decide) ?_
  exact hk12 _ _ _ _ _ h
set_option maxRecDepth 100000 in
theorem t_X1_holderByChance_12 {D : va_G} {b : Nat} {K : State → Heap → Prop} {sa : Nat → Nat} (hK : sx_Kk b K sa) (N : Nat) {uG uN uD uR uF uP uL uT uM uH xA xB xC xD xE xF xG xH xI xJ xK xL uO : sx_C} {G : sx_H} (res : Int32 × sx_C) : ∀ (n0 : Nat) (v4 : Int32) (v5 : Int32) (v6 : Int32) (v7 : Int32) (uA : sx_C), f_X1_holderByChance_12 N uN n0 v4 v5 v6 v7 uA = some res → sx_At D b K YX1_holderByChance (sx_rm 4) (sx_Ex (some (.int res.1)) (sx_hp b uG uN uD uR uF uP uL uT (res.2) uM uH xA xB xC xD xE xF xG xH xI xJ xK xL uO G)) 12 [(0, .ref (b + 32)), (4, .int v4), (5, .int v5), (6, .int v6), (7, .int v7)] [] (sx_hp b uG uN uD uR uF uP uL uT uA uM uH xA xB xC xD xE xF xG xH xI xJ xK xL uO G) 0 0 := by
  intro n0
  induction n0 with
  | zero => intro _ _ _ _ _ h; cases h
  | succ n0 ih =>
    intro v4 v5 v6 v7 uA h
    rw [f_X1_holderByChance_12] at h
    refine at_iload 4 dX1_holderByChance_12 rfl ?_
    refine at_bipush 14 dX1_holderByChance_14 bp_14 ?_
    refine at_icmp_ge 89 dX1_holderByChance_16 (by decide) (fun c1 => ?_) (fun c1 => ?_)
    · rw [if_pos c1] at h
      refine at_sub [0, 1, 2] [(0, .ref (b + 32)), (4, .int v4), (5, .int v5)] rfl ?_
      exact t_X1_holderByChance_89 hK N _ _ _ _ h
    · rw [if_neg c1] at h
      refine at_aload_n 0 dX1_holderByChance_19 rfl ?_
      refine at_getf cl_X1 (by decide) fl_X1_22 hg_32 rfl dX1_holderByChance_20 ?_
      refine at_iload 1 dX1_holderByChance_23 rfl ?_
      refine at_iload 2 dX1_holderByChance_25 rfl ?_
      obtain ⟨q2, hq2, h⟩ := sp_bind h
      refine at_callVi (st := []) hK mt_X6_holder ml_X1_34 cl_X6 hg_2 (t_X6_holder hK hq2) rfl rfl (Nat.le_of_ble_eq_true rfl) ⟨Nat.le_of_ble_eq_true rfl, Nat.le_of_ble_eq_true rfl⟩ ⟨Nat.le_refl _, Nat.le_refl _⟩ dX1_holderByChance_27 ?_
      refine at_iconst 2 dX1_holderByChance_30 ic_2 ?_
      refine at_icmp_ne 89 dX1_holderByChance_31 (by decide) (fun c3 => ?_) (fun c3 => ?_)
      · rw [if_neg c3] at h
        refine at_sub [0, 1, 2] [(0, .ref (b + 32)), (4, .int v4), (5, .int v5)] rfl ?_
        exact t_X1_holderByChance_89 hK N _ _ _ _ h
      · rw [if_pos c3] at h
        refine at_aload_n 0 dX1_holderByChance_34 rfl ?_
        refine at_aload_n 0 dX1_holderByChance_35 rfl ?_
        refine at_getf cl_X1 (by decide) fl_X1_22 hg_32 rfl dX1_holderByChance_36 ?_
        refine at_iload 1 dX1_holderByChance_39 rfl ?_
        refine at_iload 2 dX1_holderByChance_41 rfl ?_
        obtain ⟨q4, hq4, h⟩ := sp_bind h
        refine at_callVi (st := [.ref (b + 32)]) hK mt_X6_openOf ml_X1_46 cl_X6 hg_2 (t_X6_openOf hK hq4) rfl rfl (Nat.le_of_ble_eq_true rfl) ⟨Nat.le_of_ble_eq_true rfl, Nat.le_of_ble_eq_true rfl⟩ ⟨Nat.le_refl _, Nat.le_refl _⟩ dX1_holderByChance_43 ?_
        obtain ⟨q5, hq5, h⟩ := sp_bind h
        refine at_callVi (st := []) hK mt_X1_drawLine ml_X1_112 cl_X1 hg_32 (t_X1_drawLine hK hq5) rfl rfl (Nat.le_of_ble_eq_true rfl) ⟨Nat.le_of_ble_eq_true rfl, Nat.le_of_ble_eq_true rfl⟩ ⟨Nat.le_refl _, Nat.le_refl _⟩ dX1_holderByChance_46 ?_
        refine at_istore [(0, .ref (b + 32)), (4, .int v4), (5, .int v5), (6, .int v6), (7, .int v7), (8, .int (q5.1))] dX1_holderByChance_49 (Nat.le_of_ble_eq_true rfl) rfl ?_
        refine at_iload 3 dX1_holderByChance_51 rfl ?_
        refine at_if_ne 68 dX1_holderByChance_53 (by decide) (fun c6 => ?_) (fun c6 => ?_)
        · rw [if_neg c6] at h
          refine at_iload 2 dX1_holderByChance_68 rfl ?_
          refine at_iconst 1 dX1_holderByChance_70 ic_1 ?_
          refine at_iload 5 dX1_holderByChance_71 rfl ?_
          refine at_ishl dX1_holderByChance_73 ?_
          refine at_ior dX1_holderByChance_74 ?_
          refine at_istore [(0, .ref (b + 32)), (4, .int v4), (5, .int (v5 ||| (sp_shl 1 (q5.1)))), (6, .int v6), (7, .int v7), (8, .int (q5.1))] dX1_holderByChance_75 (Nat.le_of_ble_eq_true rfl) rfl ?_
          refine at_sub [0, 1, 2, 3, 4] [(0, .ref (b + 32)), (4, .int v4), (5, .int (v5 ||| (sp_shl 1 (q5.1)))), (6, .int v6), (7, .int v7)] rfl ?_
          exact t_X1_holderByChance_77 hK N _ ih _ _ _ _ _ h
        · rw [if_pos c6] at h
          refine at_iload 1 dX1_holderByChance_56 rfl ?_
          refine at_iconst 1 dX1_holderByChance_58 ic_1 ?_
          refine at_iload 5 dX1_holderByChance_59 rfl ?_
          refine at_ishl dX1_holderByChance_61 ?_
          refine at_ior dX1_holderByChance_62 ?_
          refine at_istore [(0, .ref (b + 32)), (4, .int (v4 ||| (sp_shl 1 (q5.1)))), (5, .int v5), (6, .int v6), (7, .int v7), (8, .int (q5.1))] dX1_holderByChance_63 (Nat.le_of_ble_eq_true rfl) rfl ?_
          refine at_goto 77 dX1_holderByChance_65 (by decide) ?_
          refine at_sub [0, 1, 2, 3, 4] [(0, .ref (b + 32)), (4, .int (v4 ||| (sp_shl 1 (q5.1)))), (5, .int v5), (6, .int v6), (7, .int v7)] rfl ?_
          exact t_X1_holderByChance_77 hK N _ ih _ _ _ _ _ h
set_option maxRecDepth 100000 in
theorem t_X1_holderByChance {D : va_G} {b : Nat} {K : State → Heap → Prop} {sa : Nat → Nat} (hK : sx_Kk b K sa) {N : Nat} {uG uN uD uR uF uP uL uT uM uH xA xB xC xD xE xF xG xH xI xJ xK xL uO : sx_C} {G : sx_H} {v1 : Int32} {v2 : Int32} {v3 : Int32} {uA : sx_C} {res : Int32 × sx_C} (h : f_X1_holderByChance N uN v1 v2 v3 uA = some res) : sx_Runs D b K yX1_holderByChance YX1_holderByChance (sx_rm 4) [.ref (b + 32), .int v1, .int v2, .int v3] (sx_hp b uG uN uD uR uF uP uL uT uA uM uH xA xB xC xD xE xF xG xH xI xJ xK xL uO G) (sx_Ex (some (.int res.1)) (sx_hp b uG uN uD uR uF uP uL uT (res.2) uM uH xA xB xC xD xE xF xG xH xI xJ xK xL uO G)) := by
  rw [f_X1_holderByChance] at h
  refine sx_run (by decide +kernel) rfl rfl (Nat.le_of_ble_eq_true rfl) ?_
  refine at_iload_n 1 dX1_holderByChance_0 rfl ?_
  refine at_istore [(0, .ref (b + 32)), (1, .int v1), (2, .int v2), (3, .int v3), (4, .int v1)] dX1_holderByChance_1 (Nat.le_of_ble_eq_true rfl) rfl ?_
  refine at_iload_n 2 dX1_holderByChance_3 rfl ?_
  refine at_istore [(0, .ref (b + 32)), (1, .int v1), (2, .int v2), (3, .int v3), (4, .int v1), (5, .int v2)] dX1_holderByChance_4 (Nat.le_of_ble_eq_true rfl) rfl ?_
  refine at_iload_n 3 dX1_holderByChance_6 rfl ?_
  refine at_istore [(0, .ref (b + 32)), (1, .int v1), (2, .int v2), (3, .int v3), (4, .int v1), (5, .int v2), (6, .int v3)] dX1_holderByChance_7 (Nat.le_of_ble_eq_true rfl) rfl ?_
  refine at_iconst 0 dX1_holderByChance_9 ic_0 ?_
  refine at_istore [(0, .ref (b + 32)), (1, .int v1), (2, .int v2), (3, .int v3), (4, .int v1), (5, .int v2), (6, .int v3), (7, .int 0)] dX1_holderByChance_10 (Nat.le_of_ble_eq_true rfl) rfl ?_
  refine at_sub [0, 4, 5, 6, 7] [(0, .ref (b + 32)), (4, .int v1), (5, .int v2), (6, .int v3), (7, .int 0)] rfl ?_
  exact t_X1_holderByChance_12 hK N _ N _ _ _ _ _ h
set_option maxRecDepth 100000 in
theorem t_X1_joinedByChance_40 {D : va_G} {b : Nat} {K : State → Heap → Prop} {sa : Nat → Nat} (hK : sx_Kk b K sa) (N : Nat) {k13 : Int32 → Int32 → Int32 → Int32 → Int32 → Int32 → sx_C → Option (Int32 × sx_C)} {uG uN uD uR uF uP uL uT uM uH xA xB xC xD xE xF xG xH xI xJ xK xL uO : sx_C} {G : sx_H} (res : Int32 × sx_C) (hk13 : ∀ (v1 : Int32) (v2 : Int32) (v3 : Int32) (v5 : Int32) (v6 : Int32) (v7 : Int32) (uA : sx_C), k13 v1 v2 v3 v5 v6 v7 uA = some res → sx_At D b K YX1_joinedByChance (sx_rm 5) (sx_Ex (some (.int res.1)) (sx_hp b uG uN uD uR uF uP uL uT (res.2) uM uH xA xB xC xD xE xF xG xH xI xJ xK xL uO G)) 13 [(0, .ref (b + 32)), (1, .int v1), (2, .int v2), (3, .int v3), (5, .int v5), (6, .int v6), (7, .int v7)] [] (sx_hp b uG uN uD uR uF uP uL uT uA uM uH xA xB xC xD xE xF xG xH xI xJ xK xL uO G) 0 0) : ∀ (v1 : Int32) (v2 : Int32) (v3 : Int32) (v5 : Int32) (v6 : Int32) (v7 : Int32) (uA : sx_C), f_X1_joinedByChance_40 N k13 uN v1 v2 v3 v5 v6 v7 uA = some res → sx_At D b K YX1_joinedByChance (sx_rm 5) (sx_Ex (some (.int res.1)) (sx_hp b uG uN uD uR uF uP uL uT (res.2) uM uH xA xB xC xD xE xF xG xH xI xJ xK xL uO G)) 40 [(0, .ref (b + 32)), (1, .int v1), (2, .int v2), (3, .int v3), (5, .int v5), (6, .int v6), (7, .int v7)] [] (sx_hp b uG uN uD uR uF uP uL uT uA uM uH xA xB xC xD xE xF xG xH xI xJ xK xL uO G) 0 0 := by
  intro v1 v2 v3 v5 v6 v7 uA h
  rw [f_X1_joinedByChance_40] at h
  refine at_iinc 6 1 [(0, .ref (b + 32)), (1, .int v1), (2, .int v2), (3, .int v3), (5, .int v5), (6, .int v6), (7, .int (v7 + 1))] dX1_joinedByChance_40 rfl ic_1 (Nat.le_of_ble_eq_true rfl) rfl ?_
  refine at_goto 13 dX1_joinedByChance_43 (by decide) ?_
  exact hk13 _ _ _ _ _ _ _ h
set_option maxRecDepth 100000 in
theorem t_X1_joinedByChance_13 {D : va_G} {b : Nat} {K : State → Heap → Prop} {sa : Nat → Nat} (hK : sx_Kk b K sa) (N : Nat) {uG uN uD uR uF uP uL uT uM uH xA xB xC xD xE xF xG xH xI xJ xK xL uO : sx_C} {G : sx_H} (res : Int32 × sx_C) : ∀ (n0 : Nat) (v1 : Int32) (v2 : Int32) (v3 : Int32) (v5 : Int32) (v6 : Int32) (v7 : Int32) (uA : sx_C), f_X1_joinedByChance_13 N uN n0 v1 v2 v3 v5 v6 v7 uA = some res → sx_At D b K YX1_joinedByChance (sx_rm 5) (sx_Ex (some (.int res.1)) (sx_hp b uG uN uD uR uF uP uL uT (res.2) uM uH xA xB xC xD xE xF xG xH xI xJ xK xL uO G)) 13 [(0, .ref (b + 32)), (1, .int v1), (2, .int v2), (3, .int v3), (5, .int v5), (6, .int v6), (7, .int v7)] [] (sx_hp b uG uN uD uR uF uP uL uT uA uM uH xA xB xC xD xE xF xG xH xI xJ xK xL uO G) 0 0 := by
  intro n0
  induction n0 with
  | zero => intro _ _ _ _ _ _ _ h; cases h
  | succ n0 ih =>
    intro v1 v2 v3 v5 v6 v7 uA h
    rw [f_X1_joinedByChance_13] at h
    refine at_iload 6 dX1_joinedByChance_13 rfl ?_
    refine at_iload 4 dX1_joinedByChance_15 rfl ?_
    refine at_icmp_ge 46 dX1_joinedByChance_17 (by decide) (fun c1 => ?_) (fun c1 => ?_)
    · rw [if_pos c1] at h
      refine at_iload 5 dX1_joinedByChance_46 rfl ?_
      cases h; exact at_iret rfl (Nat.le_refl _) (Nat.le_refl _) ⟨rfl, rfl⟩ dX1_joinedByChance_48
    · rw [if_neg c1] at h
      refine at_iload 6 dX1_joinedByChance_20 rfl ?_
      refine at_bipush 50 dX1_joinedByChance_22 bp_50 ?_
      refine at_icmp_ge 46 dX1_joinedByChance_24 (by decide) (fun c2 => ?_) (fun c2 => ?_)
      · rw [if_pos c2] at h
        refine at_iload 5 dX1_joinedByChance_46 rfl ?_
        cases h; exact at_iret rfl (Nat.le_refl _) (Nat.le_refl _) ⟨rfl, rfl⟩ dX1_joinedByChance_48
      · rw [if_neg c2] at h
        refine at_aload_n 0 dX1_joinedByChance_27 rfl ?_
        refine at_iload_n 1 dX1_joinedByChance_28 rfl ?_
        refine at_iload_n 2 dX1_joinedByChance_29 rfl ?_
        refine at_iload_n 3 dX1_joinedByChance_30 rfl ?_
        obtain ⟨q3, hq3, h⟩ := sp_bind h
        refine at_callVi (st := []) hK mt_X1_holderByChance ml_X1_109 cl_X1 hg_32 (t_X1_holderByChance hK hq3) rfl rfl (Nat.le_of_ble_eq_true rfl) ⟨Nat.le_of_ble_eq_true rfl, Nat.le_of_ble_eq_true rfl⟩ ⟨Nat.le_refl _, Nat.le_refl _⟩ dX1_joinedByChance_31 ?_
        refine at_if_ne 40 dX1_joinedByChance_34 (by decide) (fun c4 => ?_) (fun c4 => ?_)
        · rw [if_neg c4] at h
          exact t_X1_joinedByChance_40 hK N _ ih _ _ _ _ _ _ _ h
        · rw [if_pos c4] at h
          refine at_iinc 5 1 [(0, .ref (b + 32)), (1, .int v1), (2, .int v2), (3, .int v3), (5, .int v5), (6, .int (v6 + 1)), (7, .int v7)] dX1_joinedByChance_37 rfl ic_1 (Nat.le_of_ble_eq_true rfl) rfl ?_
          exact t_X1_joinedByChance_40 hK N _ ih _ _ _ _ _ _ _ h
set_option maxRecDepth 100000 in
theorem t_X1_joinedByChance {D : va_G} {b : Nat} {K : State → Heap → Prop} {sa : Nat → Nat} (hK : sx_Kk b K sa) {N : Nat} {uG uN uD uR uF uP uL uT uM uH xA xB xC xD xE xF xG xH xI xJ xK xL uO : sx_C} {G : sx_H} {v1 : Int32} {v2 : Int32} {v3 : Int32} {v4 : Int32} {v5 : Int32} {uA : sx_C} {res : Int32 × sx_C} (h : f_X1_joinedByChance N uN v1 v2 v3 v4 v5 uA = some res) : sx_Runs D b K yX1_joinedByChance YX1_joinedByChance (sx_rm 5) [.ref (b + 32), .int v1, .int v2, .int v3, .int v4, .int v5] (sx_hp b uG uN uD uR uF uP uL uT uA uM uH xA xB xC xD xE xF xG xH xI xJ xK xL uO G) (sx_Ex (some (.int res.1)) (sx_hp b uG uN uD uR uF uP uL uT (res.2) uM uH xA xB xC xD xE xF xG xH xI xJ xK xL uO G)) := by
  rw [f_X1_joinedByChance] at h
  refine sx_run (by decide +kernel) rfl rfl (Nat.le_of_ble_eq_true rfl) ?_
  refine at_aload_n 0 dX1_joinedByChance_0 rfl ?_
  refine at_iload 4 dX1_joinedByChance_1 rfl ?_
  refine at_i2l dX1_joinedByChance_3 ?_
  refine at_putf cl_X1 (by decide) fl_X1_18 rfl hg_32 rfl rfl (Nat.le_of_ble_eq_true rfl) hs_32_4 dX1_joinedByChance_4 ?_
  refine at_iconst 0 dX1_joinedByChance_7 ic_0 ?_
  refine at_istore [(0, .ref (b + 32)), (1, .int v1), (2, .int v2), (3, .int v3), (4, .int v4), (5, .int v5), (6, .int 0)] dX1_joinedByChance_8 (Nat.le_of_ble_eq_true rfl) rfl ?_
  refine at_iconst 0 dX1_joinedByChance_10 ic_0 ?_
  refine at_istore [(0, .ref (b + 32)), (1, .int v1), (2, .int v2), (3, .int v3), (4, .int v4), (5, .int v5), (6, .int 0), (7, .int 0)] dX1_joinedByChance_11 (Nat.le_of_ble_eq_true rfl) rfl ?_
  refine at_sub [0, 1, 2, 3, 5, 6, 7] [(0, .ref (b + 32)), (1, .int v1), (2, .int v2), (3, .int v3), (5, .int v5), (6, .int 0), (7, .int 0)] rfl ?_
  exact t_X1_joinedByChance_13 hK N _ N _ _ _ _ _ _ _ h
set_option maxRecDepth 100000 in
theorem t_X11_chance {D : va_G} {b : Nat} {K : State → Heap → Prop} {sa : Nat → Nat} (hK : sx_Kk b K sa) {N : Nat} {uG uN uD uR uF uP uL uT uM uH xA xB xC xD xE xF xG xH xI xJ xK xL uO : sx_C} {G : sx_H} {v1 : Int32} {v2 : Int32} {uA : sx_C} {res : Int32 × sx_C} (h : f_X11_chance N uG uN v1 v2 uA = some res) : sx_Runs D b K yX11_chance YX11_chance (sx_rm 6) [.ref (b + 0), .int v1, .int v2] (sx_hp b uG uN uD uR uF uP uL uT uA uM uH xA xB xC xD xE xF xG xH xI xJ xK xL uO G) (sx_Ex (some (.int res.1)) (sx_hp b uG uN uD uR uF uP uL uT (res.2) uM uH xA xB xC xD xE xF xG xH xI xJ xK xL uO G)) := by
  rw [f_X11_chance] at h
  refine sx_run (by decide +kernel) rfl rfl (Nat.le_of_ble_eq_true rfl) ?_
  refine at_iload_n 1 dX11_chance_0 rfl ?_
  refine at_if_lt 15 dX11_chance_1 (by decide) (fun c1 => ?_) (fun c1 => ?_)
  · rw [if_pos c1] at h
    refine at_iconst (-1) dX11_chance_15 ic_m1 ?_
    cases h; exact at_iret rfl (Nat.le_refl _) (Nat.le_refl _) ⟨rfl, rfl⟩ dX11_chance_16
  · rw [if_neg c1] at h
    refine at_iload_n 2 dX11_chance_4 rfl ?_
    refine at_iconst 1 dX11_chance_5 ic_1 ?_
    refine at_icmp_lt 15 dX11_chance_6 (by decide) (fun c2 => ?_) (fun c2 => ?_)
    · rw [if_pos c2] at h
      refine at_iconst (-1) dX11_chance_15 ic_m1 ?_
      cases h; exact at_iret rfl (Nat.le_refl _) (Nat.le_refl _) ⟨rfl, rfl⟩ dX11_chance_16
    · rw [if_neg c2] at h
      refine at_iload_n 2 dX11_chance_9 rfl ?_
      refine at_bipush 50 dX11_chance_10 bp_50 ?_
      refine at_icmp_le 17 dX11_chance_12 (by decide) (fun c3 => ?_) (fun c3 => ?_)
      · rw [if_pos c3] at h
        refine at_aload_n 0 dX11_chance_17 rfl ?_
        refine at_getf cl_X11 (by decide) fl_X11_76 hg_0 rfl dX11_chance_18 ?_
        refine at_aload_n 0 dX11_chance_21 rfl ?_
        refine at_getf cl_X11 (by decide) fl_X11_91 hg_0 rfl dX11_chance_22 ?_
        refine at_aload_n 0 dX11_chance_25 rfl ?_
        refine at_getf cl_X11 (by decide) fl_X11_94 hg_0 rfl dX11_chance_26 ?_
        refine at_aload_n 0 dX11_chance_29 rfl ?_
        refine at_getf cl_X11 (by decide) fl_X11_97 hg_0 rfl dX11_chance_30 ?_
        refine at_iload_n 1 dX11_chance_33 rfl ?_
        refine at_iload_n 2 dX11_chance_34 rfl ?_
        obtain ⟨q4, hq4, h⟩ := sp_bind h
        refine at_callVi (st := []) hK mt_X1_joinedByChance ml_X11_312 cl_X1 hg_32 (t_X1_joinedByChance hK hq4) rfl rfl (Nat.le_of_ble_eq_true rfl) ⟨Nat.le_of_ble_eq_true rfl, Nat.le_of_ble_eq_true rfl⟩ ⟨Nat.le_refl _, Nat.le_refl _⟩ dX11_chance_35 ?_
        cases h; exact at_iret rfl (Nat.le_refl _) (Nat.le_refl _) ⟨rfl, rfl⟩ dX11_chance_38
      · rw [if_neg c3] at h
        refine at_iconst (-1) dX11_chance_15 ic_m1 ?_
        cases h; exact at_iret rfl (Nat.le_refl _) (Nat.le_refl _) ⟨rfl, rfl⟩ dX11_chance_16
set_option maxRecDepth 100000 in
theorem t_X11_count {D : va_G} {b : Nat} {K : State → Heap → Prop} {sa : Nat → Nat} (hK : sx_Kk b K sa) {uG uN uD uR uF uP uL uT uA uM uH xA xB xC xD xE xF xG xH xI xJ xK xL uO : sx_C} {G : sx_H} {v1 : Int32} {res : Int32} (h : f_X11_count uG uN v1 = some res) : sx_Runs D b K yX11_count YX11_count (sx_rm 0) [.ref (b + 0), .int v1] (sx_hp b uG uN uD uR uF uP uL uT uA uM uH xA xB xC xD xE xF xG xH xI xJ xK xL uO G) (sx_Ex (some (.int res)) (sx_hp b uG uN uD uR uF uP uL uT uA uM uH xA xB xC xD xE xF xG xH xI xJ xK xL uO G)) := by
  rw [f_X11_count] at h
  refine sx_run (by decide +kernel) rfl rfl (Nat.le_of_ble_eq_true rfl) ?_
  refine at_iload_n 1 dX11_count_0 rfl ?_
  by_cases c1 : v1 = 0
  · rw [if_pos c1] at h
    refine at_tbC c1 40 dX11_count_1 (by decide) (by decide) rfl (by decide) ?_
    refine at_aload_n 0 dX11_count_40 rfl ?_
    refine at_getf cl_X11 (by decide) fl_X11_16 hg_0 rfl dX11_count_41 ?_
    refine at_getf cl_X6 (by decide) fl_X11_164 hg_2 rfl dX11_count_44 ?_
    cases h; exact at_iret rfl (Nat.le_refl _) (Nat.le_refl _) ⟨rfl, rfl⟩ dX11_count_47
  · rw [if_neg c1] at h
    by_cases c2 : v1 = 1
    · rw [if_pos c2] at h
      refine at_tbC c2 48 dX11_count_1 (by decide) (by decide) rfl (by decide) ?_
      refine at_aload_n 0 dX11_count_48 rfl ?_
      refine at_getf cl_X11 (by decide) fl_X11_16 hg_0 rfl dX11_count_49 ?_
      refine at_getf cl_X6 (by decide) fl_X11_316 hg_2 rfl dX11_count_52 ?_
      cases h; exact at_iret rfl (Nat.le_refl _) (Nat.le_refl _) ⟨rfl, rfl⟩ dX11_count_55
    · rw [if_neg c2] at h
      by_cases c3 : v1 = 2
      · rw [if_pos c3] at h
        refine at_tbC c3 56 dX11_count_1 (by decide) (by decide) rfl (by decide) ?_
        refine at_aload_n 0 dX11_count_56 rfl ?_
        refine at_getf cl_X11 (by decide) fl_X11_16 hg_0 rfl dX11_count_57 ?_
        refine at_getf cl_X6 (by decide) fl_X11_319 hg_2 rfl dX11_count_60 ?_
        cases h; exact at_iret rfl (Nat.le_refl _) (Nat.le_refl _) ⟨rfl, rfl⟩ dX11_count_63
      · rw [if_neg c3] at h
        by_cases c4 : v1 = 3
        · rw [if_pos c4] at h
          refine at_tbC c4 64 dX11_count_1 (by decide) (by decide) rfl (by decide) ?_
          refine at_aload_n 0 dX11_count_64 rfl ?_
          refine at_getf cl_X11 (by decide) fl_X11_16 hg_0 rfl dX11_count_65 ?_
          refine at_getf cl_X6 (by decide) fl_X11_322 hg_2 rfl dX11_count_68 ?_
          cases h; exact at_iret rfl (Nat.le_refl _) (Nat.le_refl _) ⟨rfl, rfl⟩ dX11_count_71
        · rw [if_neg c4] at h
          by_cases c5 : v1 = 4
          · rw [if_pos c5] at h
            refine at_tbC c5 72 dX11_count_1 (by decide) (by decide) rfl (by decide) ?_
            refine at_aload_n 0 dX11_count_72 rfl ?_
            refine at_getf cl_X11 (by decide) fl_X11_16 hg_0 rfl dX11_count_73 ?_
            refine at_getf cl_X6 (by decide) fl_X11_119 hg_2 rfl dX11_count_76 ?_
            cases h; exact at_iret rfl (Nat.le_refl _) (Nat.le_refl _) ⟨rfl, rfl⟩ dX11_count_79
          · rw [if_neg c5] at h
            by_cases c6 : v1 = 5
            · rw [if_pos c6] at h
              refine at_tbC c6 80 dX11_count_1 (by decide) (by decide) rfl (by decide) ?_
              refine at_aload_n 0 dX11_count_80 rfl ?_
              refine at_getf cl_X11 (by decide) fl_X11_87 hg_0 rfl dX11_count_81 ?_
              cases h; exact at_iret rfl (Nat.le_refl _) (Nat.le_refl _) ⟨rfl, rfl⟩ dX11_count_84
            · rw [if_neg c6] at h
              refine at_tbOut 85 dX11_count_1 (by have e0 := sp_ne (0) (by decide) c1; have e1 := sp_ne (1) (by decide) c2; have e2 := sp_ne (2) (by decide) c3; have e3 := sp_ne (3) (by decide) c4; have e4 := sp_ne (4) (by decide) c5; have e5 := sp_ne (5) (by decide) c6; omega) (by decide) ?_
              refine at_iconst (-1) dX11_count_85 ic_m1 ?_
              cases h; exact at_iret rfl (Nat.le_refl _) (Nat.le_refl _) ⟨rfl, rfl⟩ dX11_count_86
set_option maxRecDepth 100000 in
theorem t_X11_stateOf {D : va_G} {b : Nat} {K : State → Heap → Prop} {sa : Nat → Nat} (hK : sx_Kk b K sa) {uG uN uD uR uF uP uL uT uA uM uH xA xB xC xD xE xF xG xH xI xJ xK xL uO : sx_C} {G : sx_H} {v1 : Int32} {res : Int32} (h : f_X11_stateOf uG uN v1 = some res) : sx_Runs D b K yX11_stateOf YX11_stateOf (sx_rm 4) [.ref (b + 0), .int v1] (sx_hp b uG uN uD uR uF uP uL uT uA uM uH xA xB xC xD xE xF xG xH xI xJ xK xL uO G) (sx_Ex (some (.int res)) (sx_hp b uG uN uD uR uF uP uL uT uA uM uH xA xB xC xD xE xF xG xH xI xJ xK xL uO G)) := by
  rw [f_X11_stateOf] at h
  refine sx_run (by decide +kernel) rfl rfl (Nat.le_of_ble_eq_true rfl) ?_
  refine at_aload_n 0 dX11_stateOf_0 rfl ?_
  refine at_iload_n 1 dX11_stateOf_1 rfl ?_
  obtain ⟨q1, hq1, h⟩ := sp_bind h
  refine at_callVi (st := []) hK mt_X11_isOpen ml_X11_171 cl_X11 hg_0 (t_X11_isOpen hK hq1) rfl rfl (Nat.le_of_ble_eq_true rfl) ⟨Nat.le_of_ble_eq_true rfl, Nat.le_of_ble_eq_true rfl⟩ ⟨Nat.le_refl _, Nat.le_refl _⟩ dX11_stateOf_2 ?_
  refine at_zeq 10 dX11_stateOf_5 (by decide) (fun c2 => ?_) (fun c2 => ?_)
  · rw [if_neg c2] at h
    refine at_aload_n 0 dX11_stateOf_10 rfl ?_
    refine at_getf cl_X11 (by decide) fl_X11_91 hg_0 rfl dX11_stateOf_11 ?_
    refine at_iload_n 1 dX11_stateOf_14 rfl ?_
    obtain ⟨q3, hq3, h⟩ := sp_bind h
    refine at_callSi (st := []) hK mt_X11_has ml_X11_347 (t_X11_has hK hq3) rfl rfl (Nat.le_of_ble_eq_true rfl) ⟨Nat.le_of_ble_eq_true rfl, Nat.le_of_ble_eq_true rfl⟩ ⟨Nat.le_refl _, Nat.le_refl _⟩ dX11_stateOf_15 ?_
    refine at_zeq 25 dX11_stateOf_18 (by decide) (fun c4 => ?_) (fun c4 => ?_)
    · rw [if_neg c4] at h
      refine at_iconst 2 dX11_stateOf_25 ic_2 ?_
      cases h; exact at_iret rfl (Nat.le_refl _) (Nat.le_refl _) ⟨rfl, rfl⟩ dX11_stateOf_26
    · rw [if_pos c4] at h
      refine at_iconst 1 dX11_stateOf_21 ic_1 ?_
      refine at_goto 26 dX11_stateOf_22 (by decide) ?_
      cases h; exact at_iret rfl (Nat.le_refl _) (Nat.le_refl _) ⟨rfl, rfl⟩ dX11_stateOf_26
  · rw [if_pos c2] at h
    refine at_iconst 0 dX11_stateOf_8 ic_0 ?_
    cases h; exact at_iret rfl (Nat.le_refl _) (Nat.le_refl _) ⟨rfl, rfl⟩ dX11_stateOf_9
set_option maxRecDepth 100000 in
theorem t_X12_thrown {D : va_G} {b : Nat} {K : State → Heap → Prop} {sa : Nat → Nat} (hK : sx_Kk b K sa) {uG uN uD uR uF uP uL uT uA uM uH xA xB xC xD xE xF xG xH xI xJ xK xL uO : sx_C} {G : sx_H} {res : Int32} (h : f_X12_thrown xB  = some res) : sx_Runs D b K yX12_thrown YX12_thrown (sx_rm 0) [.ref (b + 38)] (sx_hp b uG uN uD uR uF uP uL uT uA uM uH xA xB xC xD xE xF xG xH xI xJ xK xL uO G) (sx_Ex (some (.int res)) (sx_hp b uG uN uD uR uF uP uL uT uA uM uH xA xB xC xD xE xF xG xH xI xJ xK xL uO G)) := by
  rw [f_X12_thrown] at h
  refine sx_run (by decide +kernel) rfl rfl (Nat.le_of_ble_eq_true rfl) ?_
  refine at_aload_n 0 dX12_thrown_0 rfl ?_
  refine at_getf cl_X12 (by decide) fl_X12_73 hg_38 rfl dX12_thrown_1 ?_
  cases h; exact at_iret rfl (Nat.le_refl _) (Nat.le_refl _) ⟨rfl, rfl⟩ dX12_thrown_4
set_option maxRecDepth 100000 in
theorem t_X12_feed_73 {D : va_G} {b : Nat} {K : State → Heap → Prop} {sa : Nat → Nat} (hK : sx_Kk b K sa) (N : Nat) {k20 : Int32 → Int32 → Int32 → Int32 → Int32 → Int32 → sx_C → sx_C → Option (Int32 × sx_C × sx_C)} {uG uN uD uR uF uP uL uT uA uM uH xC xD xE xF xG xH xI xJ xK xL uO : sx_C} {G : sx_H} (res : Int32 × sx_C × sx_C) (hk20 : ∀ (v1 : Int32) (v2 : Int32) (v3 : Int32) (v4 : Int32) (v5 : Int32) (v6 : Int32) (xA : sx_C) (xB : sx_C), k20 v1 v2 v3 v4 v5 v6 xA xB = some res → sx_At D b K YX12_feed (sx_rm 0) (sx_Ex (some (.int res.1)) (sx_hp b uG uN uD uR uF uP uL uT uA uM uH (res.2.1) (res.2.2) xC xD xE xF xG xH xI xJ xK xL uO G)) 20 [(0, .ref (b + 38)), (1, .int v1), (2, .int v2), (3, .int v3), (4, .int v4), (5, .int v5), (6, .int v6)] [] (sx_hp b uG uN uD uR uF uP uL uT uA uM uH xA xB xC xD xE xF xG xH xI xJ xK xL uO G) 0 0) : ∀ (v1 : Int32) (v2 : Int32) (v3 : Int32) (v4 : Int32) (v5 : Int32) (v6 : Int32) (s0 : Int32) (xA : sx_C) (xB : sx_C), f_X12_feed_73 N k20 v1 v2 v3 v4 v5 v6 s0 xA xB = some res → sx_At D b K YX12_feed (sx_rm 0) (sx_Ex (some (.int res.1)) (sx_hp b uG uN uD uR uF uP uL uT uA uM uH (res.2.1) (res.2.2) xC xD xE xF xG xH xI xJ xK xL uO G)) 73 [(0, .ref (b + 38)), (1, .int v1), (2, .int v2), (3, .int v3), (4, .int v4), (5, .int v5), (6, .int v6)] [.int s0] (sx_hp b uG uN uD uR uF uP uL uT uA uM uH xA xB xC xD xE xF xG xH xI xJ xK xL uO G) 0 0 := by
  intro v1 v2 v3 v4 v5 v6 s0 xA xB h
  rw [f_X12_feed_73] at h
  refine at_istore [(0, .ref (b + 38)), (1, .int v1), (2, .int v2), (3, .int v3), (4, .int v4), (5, .int v5), (6, .int v6), (7, .int s0)] dX12_feed_73 (Nat.le_of_ble_eq_true rfl) rfl ?_
  refine at_aload_n 0 dX12_feed_75 rfl ?_
  refine at_getf cl_X12 (by decide) fl_X12_7 hg_38 rfl dX12_feed_76 ?_
  refine at_aload_n 0 dX12_feed_79 rfl ?_
  refine at_getf cl_X12 (by decide) fl_X12_76 hg_38 rfl dX12_feed_80 ?_
  refine at_iload 6 dX12_feed_83 rfl ?_
  refine at_iadd dX12_feed_85 ?_
  refine at_iload 7 dX12_feed_86 rfl ?_
  refine at_bipush 24 dX12_feed_88 bp_24 ?_
  refine at_bipush 8 dX12_feed_90 bp_8 ?_
  refine at_iload 6 dX12_feed_92 rfl ?_
  refine at_iconst 4 dX12_feed_94 ic_4 ?_
  refine at_irem dX12_feed_95 (by decide) ?_
  refine at_imul dX12_feed_96 ?_
  refine at_isub dX12_feed_97 ?_
  refine at_ishr dX12_feed_98 ?_
  refine at_sipush 255 dX12_feed_99 sh_255 ?_
  refine at_iand dX12_feed_102 ?_
  obtain ⟨hi6, h⟩ := sp_chk h
  refine at_iast hg_39 hi6 hs_39 dX12_feed_103 ?_
  refine at_iinc 6 1 [(0, .ref (b + 38)), (1, .int v1), (2, .int v2), (3, .int v3), (4, .int v4), (5, .int v5), (6, .int (v6 + 1)), (7, .int s0)] dX12_feed_104 rfl ic_1 (Nat.le_of_ble_eq_true rfl) rfl ?_
  refine at_goto 20 dX12_feed_107 (by decide) ?_
  refine at_sub [0, 1, 2, 3, 4, 5, 6] [(0, .ref (b + 38)), (1, .int v1), (2, .int v2), (3, .int v3), (4, .int v4), (5, .int v5), (6, .int (v6 + 1))] rfl ?_
  exact hk20 _ _ _ _ _ _ _ _ h
set_option maxRecDepth 100000 in
theorem t_X12_feed_20 {D : va_G} {b : Nat} {K : State → Heap → Prop} {sa : Nat → Nat} (hK : sx_Kk b K sa) (N : Nat) {uG uN uD uR uF uP uL uT uA uM uH xC xD xE xF xG xH xI xJ xK xL uO : sx_C} {G : sx_H} (res : Int32 × sx_C × sx_C) : ∀ (n0 : Nat) (v1 : Int32) (v2 : Int32) (v3 : Int32) (v4 : Int32) (v5 : Int32) (v6 : Int32) (xA : sx_C) (xB : sx_C), f_X12_feed_20 N n0 v1 v2 v3 v4 v5 v6 xA xB = some res → sx_At D b K YX12_feed (sx_rm 0) (sx_Ex (some (.int res.1)) (sx_hp b uG uN uD uR uF uP uL uT uA uM uH (res.2.1) (res.2.2) xC xD xE xF xG xH xI xJ xK xL uO G)) 20 [(0, .ref (b + 38)), (1, .int v1), (2, .int v2), (3, .int v3), (4, .int v4), (5, .int v5), (6, .int v6)] [] (sx_hp b uG uN uD uR uF uP uL uT uA uM uH xA xB xC xD xE xF xG xH xI xJ xK xL uO G) 0 0 := by
  intro n0
  induction n0 with
  | zero => intro _ _ _ _ _ _ _ _ h; cases h
  | succ n0 ih =>
    intro v1 v2 v3 v4 v5 v6 xA xB h
    rw [f_X12_feed_20] at h
    refine at_iload 6 dX12_feed_20 rfl ?_
    refine at_bipush 20 dX12_feed_22 bp_20 ?_
    refine at_icmp_ge 110 dX12_feed_24 (by decide) (fun c1 => ?_) (fun c1 => ?_)
    · rw [if_pos c1] at h
      refine at_aload_n 0 dX12_feed_110 rfl ?_
      refine at_dup dX12_feed_111 rfl ?_
      refine at_getf cl_X12 (by decide) fl_X12_76 hg_38 rfl dX12_feed_112 ?_
      refine at_bipush 20 dX12_feed_115 bp_20 ?_
      refine at_iadd dX12_feed_117 ?_
      refine at_putf cl_X12 (by decide) fl_X12_76 rfl hg_38 rfl rfl (Nat.le_of_ble_eq_true rfl) hs_38_2 dX12_feed_118 ?_
      refine at_aload_n 0 dX12_feed_121 rfl ?_
      refine at_getf cl_X12 (by decide) fl_X12_76 hg_38 rfl dX12_feed_122 ?_
      cases h; exact at_iret rfl (Nat.le_refl _) (Nat.le_refl _) ⟨rfl, rfl⟩ dX12_feed_125
    · rw [if_neg c1] at h
      refine at_iload 6 dX12_feed_27 rfl ?_
      refine at_iconst 4 dX12_feed_29 ic_4 ?_
      refine at_icmp_ge 37 dX12_feed_30 (by decide) (fun c2 => ?_) (fun c2 => ?_)
      · rw [if_pos c2] at h
        refine at_iload 6 dX12_feed_37 rfl ?_
        refine at_bipush 8 dX12_feed_39 bp_8 ?_
        refine at_icmp_ge 48 dX12_feed_41 (by decide) (fun c3 => ?_) (fun c3 => ?_)
        · rw [if_pos c3] at h
          refine at_iload 6 dX12_feed_48 rfl ?_
          refine at_bipush 12 dX12_feed_50 bp_12 ?_
          refine at_icmp_ge 59 dX12_feed_52 (by decide) (fun c4 => ?_) (fun c4 => ?_)
          · rw [if_pos c4] at h
            refine at_iload 6 dX12_feed_59 rfl ?_
            refine at_bipush 16 dX12_feed_61 bp_16 ?_
            refine at_icmp_ge 71 dX12_feed_63 (by decide) (fun c5 => ?_) (fun c5 => ?_)
            · rw [if_pos c5] at h
              refine at_iload 5 dX12_feed_71 rfl ?_
              exact t_X12_feed_73 hK N _ ih _ _ _ _ _ _ _ _ _ h
            · rw [if_neg c5] at h
              refine at_iload 4 dX12_feed_66 rfl ?_
              refine at_goto 73 dX12_feed_68 (by decide) ?_
              exact t_X12_feed_73 hK N _ ih _ _ _ _ _ _ _ _ _ h
          · rw [if_neg c4] at h
            refine at_iload_n 3 dX12_feed_55 rfl ?_
            refine at_goto 73 dX12_feed_56 (by decide) ?_
            exact t_X12_feed_73 hK N _ ih _ _ _ _ _ _ _ _ _ h
        · rw [if_neg c3] at h
          refine at_iload_n 2 dX12_feed_44 rfl ?_
          refine at_goto 73 dX12_feed_45 (by decide) ?_
          exact t_X12_feed_73 hK N _ ih _ _ _ _ _ _ _ _ _ h
      · rw [if_neg c2] at h
        refine at_iload_n 1 dX12_feed_33 rfl ?_
        refine at_goto 73 dX12_feed_34 (by decide) ?_
        exact t_X12_feed_73 hK N _ ih _ _ _ _ _ _ _ _ _ h
set_option maxRecDepth 100000 in
theorem t_X12_feed {D : va_G} {b : Nat} {K : State → Heap → Prop} {sa : Nat → Nat} (hK : sx_Kk b K sa) {N : Nat} {uG uN uD uR uF uP uL uT uA uM uH xC xD xE xF xG xH xI xJ xK xL uO : sx_C} {G : sx_H} {v1 : Int32} {v2 : Int32} {v3 : Int32} {v4 : Int32} {v5 : Int32} {xA : sx_C} {xB : sx_C} {res : Int32 × sx_C × sx_C} (h : f_X12_feed N v1 v2 v3 v4 v5 xA xB = some res) : sx_Runs D b K yX12_feed YX12_feed (sx_rm 0) [.ref (b + 38), .int v1, .int v2, .int v3, .int v4, .int v5] (sx_hp b uG uN uD uR uF uP uL uT uA uM uH xA xB xC xD xE xF xG xH xI xJ xK xL uO G) (sx_Ex (some (.int res.1)) (sx_hp b uG uN uD uR uF uP uL uT uA uM uH (res.2.1) (res.2.2) xC xD xE xF xG xH xI xJ xK xL uO G)) := by
  rw [f_X12_feed] at h
  refine sx_run (by decide +kernel) rfl rfl (Nat.le_of_ble_eq_true rfl) ?_
  refine at_aload_n 0 dX12_feed_0 rfl ?_
  refine at_iconst 0 dX12_feed_1 ic_0 ?_
  refine at_putf cl_X12 (by decide) fl_X12_73 rfl hg_38 rfl rfl (Nat.le_of_ble_eq_true rfl) hs_38_0 dX12_feed_2 ?_
  refine at_aload_n 0 dX12_feed_5 rfl ?_
  refine at_getf cl_X12 (by decide) fl_X12_76 hg_38 rfl dX12_feed_6 ?_
  refine at_sipush 580 dX12_feed_9 sh_580 ?_
  refine at_icmp_le 17 dX12_feed_12 (by decide) (fun c7 => ?_) (fun c7 => ?_)
  · rw [if_pos c7] at h
    refine at_iconst 0 dX12_feed_17 ic_0 ?_
    refine at_istore [(0, .ref (b + 38)), (1, .int v1), (2, .int v2), (3, .int v3), (4, .int v4), (5, .int v5), (6, .int 0)] dX12_feed_18 (Nat.le_of_ble_eq_true rfl) rfl ?_
    exact t_X12_feed_20 hK N _ N _ _ _ _ _ _ _ _ h
  · rw [if_neg c7] at h
    refine at_iconst (-1) dX12_feed_15 ic_m1 ?_
    cases h; exact at_iret rfl (Nat.le_refl _) (Nat.le_refl _) ⟨rfl, rfl⟩ dX12_feed_16
set_option maxRecDepth 100000 in
theorem t_X12_here {D : va_G} {b : Nat} {K : State → Heap → Prop} {sa : Nat → Nat} (hK : sx_Kk b K sa) {uG uN uD uR uF uP uL uT uA uM uH xA xB xC xD xE xF xG xH xI xJ xK xL uO : sx_C} {G : sx_H} {res : Int32} (h : f_X12_here xA xC  = some res) : sx_Runs D b K yX12_here YX12_here (sx_rm 0) [.ref (b + 38)] (sx_hp b uG uN uD uR uF uP uL uT uA uM uH xA xB xC xD xE xF xG xH xI xJ xK xL uO G) (sx_Ex (some (.int res)) (sx_hp b uG uN uD uR uF uP uL uT uA uM uH xA xB xC xD xE xF xG xH xI xJ xK xL uO G)) := by
  rw [f_X12_here] at h
  refine sx_run (by decide +kernel) rfl rfl (Nat.le_of_ble_eq_true rfl) ?_
  refine at_aload_n 0 dX12_here_0 rfl ?_
  refine at_getf cl_X12 (by decide) fl_X12_79 hg_38 rfl dX12_here_1 ?_
  refine at_aload_n 0 dX12_here_4 rfl ?_
  refine at_getf cl_X12 (by decide) fl_X12_82 hg_38 rfl dX12_here_5 ?_
  refine at_icmp_ge 23 dX12_here_8 (by decide) (fun c1 => ?_) (fun c1 => ?_)
  · rw [if_pos c1] at h
    refine at_iconst (-1) dX12_here_23 ic_m1 ?_
    cases h; exact at_iret rfl (Nat.le_refl _) (Nat.le_refl _) ⟨rfl, rfl⟩ dX12_here_24
  · rw [if_neg c1] at h
    refine at_aload_n 0 dX12_here_11 rfl ?_
    refine at_getf cl_X12 (by decide) fl_X12_7 hg_38 rfl dX12_here_12 ?_
    refine at_aload_n 0 dX12_here_15 rfl ?_
    refine at_getf cl_X12 (by decide) fl_X12_79 hg_38 rfl dX12_here_16 ?_
    obtain ⟨w2, hw2, h⟩ := sp_bind h
    refine at_iald hg_39 hw2 dX12_here_19 ?_
    refine at_goto 24 dX12_here_20 (by decide) ?_
    cases h; exact at_iret rfl (Nat.le_refl _) (Nat.le_refl _) ⟨rfl, rfl⟩ dX12_here_24
set_option maxRecDepth 100000 in
theorem t_X12_isSmall {D : va_G} {b : Nat} {K : State → Heap → Prop} {sa : Nat → Nat} (hK : sx_Kk b K sa) {σ : sx_H} {v0 : Int32} {res : Bool} (h : f_X12_isSmall v0 = some res) : sx_Runs D b K yX12_isSmall YX12_isSmall (sx_rm 0) [.int v0] σ (sx_Ex (some (.int (sp_b res))) σ) := by
  rw [f_X12_isSmall] at h
  refine sx_run (by decide +kernel) rfl rfl (Nat.le_of_ble_eq_true rfl) ?_
  refine at_iload_n 0 dX12_isSmall_0 rfl ?_
  refine at_bipush 97 dX12_isSmall_1 bp_97 ?_
  refine at_icmp_lt 16 dX12_isSmall_3 (by decide) (fun c1 => ?_) (fun c1 => ?_)
  · rw [if_pos c1] at h
    refine at_iconst 0 dX12_isSmall_16 ic_0 ?_
    cases h; exact at_zret rfl rfl (Nat.le_refl _) (Nat.le_refl _) ⟨rfl, rfl⟩ dX12_isSmall_17
  · rw [if_neg c1] at h
    refine at_iload_n 0 dX12_isSmall_6 rfl ?_
    refine at_bipush 122 dX12_isSmall_7 bp_122 ?_
    refine at_icmp_gt 16 dX12_isSmall_9 (by decide) (fun c2 => ?_) (fun c2 => ?_)
    · rw [if_pos c2] at h
      refine at_iconst 0 dX12_isSmall_16 ic_0 ?_
      cases h; exact at_zret rfl rfl (Nat.le_refl _) (Nat.le_refl _) ⟨rfl, rfl⟩ dX12_isSmall_17
    · rw [if_neg c2] at h
      refine at_iconst 1 dX12_isSmall_12 ic_1 ?_
      refine at_goto 17 dX12_isSmall_13 (by decide) ?_
      cases h; exact at_zret rfl rfl (Nat.le_refl _) (Nat.le_refl _) ⟨rfl, rfl⟩ dX12_isSmall_17
set_option maxRecDepth 100000 in
theorem t_X12_isDigit {D : va_G} {b : Nat} {K : State → Heap → Prop} {sa : Nat → Nat} (hK : sx_Kk b K sa) {σ : sx_H} {v0 : Int32} {res : Bool} (h : f_X12_isDigit v0 = some res) : sx_Runs D b K yX12_isDigit YX12_isDigit (sx_rm 0) [.int v0] σ (sx_Ex (some (.int (sp_b res))) σ) := by
  rw [f_X12_isDigit] at h
  refine sx_run (by decide +kernel) rfl rfl (Nat.le_of_ble_eq_true rfl) ?_
  refine at_iload_n 0 dX12_isDigit_0 rfl ?_
  refine at_bipush 48 dX12_isDigit_1 bp_48 ?_
  refine at_icmp_lt 16 dX12_isDigit_3 (by decide) (fun c1 => ?_) (fun c1 => ?_)
  · rw [if_pos c1] at h
    refine at_iconst 0 dX12_isDigit_16 ic_0 ?_
    cases h; exact at_zret rfl rfl (Nat.le_refl _) (Nat.le_refl _) ⟨rfl, rfl⟩ dX12_isDigit_17
  · rw [if_neg c1] at h
    refine at_iload_n 0 dX12_isDigit_6 rfl ?_
    refine at_bipush 57 dX12_isDigit_7 bp_57 ?_
    refine at_icmp_gt 16 dX12_isDigit_9 (by decide) (fun c2 => ?_) (fun c2 => ?_)
    · rw [if_pos c2] at h
      refine at_iconst 0 dX12_isDigit_16 ic_0 ?_
      cases h; exact at_zret rfl rfl (Nat.le_refl _) (Nat.le_refl _) ⟨rfl, rfl⟩ dX12_isDigit_17
    · rw [if_neg c2] at h
      refine at_iconst 1 dX12_isDigit_12 ic_1 ?_
      refine at_goto 17 dX12_isDigit_13 (by decide) ?_
      cases h; exact at_zret rfl rfl (Nat.le_refl _) (Nat.le_refl _) ⟨rfl, rfl⟩ dX12_isDigit_17
set_option maxRecDepth 100000 in
theorem t_X12_wordHere_97 {D : va_G} {b : Nat} {K : State → Heap → Prop} {sa : Nat → Nat} (hK : sx_Kk b K sa) (N : Nat) {k4 : Int32 → Int32 → Option (Int32)} {uG uN uD uR uF uP uL uT uA uM uH xA xB xC xD xE xF xG xH xI xJ xK xL uO : sx_C} {G : sx_H} (res : Int32) (hk4 : ∀ (v1 : Int32) (v2 : Int32), k4 v1 v2 = some res → sx_At D b K YX12_wordHere (sx_rm 4) (sx_Ex (some (.int res)) (sx_hp b uG uN uD uR uF uP uL uT uA uM uH xA xB xC xD xE xF xG xH xI xJ xK xL uO G)) 4 [(0, .ref (b + 38)), (1, .int v1), (2, .int v2)] [] (sx_hp b uG uN uD uR uF uP uL uT uA uM uH xA xB xC xD xE xF xG xH xI xJ xK xL uO G) 0 0) : ∀ (n0 : Nat) (v1 : Int32) (v2 : Int32), f_X12_wordHere_97 N k4 xA xC n0 v1 v2 = some res → sx_At D b K YX12_wordHere (sx_rm 4) (sx_Ex (some (.int res)) (sx_hp b uG uN uD uR uF uP uL uT uA uM uH xA xB xC xD xE xF xG xH xI xJ xK xL uO G)) 97 [(0, .ref (b + 38)), (1, .int v1), (2, .int v2)] [] (sx_hp b uG uN uD uR uF uP uL uT uA uM uH xA xB xC xD xE xF xG xH xI xJ xK xL uO G) 0 0 := by
  intro n0
  induction n0 with
  | zero => intro _ _ h; cases h
  | succ n0 ih =>
    intro v1 v2 h
    rw [f_X12_wordHere_97] at h
    refine at_ldcS (i := 8) (tx := "knots ends line joined gone first join cut ") hK (by decide) dX12_wordHere_97 ?_
    refine at_iload_n 2 dX12_wordHere_99 rfl ?_
    obtain ⟨w11, hw11, h⟩ := sp_bind h
    refine at_schr hK (by decide) ml_X12_115 mk_X12_115 hw11 (Nat.le_of_ble_eq_true rfl) ⟨Nat.le_of_ble_eq_true rfl, Nat.le_of_ble_eq_true rfl⟩ ⟨Nat.le_refl _, Nat.le_refl _⟩ dX12_wordHere_100 ?_
    refine at_bipush 32 dX12_wordHere_103 bp_32 ?_
    refine at_icmp_eq 114 dX12_wordHere_105 (by decide) (fun c12 => ?_) (fun c12 => ?_)
    · rw [if_pos c12] at h
      refine at_iinc 2 1 [(0, .ref (b + 38)), (1, .int v1), (2, .int (v2 + 1))] dX12_wordHere_114 rfl ic_1 (Nat.le_of_ble_eq_true rfl) rfl ?_
      refine at_iinc 1 1 [(0, .ref (b + 38)), (1, .int (v1 + 1)), (2, .int (v2 + 1))] dX12_wordHere_117 rfl ic_1 (Nat.le_of_ble_eq_true rfl) rfl ?_
      refine at_goto 4 dX12_wordHere_120 (by decide) ?_
      exact hk4 _ _ h
    · rw [if_neg c12] at h
      refine at_iinc 2 1 [(0, .ref (b + 38)), (1, .int v1), (2, .int (v2 + 1))] dX12_wordHere_108 rfl ic_1 (Nat.le_of_ble_eq_true rfl) rfl ?_
      refine at_goto 97 dX12_wordHere_111 (by decide) ?_
      exact ih _ _ h
set_option maxRecDepth 100000 in
theorem t_X12_wordHere_69 {D : va_G} {b : Nat} {K : State → Heap → Prop} {sa : Nat → Nat} (hK : sx_Kk b K sa) (N : Nat) {k4 : Int32 → Int32 → Option (Int32)} {uG uN uD uR uF uP uL uT uA uM uH xA xB xC xD xE xF xG xH xI xJ xK xL uO : sx_C} {G : sx_H} (res : Int32) (hk4 : ∀ (v1 : Int32) (v2 : Int32), k4 v1 v2 = some res → sx_At D b K YX12_wordHere (sx_rm 4) (sx_Ex (some (.int res)) (sx_hp b uG uN uD uR uF uP uL uT uA uM uH xA xB xC xD xE xF xG xH xI xJ xK xL uO G)) 4 [(0, .ref (b + 38)), (1, .int v1), (2, .int v2)] [] (sx_hp b uG uN uD uR uF uP uL uT uA uM uH xA xB xC xD xE xF xG xH xI xJ xK xL uO G) 0 0) : ∀ (v1 : Int32) (v2 : Int32) (v3 : Int32), f_X12_wordHere_69 N k4 xA xC v1 v2 v3 = some res → sx_At D b K YX12_wordHere (sx_rm 4) (sx_Ex (some (.int res)) (sx_hp b uG uN uD uR uF uP uL uT uA uM uH xA xB xC xD xE xF xG xH xI xJ xK xL uO G)) 69 [(0, .ref (b + 38)), (1, .int v1), (2, .int v2), (3, .int v3)] [] (sx_hp b uG uN uD uR uF uP uL uT uA uM uH xA xB xC xD xE xF xG xH xI xJ xK xL uO G) 0 0 := by
  intro v1 v2 v3 h
  rw [f_X12_wordHere_69] at h
  refine at_ldcS (i := 8) (tx := "knots ends line joined gone first join cut ") hK (by decide) dX12_wordHere_69 ?_
  refine at_iload_n 2 dX12_wordHere_71 rfl ?_
  refine at_iload_n 3 dX12_wordHere_72 rfl ?_
  refine at_iadd dX12_wordHere_73 ?_
  obtain ⟨w8, hw8, h⟩ := sp_bind h
  refine at_schr hK (by decide) ml_X12_115 mk_X12_115 hw8 (Nat.le_of_ble_eq_true rfl) ⟨Nat.le_of_ble_eq_true rfl, Nat.le_of_ble_eq_true rfl⟩ ⟨Nat.le_refl _, Nat.le_refl _⟩ dX12_wordHere_74 ?_
  refine at_bipush 32 dX12_wordHere_77 bp_32 ?_
  refine at_icmp_ne 97 dX12_wordHere_79 (by decide) (fun c9 => ?_) (fun c9 => ?_)
  · rw [if_neg c9] at h
    refine at_sub [0, 1, 2] [(0, .ref (b + 38)), (1, .int v1), (2, .int v2)] rfl ?_
    exact t_X12_wordHere_97 hK N _ hk4 N _ _ h
  · rw [if_pos c9] at h
    refine at_aload_n 0 dX12_wordHere_82 rfl ?_
    refine at_getf cl_X12 (by decide) fl_X12_89 hg_38 rfl dX12_wordHere_83 ?_
    refine at_iload_n 3 dX12_wordHere_86 rfl ?_
    refine at_iadd dX12_wordHere_87 ?_
    refine at_aload_n 0 dX12_wordHere_88 rfl ?_
    refine at_getf cl_X12 (by decide) fl_X12_79 hg_38 rfl dX12_wordHere_89 ?_
    refine at_icmp_ne 97 dX12_wordHere_92 (by decide) (fun c10 => ?_) (fun c10 => ?_)
    · rw [if_neg c10] at h
      refine at_sub [0, 1, 2] [(0, .ref (b + 38)), (1, .int v1), (2, .int v2)] rfl ?_
      exact t_X12_wordHere_97 hK N _ hk4 N _ _ h
    · rw [if_pos c10] at h
      refine at_iload_n 1 dX12_wordHere_95 rfl ?_
      cases h; exact at_iret rfl (Nat.le_refl _) (Nat.le_refl _) ⟨rfl, rfl⟩ dX12_wordHere_96
set_option maxRecDepth 100000 in
theorem t_X12_wordHere_15 {D : va_G} {b : Nat} {K : State → Heap → Prop} {sa : Nat → Nat} (hK : sx_Kk b K sa) (N : Nat) {k4 : Int32 → Int32 → Option (Int32)} {uG uN uD uR uF uP uL uT uA uM uH xA xB xC xD xE xF xG xH xI xJ xK xL uO : sx_C} {G : sx_H} (res : Int32) (hk4 : ∀ (v1 : Int32) (v2 : Int32), k4 v1 v2 = some res → sx_At D b K YX12_wordHere (sx_rm 4) (sx_Ex (some (.int res)) (sx_hp b uG uN uD uR uF uP uL uT uA uM uH xA xB xC xD xE xF xG xH xI xJ xK xL uO G)) 4 [(0, .ref (b + 38)), (1, .int v1), (2, .int v2)] [] (sx_hp b uG uN uD uR uF uP uL uT uA uM uH xA xB xC xD xE xF xG xH xI xJ xK xL uO G) 0 0) : ∀ (n0 : Nat) (v1 : Int32) (v2 : Int32) (v3 : Int32), f_X12_wordHere_15 N k4 xA xC n0 v1 v2 v3 = some res → sx_At D b K YX12_wordHere (sx_rm 4) (sx_Ex (some (.int res)) (sx_hp b uG uN uD uR uF uP uL uT uA uM uH xA xB xC xD xE xF xG xH xI xJ xK xL uO G)) 15 [(0, .ref (b + 38)), (1, .int v1), (2, .int v2), (3, .int v3)] [] (sx_hp b uG uN uD uR uF uP uL uT uA uM uH xA xB xC xD xE xF xG xH xI xJ xK xL uO G) 0 0 := by
  intro n0
  induction n0 with
  | zero => intro _ _ _ h; cases h
  | succ n0 ih =>
    intro v1 v2 v3 h
    rw [f_X12_wordHere_15] at h
    refine at_ldcS (i := 8) (tx := "knots ends line joined gone first join cut ") hK (by decide) dX12_wordHere_15 ?_
    refine at_iload_n 2 dX12_wordHere_17 rfl ?_
    refine at_iload_n 3 dX12_wordHere_18 rfl ?_
    refine at_iadd dX12_wordHere_19 ?_
    obtain ⟨w2, hw2, h⟩ := sp_bind h
    refine at_schr hK (by decide) ml_X12_115 mk_X12_115 hw2 (Nat.le_of_ble_eq_true rfl) ⟨Nat.le_of_ble_eq_true rfl, Nat.le_of_ble_eq_true rfl⟩ ⟨Nat.le_refl _, Nat.le_refl _⟩ dX12_wordHere_20 ?_
    refine at_bipush 32 dX12_wordHere_23 bp_32 ?_
    refine at_icmp_eq 69 dX12_wordHere_25 (by decide) (fun c3 => ?_) (fun c3 => ?_)
    · rw [if_pos c3] at h
      exact t_X12_wordHere_69 hK N _ hk4 _ _ _ h
    · rw [if_neg c3] at h
      refine at_aload_n 0 dX12_wordHere_28 rfl ?_
      refine at_getf cl_X12 (by decide) fl_X12_89 hg_38 rfl dX12_wordHere_29 ?_
      refine at_iload_n 3 dX12_wordHere_32 rfl ?_
      refine at_iadd dX12_wordHere_33 ?_
      refine at_aload_n 0 dX12_wordHere_34 rfl ?_
      refine at_getf cl_X12 (by decide) fl_X12_79 hg_38 rfl dX12_wordHere_35 ?_
      refine at_icmp_ge 69 dX12_wordHere_38 (by decide) (fun c4 => ?_) (fun c4 => ?_)
      · rw [if_pos c4] at h
        exact t_X12_wordHere_69 hK N _ hk4 _ _ _ h
      · rw [if_neg c4] at h
        refine at_aload_n 0 dX12_wordHere_41 rfl ?_
        refine at_getf cl_X12 (by decide) fl_X12_7 hg_38 rfl dX12_wordHere_42 ?_
        refine at_aload_n 0 dX12_wordHere_45 rfl ?_
        refine at_getf cl_X12 (by decide) fl_X12_89 hg_38 rfl dX12_wordHere_46 ?_
        refine at_iload_n 3 dX12_wordHere_49 rfl ?_
        refine at_iadd dX12_wordHere_50 ?_
        obtain ⟨w5, hw5, h⟩ := sp_bind h
        refine at_iald hg_39 hw5 dX12_wordHere_51 ?_
        refine at_ldcS (i := 8) (tx := "knots ends line joined gone first join cut ") hK (by decide) dX12_wordHere_52 ?_
        refine at_iload_n 2 dX12_wordHere_54 rfl ?_
        refine at_iload_n 3 dX12_wordHere_55 rfl ?_
        refine at_iadd dX12_wordHere_56 ?_
        obtain ⟨w6, hw6, h⟩ := sp_bind h
        refine at_schr hK (by decide) ml_X12_115 mk_X12_115 hw6 (Nat.le_of_ble_eq_true rfl) ⟨Nat.le_of_ble_eq_true rfl, Nat.le_of_ble_eq_true rfl⟩ ⟨Nat.le_refl _, Nat.le_refl _⟩ dX12_wordHere_57 ?_
        refine at_icmp_ne 69 dX12_wordHere_60 (by decide) (fun c7 => ?_) (fun c7 => ?_)
        · rw [if_neg c7] at h
          exact t_X12_wordHere_69 hK N _ hk4 _ _ _ h
        · rw [if_pos c7] at h
          refine at_iinc 3 1 [(0, .ref (b + 38)), (1, .int v1), (2, .int v2), (3, .int (v3 + 1))] dX12_wordHere_63 rfl ic_1 (Nat.le_of_ble_eq_true rfl) rfl ?_
          refine at_goto 15 dX12_wordHere_66 (by decide) ?_
          exact ih _ _ _ h
set_option maxRecDepth 100000 in
theorem t_X12_wordHere_4 {D : va_G} {b : Nat} {K : State → Heap → Prop} {sa : Nat → Nat} (hK : sx_Kk b K sa) (N : Nat) {uG uN uD uR uF uP uL uT uA uM uH xA xB xC xD xE xF xG xH xI xJ xK xL uO : sx_C} {G : sx_H} (res : Int32) : ∀ (n0 : Nat) (v1 : Int32) (v2 : Int32), f_X12_wordHere_4 N xA xC n0 v1 v2 = some res → sx_At D b K YX12_wordHere (sx_rm 4) (sx_Ex (some (.int res)) (sx_hp b uG uN uD uR uF uP uL uT uA uM uH xA xB xC xD xE xF xG xH xI xJ xK xL uO G)) 4 [(0, .ref (b + 38)), (1, .int v1), (2, .int v2)] [] (sx_hp b uG uN uD uR uF uP uL uT uA uM uH xA xB xC xD xE xF xG xH xI xJ xK xL uO G) 0 0 := by
  intro n0
  induction n0 with
  | zero => intro _ _ h; cases h
  | succ n0 ih =>
    intro v1 v2 h
    rw [f_X12_wordHere_4] at h
    refine at_iload_n 2 dX12_wordHere_4 rfl ?_
    refine at_ldcS (i := 8) (tx := "knots ends line joined gone first join cut ") hK (by decide) dX12_wordHere_5 ?_
    refine at_slen hK (by decide) ml_X12_110 mk_X12_110 (Nat.le_of_ble_eq_true rfl) ⟨Nat.le_of_ble_eq_true rfl, Nat.le_of_ble_eq_true rfl⟩ ⟨Nat.le_refl _, Nat.le_refl _⟩ dX12_wordHere_7 ?_
    refine at_icmp_ge 123 dX12_wordHere_10 (by decide) (fun c1 => ?_) (fun c1 => ?_)
    · rw [if_pos c1] at h
      refine at_iconst (-1) dX12_wordHere_123 ic_m1 ?_
      cases h; exact at_iret rfl (Nat.le_refl _) (Nat.le_refl _) ⟨rfl, rfl⟩ dX12_wordHere_124
    · rw [if_neg c1] at h
      refine at_iconst 0 dX12_wordHere_13 ic_0 ?_
      refine at_istore_n [(0, .ref (b + 38)), (1, .int v1), (2, .int v2), (3, .int 0)] dX12_wordHere_14 (Nat.le_of_ble_eq_true rfl) rfl ?_
      exact t_X12_wordHere_15 hK N _ ih N _ _ _ h
set_option maxRecDepth 100000 in
theorem t_X12_wordHere {D : va_G} {b : Nat} {K : State → Heap → Prop} {sa : Nat → Nat} (hK : sx_Kk b K sa) {N : Nat} {uG uN uD uR uF uP uL uT uA uM uH xA xB xC xD xE xF xG xH xI xJ xK xL uO : sx_C} {G : sx_H} {res : Int32} (h : f_X12_wordHere N xA xC  = some res) : sx_Runs D b K yX12_wordHere YX12_wordHere (sx_rm 4) [.ref (b + 38)] (sx_hp b uG uN uD uR uF uP uL uT uA uM uH xA xB xC xD xE xF xG xH xI xJ xK xL uO G) (sx_Ex (some (.int res)) (sx_hp b uG uN uD uR uF uP uL uT uA uM uH xA xB xC xD xE xF xG xH xI xJ xK xL uO G)) := by
  rw [f_X12_wordHere] at h
  refine sx_run (by decide +kernel) rfl rfl (Nat.le_of_ble_eq_true rfl) ?_
  refine at_iconst 0 dX12_wordHere_0 ic_0 ?_
  refine at_istore_n [(0, .ref (b + 38)), (1, .int 0)] dX12_wordHere_1 (Nat.le_of_ble_eq_true rfl) rfl ?_
  refine at_iconst 0 dX12_wordHere_2 ic_0 ?_
  refine at_istore_n [(0, .ref (b + 38)), (1, .int 0), (2, .int 0)] dX12_wordHere_3 (Nat.le_of_ble_eq_true rfl) rfl ?_
  exact t_X12_wordHere_4 hK N _ N _ _ h
