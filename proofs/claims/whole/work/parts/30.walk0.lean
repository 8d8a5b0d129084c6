set_option maxRecDepth 100000 in
theorem t_X11_feedNumber_49 {D : va_G} {b : Nat} {K : State → Heap → Prop} {sa : Nat → Nat} (hK : sx_Kk b K sa) (N : Nat) {k3 : Int32 → Int32 → sx_C → Option (sx_C)} {uN uD uR uF uP uL uT uA uM uH xA xB xC xD xE xF xG xH xI xJ xK xL uO : sx_C} {G : sx_H} (res : sx_C) (hk3 : ∀ (v1 : Int32) (v2 : Int32) (uG : sx_C), k3 v1 v2 uG = some res → sx_At D b K YX11_feedNumber (sx_rm 0) (sx_Ex none (sx_hp b res uN uD uR uF uP uL uT uA uM uH xA xB xC xD xE xF xG xH xI xJ xK xL uO G)) 3 [(0, .ref (b + 0)), (1, .int v1), (2, .int v2)] [] (sx_hp b uG uN uD uR uF uP uL uT uA uM uH xA xB xC xD xE xF xG xH xI xJ xK xL uO G) 0 0) : ∀ (v1 : Int32) (v2 : Int32) (uG : sx_C), f_X11_feedNumber_49 N k3 v1 v2 uG = some res → sx_At D b K YX11_feedNumber (sx_rm 0) (sx_Ex none (sx_hp b res uN uD uR uF uP uL uT uA uM uH xA xB xC xD xE xF xG xH xI xJ xK xL uO G)) 49 [(0, .ref (b + 0)), (1, .int v1), (2, .int v2)] [] (sx_hp b uG uN uD uR uF uP uL uT uA uM uH xA xB xC xD xE xF xG xH xI xJ xK xL uO G) 0 0 := by
  intro v1 v2 uG h
  rw [f_X11_feedNumber_49] at h
  refine at_iinc 2 (-8) [(0, .ref (b + 0)), (1, .int v1), (2, .int (v2 + (-8)))] dX11_feedNumber_49 rfl ic_m8 (Nat.le_of_ble_eq_true rfl) rfl ?_
  refine at_goto 3 dX11_feedNumber_52 (by decide) ?_
  exact hk3 _ _ _ h
set_option maxRecDepth 100000 in
theorem t_X11_feedNumber_3 {D : va_G} {b : Nat} {K : State → Heap → Prop} {sa : Nat → Nat} (hK : sx_Kk b K sa) (N : Nat) {uN uD uR uF uP uL uT uA uM uH xA xB xC xD xE xF xG xH xI xJ xK xL uO : sx_C} {G : sx_H} (res : sx_C) : ∀ (n0 : Nat) (v1 : Int32) (v2 : Int32) (uG : sx_C), f_X11_feedNumber_3 N n0 v1 v2 uG = some res → sx_At D b K YX11_feedNumber (sx_rm 0) (sx_Ex none (sx_hp b res uN uD uR uF uP uL uT uA uM uH xA xB xC xD xE xF xG xH xI xJ xK xL uO G)) 3 [(0, .ref (b + 0)), (1, .int v1), (2, .int v2)] [] (sx_hp b uG uN uD uR uF uP uL uT uA uM uH xA xB xC xD xE xF xG xH xI xJ xK xL uO G) 0 0 := by
  intro n0
  induction n0 with
  | zero => intro _ _ _ h; cases h
  | succ n0 ih =>
    intro v1 v2 uG h
    rw [f_X11_feedNumber_3] at h
    refine at_iload_n 2 dX11_feedNumber_3 rfl ?_
    refine at_if_lt 55 dX11_feedNumber_4 (by decide) (fun c1 => ?_) (fun c1 => ?_)
    · rw [if_pos c1] at h
      cases h; exact at_vret rfl (Nat.le_refl _) (Nat.le_refl _) ⟨rfl, rfl⟩ dX11_feedNumber_55
    · rw [if_neg c1] at h
      refine at_aload_n 0 dX11_feedNumber_7 rfl ?_
      refine at_getf cl_X11 (by decide) fl_X11_87 hg_0 rfl dX11_feedNumber_8 ?_
      refine at_if_lt 49 dX11_feedNumber_11 (by decide) (fun c2 => ?_) (fun c2 => ?_)
      · rw [if_pos c2] at h
        exact t_X11_feedNumber_49 hK N _ ih _ _ _ h
      · rw [if_neg c2] at h
        refine at_aload_n 0 dX11_feedNumber_14 rfl ?_
        refine at_getf cl_X11 (by decide) fl_X11_87 hg_0 rfl dX11_feedNumber_15 ?_
        refine at_aload_n 0 dX11_feedNumber_18 rfl ?_
        refine at_getf cl_X11 (by decide) fl_X11_9 hg_0 rfl dX11_feedNumber_19 ?_
        refine at_alen hg_1 nl_600 dX11_feedNumber_22 ?_
        refine at_icmp_ge 49 dX11_feedNumber_23 (by decide) (fun c3 => ?_) (fun c3 => ?_)
        · rw [if_pos c3] at h
          exact t_X11_feedNumber_49 hK N _ ih _ _ _ h
        · rw [if_neg c3] at h
          refine at_aload_n 0 dX11_feedNumber_26 rfl ?_
          refine at_getf cl_X11 (by decide) fl_X11_9 hg_0 rfl dX11_feedNumber_27 ?_
          refine at_aload_n 0 dX11_feedNumber_30 rfl ?_
          refine at_getf cl_X11 (by decide) fl_X11_87 hg_0 rfl dX11_feedNumber_31 ?_
          refine at_iload_n 1 dX11_feedNumber_34 rfl ?_
          refine at_iload_n 2 dX11_feedNumber_35 rfl ?_
          refine at_iushr dX11_feedNumber_36 ?_
          refine at_i2b dX11_feedNumber_37 ?_
          obtain ⟨hi4, h⟩ := sp_chk h
          refine at_bast hg_1 hi4 hs_1 dX11_feedNumber_38 ?_
          refine at_aload_n 0 dX11_feedNumber_39 rfl ?_
          refine at_dup dX11_feedNumber_40 rfl ?_
          refine at_getf cl_X11 (by decide) fl_X11_87 hg_0 rfl dX11_feedNumber_41 ?_
          refine at_iconst 1 dX11_feedNumber_44 ic_1 ?_
          refine at_iadd dX11_feedNumber_45 ?_
          refine at_putf cl_X11 (by decide) fl_X11_87 rfl hg_0 rfl rfl (Nat.le_of_ble_eq_true rfl) hs_0_11 dX11_feedNumber_46 ?_
          exact t_X11_feedNumber_49 hK N _ ih _ _ _ h
set_option maxRecDepth 100000 in
theorem t_X11_feedNumber {D : va_G} {b : Nat} {K : State → Heap → Prop} {sa : Nat → Nat} (hK : sx_Kk b K sa) {N : Nat} {uN uD uR uF uP uL uT uA uM uH xA xB xC xD xE xF xG xH xI xJ xK xL uO : sx_C} {G : sx_H} {v1 : Int32} {uG : sx_C} {res : sx_C} (h : f_X11_feedNumber N v1 uG = some res) : sx_Runs D b K yX11_feedNumber YX11_feedNumber (sx_rm 0) [.ref (b + 0), .int v1] (sx_hp b uG uN uD uR uF uP uL uT uA uM uH xA xB xC xD xE xF xG xH xI xJ xK xL uO G) (sx_Ex none (sx_hp b res uN uD uR uF uP uL uT uA uM uH xA xB xC xD xE xF xG xH xI xJ xK xL uO G)) := by
  rw [f_X11_feedNumber] at h
  refine sx_run (by decide +kernel) rfl rfl (Nat.le_of_ble_eq_true rfl) ?_
  refine at_bipush 24 dX11_feedNumber_0 bp_24 ?_
  refine at_istore_n [(0, .ref (b + 0)), (1, .int v1), (2, .int 24)] dX11_feedNumber_2 (Nat.le_of_ble_eq_true rfl) rfl ?_
  exact t_X11_feedNumber_3 hK N _ N _ _ _ h
set_option maxRecDepth 100000 in
theorem t_X11_feed {D : va_G} {b : Nat} {K : State → Heap → Prop} {sa : Nat → Nat} (hK : sx_Kk b K sa) {N : Nat} {uN uD uR uF uP uL uT uA uM uH xA xB xC xD xE xF xG xH xI xJ xK xL uO : sx_C} {G : sx_H} {v1 : Int32} {v2 : Int32} {v3 : Int32} {v4 : Int32} {v5 : Int32} {uG : sx_C} {res : Int32 × sx_C} (h : f_X11_feed N v1 v2 v3 v4 v5 uG = some res) : sx_Runs D b K yX11_feed YX11_feed (sx_rm 1) [.ref (b + 0), .int v1, .int v2, .int v3, .int v4, .int v5] (sx_hp b uG uN uD uR uF uP uL uT uA uM uH xA xB xC xD xE xF xG xH xI xJ xK xL uO G) (sx_Ex (some (.int res.1)) (sx_hp b (res.2) uN uD uR uF uP uL uT uA uM uH xA xB xC xD xE xF xG xH xI xJ xK xL uO G)) := by
  rw [f_X11_feed] at h
  refine sx_run (by decide +kernel) rfl rfl (Nat.le_of_ble_eq_true rfl) ?_
  refine at_aload_n 0 dX11_feed_0 rfl ?_
  refine at_getf cl_X11 (by decide) fl_X11_87 hg_0 rfl dX11_feed_1 ?_
  refine at_bipush 20 dX11_feed_4 bp_20 ?_
  refine at_iadd dX11_feed_6 ?_
  refine at_sipush 600 dX11_feed_7 sh_600 ?_
  refine at_icmp_le 15 dX11_feed_10 (by decide) (fun c1 => ?_) (fun c1 => ?_)
  · rw [if_pos c1] at h
    refine at_aload_n 0 dX11_feed_15 rfl ?_
    refine at_iload_n 1 dX11_feed_16 rfl ?_
    obtain ⟨q2, hq2, h⟩ := sp_bind h
    refine at_callVv (st := []) hK mt_X11_feedNumber ml_X11_106 cl_X11 hg_0 (t_X11_feedNumber hK hq2) rfl rfl (Nat.le_of_ble_eq_true rfl) ⟨Nat.le_of_ble_eq_true rfl, Nat.le_of_ble_eq_true rfl⟩ ⟨Nat.le_refl _, Nat.le_refl _⟩ dX11_feed_17 ?_
    refine at_aload_n 0 dX11_feed_20 rfl ?_
    refine at_iload_n 2 dX11_feed_21 rfl ?_
    obtain ⟨q3, hq3, h⟩ := sp_bind h
    refine at_callVv (st := []) hK mt_X11_feedNumber ml_X11_106 cl_X11 hg_0 (t_X11_feedNumber hK hq3) rfl rfl (Nat.le_of_ble_eq_true rfl) ⟨Nat.le_of_ble_eq_true rfl, Nat.le_of_ble_eq_true rfl⟩ ⟨Nat.le_refl _, Nat.le_refl _⟩ dX11_feed_22 ?_
    refine at_aload_n 0 dX11_feed_25 rfl ?_
    refine at_iload_n 3 dX11_feed_26 rfl ?_
    obtain ⟨q4, hq4, h⟩ := sp_bind h
    refine at_callVv (st := []) hK mt_X11_feedNumber ml_X11_106 cl_X11 hg_0 (t_X11_feedNumber hK hq4) rfl rfl (Nat.le_of_ble_eq_true rfl) ⟨Nat.le_of_ble_eq_true rfl, Nat.le_of_ble_eq_true rfl⟩ ⟨Nat.le_refl _, Nat.le_refl _⟩ dX11_feed_27 ?_
    refine at_aload_n 0 dX11_feed_30 rfl ?_
    refine at_iload 4 dX11_feed_31 rfl ?_
    obtain ⟨q5, hq5, h⟩ := sp_bind h
    refine at_callVv (st := []) hK mt_X11_feedNumber ml_X11_106 cl_X11 hg_0 (t_X11_feedNumber hK hq5) rfl rfl (Nat.le_of_ble_eq_true rfl) ⟨Nat.le_of_ble_eq_true rfl, Nat.le_of_ble_eq_true rfl⟩ ⟨Nat.le_refl _, Nat.le_refl _⟩ dX11_feed_33 ?_
    refine at_aload_n 0 dX11_feed_36 rfl ?_
    refine at_iload 5 dX11_feed_37 rfl ?_
    obtain ⟨q6, hq6, h⟩ := sp_bind h
    refine at_callVv (st := []) hK mt_X11_feedNumber ml_X11_106 cl_X11 hg_0 (t_X11_feedNumber hK hq6) rfl rfl (Nat.le_of_ble_eq_true rfl) ⟨Nat.le_of_ble_eq_true rfl, Nat.le_of_ble_eq_true rfl⟩ ⟨Nat.le_refl _, Nat.le_refl _⟩ dX11_feed_39 ?_
    refine at_aload_n 0 dX11_feed_42 rfl ?_
    refine at_getf cl_X11 (by decide) fl_X11_87 hg_0 rfl dX11_feed_43 ?_
    cases h; exact at_iret rfl (Nat.le_refl _) (Nat.le_refl _) ⟨rfl, rfl⟩ dX11_feed_46
  · rw [if_neg c1] at h
    refine at_iconst (-1) dX11_feed_13 ic_m1 ?_
    cases h; exact at_iret rfl (Nat.le_refl _) (Nat.le_refl _) ⟨rfl, rfl⟩ dX11_feed_14
set_option maxRecDepth 100000 in
theorem t_X2_forgetAll {D : va_G} {b : Nat} {K : State → Heap → Prop} {sa : Nat → Nat} (hK : sx_Kk b K sa) {uG uN uD uR uF uP uL uT uA uM xA xB xC xD xE xF xG xH xI xJ xK xL uO : sx_C} {G : sx_H} {uH : sx_C} {res : sx_C} (h : f_X2_forgetAll uH = some res) : sx_Runs D b K yX2_forgetAll YX2_forgetAll (sx_rm 0) [.ref (b + 36)] (sx_hp b uG uN uD uR uF uP uL uT uA uM uH xA xB xC xD xE xF xG xH xI xJ xK xL uO G) (sx_Ex none (sx_hp b uG uN uD uR uF uP uL uT uA uM res xA xB xC xD xE xF xG xH xI xJ xK xL uO G)) := by
  rw [f_X2_forgetAll] at h
  refine sx_run (by decide +kernel) rfl rfl (Nat.le_of_ble_eq_true rfl) ?_
  refine at_aload_n 0 dX2_forgetAll_0 rfl ?_
  refine at_iconst 0 dX2_forgetAll_1 ic_0 ?_
  refine at_putf cl_X2 (by decide) fl_X2_15 rfl hg_36 rfl rfl (Nat.le_of_ble_eq_true rfl) hs_36_1 dX2_forgetAll_2 ?_
  refine at_aload_n 0 dX2_forgetAll_5 rfl ?_
  refine at_iconst 0 dX2_forgetAll_6 ic_0 ?_
  refine at_putf cl_X2 (by decide) fl_X2_19 rfl hg_36 rfl rfl (Nat.le_of_ble_eq_true rfl) hs_36_2 dX2_forgetAll_7 ?_
  cases h; exact at_vret rfl (Nat.le_refl _) (Nat.le_refl _) ⟨rfl, rfl⟩ dX2_forgetAll_10
set_option maxRecDepth 100000 in
theorem t_X4_forgetAll {D : va_G} {b : Nat} {K : State → Heap → Prop} {sa : Nat → Nat} (hK : sx_Kk b K sa) {uG uN uD uR uF uP uT uA uM uH xA xB xC xD xE xF xG xH xI xJ xK xL uO : sx_C} {G : sx_H} {uL : sx_C} {res : sx_C} (h : f_X4_forgetAll uL = some res) : sx_Runs D b K yX4_forgetAll YX4_forgetAll (sx_rm 0) [.ref (b + 17)] (sx_hp b uG uN uD uR uF uP uL uT uA uM uH xA xB xC xD xE xF xG xH xI xJ xK xL uO G) (sx_Ex none (sx_hp b uG uN uD uR uF uP res uT uA uM uH xA xB xC xD xE xF xG xH xI xJ xK xL uO G)) := by
  rw [f_X4_forgetAll] at h
  refine sx_run (by decide +kernel) rfl rfl (Nat.le_of_ble_eq_true rfl) ?_
  refine at_aload_n 0 dX4_forgetAll_0 rfl ?_
  refine at_iconst 0 dX4_forgetAll_1 ic_0 ?_
  refine at_putf cl_X4 (by decide) fl_X4_24 rfl hg_17 rfl rfl (Nat.le_of_ble_eq_true rfl) hs_17_5 dX4_forgetAll_2 ?_
  cases h; exact at_vret rfl (Nat.le_refl _) (Nat.le_refl _) ⟨rfl, rfl⟩ dX4_forgetAll_5
set_option maxRecDepth 100000 in
theorem t_X6_copy {D : va_G} {b : Nat} {K : State → Heap → Prop} {sa : Nat → Nat} (hK : sx_Kk b K sa) {uG uD uR uF uP uL uT uA uM uH xA xB xC xD xE xF xG xH xI xJ xK xL uO : sx_C} {G : sx_H} {uN : sx_C} {res : sx_C} (h : f_X6_copy uD uN = some res) : sx_Runs D b K yX6_copy YX6_copy (sx_rm 2) [.ref (b + 2), .ref (b + 5)] (sx_hp b uG uN uD uR uF uP uL uT uA uM uH xA xB xC xD xE xF xG xH xI xJ xK xL uO G) (sx_Ex none (sx_hp b uG res uD uR uF uP uL uT uA uM uH xA xB xC xD xE xF xG xH xI xJ xK xL uO G)) := by
  rw [f_X6_copy] at h
  refine sx_run (by decide +kernel) rfl rfl (Nat.le_of_ble_eq_true rfl) ?_
  refine at_aload_n 1 dX6_copy_0 rfl ?_
  refine at_getf cl_X6 (by decide) fl_X6_9 hg_5 rfl dX6_copy_1 ?_
  refine at_iconst 0 dX6_copy_4 ic_0 ?_
  refine at_aload_n 0 dX6_copy_5 rfl ?_
  refine at_getf cl_X6 (by decide) fl_X6_9 hg_2 rfl dX6_copy_6 ?_
  refine at_iconst 0 dX6_copy_9 ic_0 ?_
  refine at_bipush 14 dX6_copy_10 bp_14 ?_
  refine at_copyi lk_X6_46 ac_nat ac_stat iz_J10 hg_6 hg_3 (by decide) (by decide) (by decide) (by decide) (by decide) (Nat.le_of_ble_eq_true rfl) (Nat.le_of_ble_eq_true rfl) hw_3 dX6_copy_12 ?_
  refine at_aload_n 1 dX6_copy_15 rfl ?_
  refine at_getf cl_X6 (by decide) fl_X6_15 hg_5 rfl dX6_copy_16 ?_
  refine at_iconst 0 dX6_copy_19 ic_0 ?_
  refine at_aload_n 0 dX6_copy_20 rfl ?_
  refine at_getf cl_X6 (by decide) fl_X6_15 hg_2 rfl dX6_copy_21 ?_
  refine at_iconst 0 dX6_copy_24 ic_0 ?_
  refine at_bipush 14 dX6_copy_25 bp_14 ?_
  refine at_copyi lk_X6_46 ac_nat ac_stat iz_J10 hg_7 hg_4 (by decide) (by decide) (by decide) (by decide) (by decide) (Nat.le_of_ble_eq_true rfl) (Nat.le_of_ble_eq_true rfl) hw_4 dX6_copy_27 ?_
  refine at_aload_n 0 dX6_copy_30 rfl ?_
  refine at_aload_n 1 dX6_copy_31 rfl ?_
  refine at_getf cl_X6 (by decide) fl_X6_21 hg_5 rfl dX6_copy_32 ?_
  refine at_putf cl_X6 (by decide) fl_X6_21 rfl hg_2 rfl rfl (Nat.le_of_ble_eq_true rfl) hs_2_2 dX6_copy_35 ?_
  refine at_aload_n 0 dX6_copy_38 rfl ?_
  refine at_aload_n 1 dX6_copy_39 rfl ?_
  refine at_getf cl_X6 (by decide) fl_X6_25 hg_5 rfl dX6_copy_40 ?_
  refine at_putf cl_X6 (by decide) fl_X6_25 rfl hg_2 rfl rfl (Nat.le_of_ble_eq_true rfl) hs_2_3 dX6_copy_43 ?_
  refine at_aload_n 0 dX6_copy_46 rfl ?_
  refine at_aload_n 1 dX6_copy_47 rfl ?_
  refine at_getf cl_X6 (by decide) fl_X6_28 hg_5 rfl dX6_copy_48 ?_
  refine at_putf cl_X6 (by decide) fl_X6_28 rfl hg_2 rfl rfl (Nat.le_of_ble_eq_true rfl) hs_2_4 dX6_copy_51 ?_
  refine at_aload_n 0 dX6_copy_54 rfl ?_
  refine at_aload_n 1 dX6_copy_55 rfl ?_
  refine at_getf cl_X6 (by decide) fl_X6_31 hg_5 rfl dX6_copy_56 ?_
  refine at_putf cl_X6 (by decide) fl_X6_31 rfl hg_2 rfl rfl (Nat.le_of_ble_eq_true rfl) hs_2_5 dX6_copy_59 ?_
  refine at_aload_n 0 dX6_copy_62 rfl ?_
  refine at_aload_n 1 dX6_copy_63 rfl ?_
  refine at_getf cl_X6 (by decide) fl_X6_34 hg_5 rfl dX6_copy_64 ?_
  refine at_putf cl_X6 (by decide) fl_X6_34 rfl hg_2 rfl rfl (Nat.le_of_ble_eq_true rfl) hs_2_6 dX6_copy_67 ?_
  refine at_aload_n 0 dX6_copy_70 rfl ?_
  refine at_aload_n 1 dX6_copy_71 rfl ?_
  refine at_getf cl_X6 (by decide) fl_X6_37 hg_5 rfl dX6_copy_72 ?_
  refine at_putf cl_X6 (by decide) fl_X6_37 rfl hg_2 rfl rfl (Nat.le_of_ble_eq_true rfl) hs_2_7 dX6_copy_75 ?_
  refine at_aload_n 0 dX6_copy_78 rfl ?_
  refine at_aload_n 1 dX6_copy_79 rfl ?_
  refine at_getf cl_X6 (by decide) fl_X6_40 hg_5 rfl dX6_copy_80 ?_
  refine at_putf cl_X6 (by decide) fl_X6_40 rfl hg_2 rfl rfl (Nat.le_of_ble_eq_true rfl) hs_2_8 dX6_copy_83 ?_
  refine at_aload_n 0 dX6_copy_86 rfl ?_
  refine at_aload_n 1 dX6_copy_87 rfl ?_
  refine at_getf cl_X6 (by decide) fl_X6_43 hg_5 rfl dX6_copy_88 ?_
  refine at_putf cl_X6 (by decide) fl_X6_43 rfl hg_2 rfl rfl (Nat.le_of_ble_eq_true rfl) hs_2_9 dX6_copy_91 ?_
  cases h; exact at_vret rfl (Nat.le_refl _) (Nat.le_refl _) ⟨rfl, rfl⟩ dX6_copy_94
set_option maxRecDepth 100000 in
theorem t_X11_beginDraft {D : va_G} {b : Nat} {K : State → Heap → Prop} {sa : Nat → Nat} (hK : sx_Kk b K sa) {uD uR uF uP uT uA uM xA xB xC xD xE xF xG xH xI xJ xK xL uO : sx_C} {G : sx_H} {uG : sx_C} {uN : sx_C} {uL : sx_C} {uH : sx_C} {res : sx_C × sx_C × sx_C × sx_C} (h : f_X11_beginDraft uD uG uN uL uH = some res) : sx_Runs D b K yX11_beginDraft YX11_beginDraft (sx_rm 3) [.ref (b + 0)] (sx_hp b uG uN uD uR uF uP uL uT uA uM uH xA xB xC xD xE xF xG xH xI xJ xK xL uO G) (sx_Ex none (sx_hp b (res.1) (res.2.1) uD uR uF uP (res.2.2.1) uT uA uM (res.2.2.2) xA xB xC xD xE xF xG xH xI xJ xK xL uO G)) := by
  rw [f_X11_beginDraft] at h
  refine sx_run (by decide +kernel) rfl rfl (Nat.le_of_ble_eq_true rfl) ?_
  refine at_aload_n 0 dX11_beginDraft_0 rfl ?_
  refine at_getf cl_X11 (by decide) fl_X11_16 hg_0 rfl dX11_beginDraft_1 ?_
  refine at_aload_n 0 dX11_beginDraft_4 rfl ?_
  refine at_getf cl_X11 (by decide) fl_X11_20 hg_0 rfl dX11_beginDraft_5 ?_
  obtain ⟨q1, hq1, h⟩ := sp_bind h
  refine at_callVv (st := []) hK mt_X6_copy ml_X11_325 cl_X6 hg_2 (t_X6_copy hK hq1) rfl rfl (Nat.le_of_ble_eq_true rfl) ⟨Nat.le_of_ble_eq_true rfl, Nat.le_of_ble_eq_true rfl⟩ ⟨Nat.le_refl _, Nat.le_refl _⟩ dX11_beginDraft_8 ?_
  refine at_aload_n 0 dX11_beginDraft_11 rfl ?_
  refine at_aload_n 0 dX11_beginDraft_12 rfl ?_
  refine at_getf cl_X11 (by decide) fl_X11_16 hg_0 rfl dX11_beginDraft_13 ?_
  refine at_getf cl_X6 (by decide) fl_X11_328 hg_2 rfl dX11_beginDraft_16 ?_
  refine at_putf cl_X11 (by decide) fl_X11_91 rfl hg_0 rfl rfl (Nat.le_of_ble_eq_true rfl) hs_0_12 dX11_beginDraft_19 ?_
  refine at_aload_n 0 dX11_beginDraft_22 rfl ?_
  refine at_aload_n 0 dX11_beginDraft_23 rfl ?_
  refine at_getf cl_X11 (by decide) fl_X11_16 hg_0 rfl dX11_beginDraft_24 ?_
  refine at_getf cl_X6 (by decide) fl_X11_331 hg_2 rfl dX11_beginDraft_27 ?_
  refine at_putf cl_X11 (by decide) fl_X11_94 rfl hg_0 rfl rfl (Nat.le_of_ble_eq_true rfl) hs_0_13 dX11_beginDraft_30 ?_
  refine at_aload_n 0 dX11_beginDraft_33 rfl ?_
  refine at_aload_n 0 dX11_beginDraft_34 rfl ?_
  refine at_getf cl_X11 (by decide) fl_X11_16 hg_0 rfl dX11_beginDraft_35 ?_
  refine at_getf cl_X6 (by decide) fl_X11_334 hg_2 rfl dX11_beginDraft_38 ?_
  refine at_putf cl_X11 (by decide) fl_X11_97 rfl hg_0 rfl rfl (Nat.le_of_ble_eq_true rfl) hs_0_14 dX11_beginDraft_41 ?_
  refine at_aload_n 0 dX11_beginDraft_44 rfl ?_
  refine at_getf cl_X11 (by decide) fl_X11_83 hg_0 rfl dX11_beginDraft_45 ?_
  obtain ⟨q2, hq2, h⟩ := sp_bind h
  refine at_callVv (st := []) hK mt_X2_forgetAll ml_X11_337 cl_X2 hg_36 (t_X2_forgetAll hK hq2) rfl rfl (Nat.le_of_ble_eq_true rfl) ⟨Nat.le_of_ble_eq_true rfl, Nat.le_of_ble_eq_true rfl⟩ ⟨Nat.le_refl _, Nat.le_refl _⟩ dX11_beginDraft_48 ?_
  refine at_aload_n 0 dX11_beginDraft_51 rfl ?_
  refine at_getf cl_X11 (by decide) fl_X11_60 hg_0 rfl dX11_beginDraft_52 ?_
  obtain ⟨q3, hq3, h⟩ := sp_bind h
  refine at_callVv (st := []) hK mt_X4_forgetAll ml_X11_340 cl_X4 hg_17 (t_X4_forgetAll hK hq3) rfl rfl (Nat.le_of_ble_eq_true rfl) ⟨Nat.le_of_ble_eq_true rfl, Nat.le_of_ble_eq_true rfl⟩ ⟨Nat.le_refl _, Nat.le_refl _⟩ dX11_beginDraft_55 ?_
  cases h; exact at_vret rfl (Nat.le_refl _) (Nat.le_refl _) ⟨rfl, rfl⟩ dX11_beginDraft_58
set_option maxRecDepth 100000 in
theorem t_J9_min_7cf53 {D : va_G} {b : Nat} {K : State → Heap → Prop} {sa : Nat → Nat} (hK : sx_Kk b K sa) {σ : sx_H} {v0 : Int32} {v1 : Int32} {res : Int32} (h : f_J9_min_7cf53 v0 v1 = some res) : sx_Runs D b K yJ9_min_7cf53 YJ9_min_7cf53 (sx_rm 0) [.int v0, .int v1] σ (sx_Ex (some (.int res)) σ) := by
  rw [f_J9_min_7cf53] at h
  refine sx_run (by decide +kernel) rfl rfl (Nat.le_of_ble_eq_true rfl) ?_
  refine at_iload_n 0 dJ9_min_7cf53_0 rfl ?_
  refine at_iload_n 1 dJ9_min_7cf53_1 rfl ?_
  refine at_icmp_gt 9 dJ9_min_7cf53_2 (by decide) (fun c1 => ?_) (fun c1 => ?_)
  · rw [if_pos c1] at h
    refine at_iload_n 1 dJ9_min_7cf53_9 rfl ?_
    cases h; exact at_iret rfl (Nat.le_refl _) (Nat.le_refl _) ⟨rfl, rfl⟩ dJ9_min_7cf53_10
  · rw [if_neg c1] at h
    refine at_iload_n 0 dJ9_min_7cf53_5 rfl ?_
    refine at_goto 10 dJ9_min_7cf53_6 (by decide) ?_
    cases h; exact at_iret rfl (Nat.le_refl _) (Nat.le_refl _) ⟨rfl, rfl⟩ dJ9_min_7cf53_10
set_option maxRecDepth 100000 in
theorem t_X6d_wipe {D : va_G} {b : Nat} {K : State → Heap → Prop} {sa : Nat → Nat} (hK : sx_Kk b K sa) {uG uN uR uF uP uL uT uA uM uH xA xB xC xD xE xF xG xH xI xJ xK xL uO : sx_C} {G : sx_H} {uD : sx_C} {res : sx_C} (h : f_X6d_wipe uD = some res) : sx_Runs D b K yX6_wipe YX6_wipe (sx_rm 0) [.ref (b + 5)] (sx_hp b uG uN uD uR uF uP uL uT uA uM uH xA xB xC xD xE xF xG xH xI xJ xK xL uO G) (sx_Ex none (sx_hp b uG uN res uR uF uP uL uT uA uM uH xA xB xC xD xE xF xG xH xI xJ xK xL uO G)) := by
  rw [f_X6d_wipe] at h
  refine sx_run (by decide +kernel) rfl rfl (Nat.le_of_ble_eq_true rfl) ?_
  refine at_aload_n 0 dX6_wipe_0 rfl ?_
  refine at_iconst 2 dX6_wipe_1 ic_2 ?_
  refine at_putf cl_X6 (by decide) fl_X6_21 rfl hg_5 rfl rfl (Nat.le_of_ble_eq_true rfl) hs_5_2 dX6_wipe_2 ?_
  refine at_aload_n 0 dX6_wipe_5 rfl ?_
  refine at_iconst 0 dX6_wipe_6 ic_0 ?_
  refine at_putf cl_X6 (by decide) fl_X6_25 rfl hg_5 rfl rfl (Nat.le_of_ble_eq_true rfl) hs_5_3 dX6_wipe_7 ?_
  refine at_aload_n 0 dX6_wipe_10 rfl ?_
  refine at_iconst 1 dX6_wipe_11 ic_1 ?_
  refine at_putf cl_X6 (by decide) fl_X6_28 rfl hg_5 rfl rfl (Nat.le_of_ble_eq_true rfl) hs_5_4 dX6_wipe_12 ?_
  refine at_aload_n 0 dX6_wipe_15 rfl ?_
  refine at_iconst 0 dX6_wipe_16 ic_0 ?_
  refine at_putf cl_X6 (by decide) fl_X6_31 rfl hg_5 rfl rfl (Nat.le_of_ble_eq_true rfl) hs_5_5 dX6_wipe_17 ?_
  refine at_aload_n 0 dX6_wipe_20 rfl ?_
  refine at_iconst 0 dX6_wipe_21 ic_0 ?_
  refine at_putf cl_X6 (by decide) fl_X6_34 rfl hg_5 rfl rfl (Nat.le_of_ble_eq_true rfl) hs_5_6 dX6_wipe_22 ?_
  refine at_aload_n 0 dX6_wipe_25 rfl ?_
  refine at_iconst 0 dX6_wipe_26 ic_0 ?_
  refine at_putf cl_X6 (by decide) fl_X6_37 rfl hg_5 rfl rfl (Nat.le_of_ble_eq_true rfl) hs_5_7 dX6_wipe_27 ?_
  refine at_aload_n 0 dX6_wipe_30 rfl ?_
  refine at_iconst 0 dX6_wipe_31 ic_0 ?_
  refine at_putf cl_X6 (by decide) fl_X6_40 rfl hg_5 rfl rfl (Nat.le_of_ble_eq_true rfl) hs_5_8 dX6_wipe_32 ?_
  refine at_aload_n 0 dX6_wipe_35 rfl ?_
  refine at_iconst 1 dX6_wipe_36 ic_1 ?_
  refine at_putf cl_X6 (by decide) fl_X6_43 rfl hg_5 rfl rfl (Nat.le_of_ble_eq_true rfl) hs_5_9 dX6_wipe_37 ?_
  cases h; exact at_vret rfl (Nat.le_refl _) (Nat.le_refl _) ⟨rfl, rfl⟩ dX6_wipe_40
set_option maxRecDepth 100000 in
theorem t_X9_refuse {D : va_G} {b : Nat} {K : State → Heap → Prop} {sa : Nat → Nat} (hK : sx_Kk b K sa) {uG uN uD uF uP uL uT uA uM uH xA xB xC xD xE xF xG xH xI xJ xK xL uO : sx_C} {G : sx_H} {v1 : Int32} {uR : sx_C} {res : Bool × sx_C} (h : f_X9_refuse v1 uR = some res) : sx_Runs D b K yX9_refuse YX9_refuse (sx_rm 0) [.ref (b + 8), .int v1] (sx_hp b uG uN uD uR uF uP uL uT uA uM uH xA xB xC xD xE xF xG xH xI xJ xK xL uO G) (sx_Ex (some (.int (sp_b res.1))) (sx_hp b uG uN uD (res.2) uF uP uL uT uA uM uH xA xB xC xD xE xF xG xH xI xJ xK xL uO G)) := by
  rw [f_X9_refuse] at h
  refine sx_run (by decide +kernel) rfl rfl (Nat.le_of_ble_eq_true rfl) ?_
  refine at_aload_n 0 dX9_refuse_0 rfl ?_
  refine at_iload_n 1 dX9_refuse_1 rfl ?_
  refine at_putf cl_X9 (by decide) fl_X9_40 rfl hg_8 rfl rfl (Nat.le_of_ble_eq_true rfl) hs_8_11 dX9_refuse_2 ?_
  refine at_aload_n 0 dX9_refuse_5 rfl ?_
  refine at_aload_n 0 dX9_refuse_6 rfl ?_
  refine at_getf cl_X9 (by decide) fl_X9_21 hg_8 rfl dX9_refuse_7 ?_
  refine at_putf cl_X9 (by decide) fl_X9_43 rfl hg_8 rfl rfl (Nat.le_of_ble_eq_true rfl) hs_8_12 dX9_refuse_10 ?_
  refine at_iconst 0 dX9_refuse_13 ic_0 ?_
  cases h; exact at_zret rfl rfl (Nat.le_refl _) (Nat.le_refl _) ⟨rfl, rfl⟩ dX9_refuse_14
set_option maxRecDepth 100000 in
theorem t_X9_byteAt {D : va_G} {b : Nat} {K : State → Heap → Prop} {sa : Nat → Nat} (hK : sx_Kk b K sa) {uG uN uD uR uF uP uL uT uA uM uH xA xB xC xD xE xF xG xH xI xJ xK xL uO : sx_C} {G : sx_H} {v1 : Int32} {res : Int32} (h : f_X9_byteAt uG v1 = some res) : sx_Runs D b K yX9_byteAt YX9_byteAt (sx_rm 0) [.ref (b + 8), .int v1] (sx_hp b uG uN uD uR uF uP uL uT uA uM uH xA xB xC xD xE xF xG xH xI xJ xK xL uO G) (sx_Ex (some (.int res)) (sx_hp b uG uN uD uR uF uP uL uT uA uM uH xA xB xC xD xE xF xG xH xI xJ xK xL uO G)) := by
  rw [f_X9_byteAt] at h
  refine sx_run (by decide +kernel) rfl rfl (Nat.le_of_ble_eq_true rfl) ?_
  refine at_iload_n 1 dX9_byteAt_0 rfl ?_
  refine at_if_lt 26 dX9_byteAt_1 (by decide) (fun c1 => ?_) (fun c1 => ?_)
  · rw [if_pos c1] at h
    refine at_iconst 0 dX9_byteAt_26 ic_0 ?_
    cases h; exact at_iret rfl (Nat.le_refl _) (Nat.le_refl _) ⟨rfl, rfl⟩ dX9_byteAt_27
  · rw [if_neg c1] at h
    refine at_iload_n 1 dX9_byteAt_4 rfl ?_
    refine at_aload_n 0 dX9_byteAt_5 rfl ?_
    refine at_getf cl_X9 (by decide) fl_X9_46 hg_8 rfl dX9_byteAt_6 ?_
    refine at_alen hg_1 nl_600 dX9_byteAt_9 ?_
    refine at_icmp_ge 26 dX9_byteAt_10 (by decide) (fun c2 => ?_) (fun c2 => ?_)
    · rw [if_pos c2] at h
      refine at_iconst 0 dX9_byteAt_26 ic_0 ?_
      cases h; exact at_iret rfl (Nat.le_refl _) (Nat.le_refl _) ⟨rfl, rfl⟩ dX9_byteAt_27
    · rw [if_neg c2] at h
      refine at_aload_n 0 dX9_byteAt_13 rfl ?_
      refine at_getf cl_X9 (by decide) fl_X9_46 hg_8 rfl dX9_byteAt_14 ?_
      refine at_iload_n 1 dX9_byteAt_17 rfl ?_
      obtain ⟨w3, hw3, h⟩ := sp_bind h
      refine at_bald hg_1 hw3 dX9_byteAt_18 ?_
      refine at_sipush 255 dX9_byteAt_19 sh_255 ?_
      refine at_iand dX9_byteAt_22 ?_
      refine at_goto 27 dX9_byteAt_23 (by decide) ?_
      cases h; exact at_iret rfl (Nat.le_refl _) (Nat.le_refl _) ⟨rfl, rfl⟩ dX9_byteAt_27
set_option maxRecDepth 100000 in
theorem t_X9_isBlank {D : va_G} {b : Nat} {K : State → Heap → Prop} {sa : Nat → Nat} (hK : sx_Kk b K sa) {σ : sx_H} {v0 : Int32} {res : Bool} (h : f_X9_isBlank v0 = some res) : sx_Runs D b K yX9_isBlank YX9_isBlank (sx_rm 0) [.int v0] σ (sx_Ex (some (.int (sp_b res))) σ) := by
  rw [f_X9_isBlank] at h
  refine sx_run (by decide +kernel) rfl rfl (Nat.le_of_ble_eq_true rfl) ?_
  refine at_iload_n 0 dX9_isBlank_0 rfl ?_
  refine at_bipush 10 dX9_isBlank_1 bp_10 ?_
  refine at_icmp_eq 12 dX9_isBlank_3 (by decide) (fun c1 => ?_) (fun c1 => ?_)
  · rw [if_pos c1] at h
    refine at_iconst 1 dX9_isBlank_12 ic_1 ?_
    refine at_goto 17 dX9_isBlank_13 (by decide) ?_
    cases h; exact at_zret rfl rfl (Nat.le_refl _) (Nat.le_refl _) ⟨rfl, rfl⟩ dX9_isBlank_17
  · rw [if_neg c1] at h
    refine at_iload_n 0 dX9_isBlank_6 rfl ?_
    refine at_bipush 32 dX9_isBlank_7 bp_32 ?_
    refine at_icmp_ne 16 dX9_isBlank_9 (by decide) (fun c2 => ?_) (fun c2 => ?_)
    · rw [if_neg c2] at h
      refine at_iconst 0 dX9_isBlank_16 ic_0 ?_
      cases h; exact at_zret rfl rfl (Nat.le_refl _) (Nat.le_refl _) ⟨rfl, rfl⟩ dX9_isBlank_17
    · rw [if_pos c2] at h
      refine at_iconst 1 dX9_isBlank_12 ic_1 ?_
      refine at_goto 17 dX9_isBlank_13 (by decide) ?_
      cases h; exact at_zret rfl rfl (Nat.le_refl _) (Nat.le_refl _) ⟨rfl, rfl⟩ dX9_isBlank_17
set_option maxRecDepth 100000 in
theorem t_X9_isDigit {D : va_G} {b : Nat} {K : State → Heap → Prop} {sa : Nat → Nat} (hK : sx_Kk b K sa) {σ : sx_H} {v0 : Int32} {res : Bool} (h : f_X9_isDigit v0 = some res) : sx_Runs D b K yX9_isDigit YX9_isDigit (sx_rm 0) [.int v0] σ (sx_Ex (some (.int (sp_b res))) σ) := by
  rw [f_X9_isDigit] at h
  refine sx_run (by decide +kernel) rfl rfl (Nat.le_of_ble_eq_true rfl) ?_
  refine at_iload_n 0 dX9_isDigit_0 rfl ?_
  refine at_bipush 48 dX9_isDigit_1 bp_48 ?_
  refine at_icmp_lt 16 dX9_isDigit_3 (by decide) (fun c1 => ?_) (fun c1 => ?_)
  · rw [if_pos c1] at h
    refine at_iconst 0 dX9_isDigit_16 ic_0 ?_
    cases h; exact at_zret rfl rfl (Nat.le_refl _) (Nat.le_refl _) ⟨rfl, rfl⟩ dX9_isDigit_17
  · rw [if_neg c1] at h
    refine at_iload_n 0 dX9_isDigit_6 rfl ?_
    refine at_bipush 57 dX9_isDigit_7 bp_57 ?_
    refine at_icmp_gt 16 dX9_isDigit_9 (by decide) (fun c2 => ?_) (fun c2 => ?_)
    · rw [if_pos c2] at h
      refine at_iconst 0 dX9_isDigit_16 ic_0 ?_
      cases h; exact at_zret rfl rfl (Nat.le_refl _) (Nat.le_refl _) ⟨rfl, rfl⟩ dX9_isDigit_17
    · rw [if_neg c2] at h
      refine at_iconst 1 dX9_isDigit_12 ic_1 ?_
      refine at_goto 17 dX9_isDigit_13 (by decide) ?_
      cases h; exact at_zret rfl rfl (Nat.le_refl _) (Nat.le_refl _) ⟨rfl, rfl⟩ dX9_isDigit_17
set_option maxRecDepth 100000 in
theorem t_X9_isLetter {D : va_G} {b : Nat} {K : State → Heap → Prop} {sa : Nat → Nat} (hK : sx_Kk b K sa) {σ : sx_H} {v0 : Int32} {res : Bool} (h : f_X9_isLetter v0 = some res) : sx_Runs D b K yX9_isLetter YX9_isLetter (sx_rm 0) [.int v0] σ (sx_Ex (some (.int (sp_b res))) σ) := by
  rw [f_X9_isLetter] at h
  refine sx_run (by decide +kernel) rfl rfl (Nat.le_of_ble_eq_true rfl) ?_
  refine at_iload_n 0 dX9_isLetter_0 rfl ?_
  refine at_bipush 97 dX9_isLetter_1 bp_97 ?_
  refine at_icmp_lt 16 dX9_isLetter_3 (by decide) (fun c1 => ?_) (fun c1 => ?_)
  · rw [if_pos c1] at h
    refine at_iconst 0 dX9_isLetter_16 ic_0 ?_
    cases h; exact at_zret rfl rfl (Nat.le_refl _) (Nat.le_refl _) ⟨rfl, rfl⟩ dX9_isLetter_17
  · rw [if_neg c1] at h
    refine at_iload_n 0 dX9_isLetter_6 rfl ?_
    refine at_bipush 122 dX9_isLetter_7 bp_122 ?_
    refine at_icmp_gt 16 dX9_isLetter_9 (by decide) (fun c2 => ?_) (fun c2 => ?_)
    · rw [if_pos c2] at h
      refine at_iconst 0 dX9_isLetter_16 ic_0 ?_
      cases h; exact at_zret rfl rfl (Nat.le_refl _) (Nat.le_refl _) ⟨rfl, rfl⟩ dX9_isLetter_17
    · rw [if_neg c2] at h
      refine at_iconst 1 dX9_isLetter_12 ic_1 ?_
      refine at_goto 17 dX9_isLetter_13 (by decide) ?_
      cases h; exact at_zret rfl rfl (Nat.le_refl _) (Nat.le_refl _) ⟨rfl, rfl⟩ dX9_isLetter_17
set_option maxRecDepth 100000 in
theorem t_X9_takeNumber_67 {D : va_G} {b : Nat} {K : State → Heap → Prop} {sa : Nat → Nat} (hK : sx_Kk b K sa) (N : Nat) {k10 : sx_C → Option (sx_C)} {uG uN uD uF uP uL uT uA uM uH xA xB xC xD xE xF xG xH xI xJ xK xL uO : sx_C} {G : sx_H} (res : sx_C) (hk10 : ∀ (uR : sx_C), k10 uR = some res → sx_At D b K YX9_takeNumber (sx_rm 1) (sx_Ex none (sx_hp b uG uN uD res uF uP uL uT uA uM uH xA xB xC xD xE xF xG xH xI xJ xK xL uO G)) 10 [(0, .ref (b + 8))] [] (sx_hp b uG uN uD uR uF uP uL uT uA uM uH xA xB xC xD xE xF xG xH xI xJ xK xL uO G) 0 0) : ∀ (uR : sx_C), f_X9_takeNumber_67 N k10 uG uR = some res → sx_At D b K YX9_takeNumber (sx_rm 1) (sx_Ex none (sx_hp b uG uN uD res uF uP uL uT uA uM uH xA xB xC xD xE xF xG xH xI xJ xK xL uO G)) 67 [(0, .ref (b + 8))] [] (sx_hp b uG uN uD uR uF uP uL uT uA uM uH xA xB xC xD xE xF xG xH xI xJ xK xL uO G) 0 0 := by
  intro uR h
  rw [f_X9_takeNumber_67] at h
  refine at_aload_n 0 dX9_takeNumber_67 rfl ?_
  refine at_dup dX9_takeNumber_68 rfl ?_
  refine at_getf cl_X9 (by decide) fl_X9_15 hg_8 rfl dX9_takeNumber_69 ?_
  refine at_iconst 1 dX9_takeNumber_72 ic_1 ?_
  refine at_iadd dX9_takeNumber_73 ?_
  refine at_putf cl_X9 (by decide) fl_X9_15 rfl hg_8 rfl rfl (Nat.le_of_ble_eq_true rfl) hs_8_3 dX9_takeNumber_74 ?_
  refine at_goto 10 dX9_takeNumber_77 (by decide) ?_
  exact hk10 _ h
set_option maxRecDepth 100000 in
theorem t_X9_takeNumber_10 {D : va_G} {b : Nat} {K : State → Heap → Prop} {sa : Nat → Nat} (hK : sx_Kk b K sa) (N : Nat) {uG uN uD uF uP uL uT uA uM uH xA xB xC xD xE xF xG xH xI xJ xK xL uO : sx_C} {G : sx_H} (res : sx_C) : ∀ (n0 : Nat) (uR : sx_C), f_X9_takeNumber_10 N uG n0 uR = some res → sx_At D b K YX9_takeNumber (sx_rm 1) (sx_Ex none (sx_hp b uG uN uD res uF uP uL uT uA uM uH xA xB xC xD xE xF xG xH xI xJ xK xL uO G)) 10 [(0, .ref (b + 8))] [] (sx_hp b uG uN uD uR uF uP uL uT uA uM uH xA xB xC xD xE xF xG xH xI xJ xK xL uO G) 0 0 := by
  intro n0
  induction n0 with
  | zero => intro _ h; cases h
  | succ n0 ih =>
    intro uR h
    rw [f_X9_takeNumber_10] at h
    refine at_aload_n 0 dX9_takeNumber_10 rfl ?_
    refine at_getf cl_X9 (by decide) fl_X9_15 hg_8 rfl dX9_takeNumber_11 ?_
    refine at_aload_n 0 dX9_takeNumber_14 rfl ?_
    refine at_getf cl_X9 (by decide) fl_X9_9 hg_8 rfl dX9_takeNumber_15 ?_
    refine at_icmp_ge 80 dX9_takeNumber_18 (by decide) (fun c1 => ?_) (fun c1 => ?_)
    · rw [if_pos c1] at h
      cases h; exact at_vret rfl (Nat.le_refl _) (Nat.le_refl _) ⟨rfl, rfl⟩ dX9_takeNumber_80
    · rw [if_neg c1] at h
      refine at_aload_n 0 dX9_takeNumber_21 rfl ?_
      refine at_aload_n 0 dX9_takeNumber_22 rfl ?_
      refine at_getf cl_X9 (by decide) fl_X9_15 hg_8 rfl dX9_takeNumber_23 ?_
      obtain ⟨q2, hq2, h⟩ := sp_bind h
      refine at_callVi (st := []) hK mt_X9_byteAt ml_X9_140 cl_X9 hg_8 (t_X9_byteAt hK hq2) rfl rfl (Nat.le_of_ble_eq_true rfl) ⟨Nat.le_of_ble_eq_true rfl, Nat.le_of_ble_eq_true rfl⟩ ⟨Nat.le_refl _, Nat.le_refl _⟩ dX9_takeNumber_26 ?_
      obtain ⟨q3, hq3, h⟩ := sp_bind h
      refine at_callSi (st := []) hK mt_X9_isDigit ml_X9_150 (t_X9_isDigit hK hq3) rfl rfl (Nat.le_of_ble_eq_true rfl) ⟨Nat.le_of_ble_eq_true rfl, Nat.le_of_ble_eq_true rfl⟩ ⟨Nat.le_refl _, Nat.le_refl _⟩ dX9_takeNumber_29 ?_
      refine at_zeq 80 dX9_takeNumber_32 (by decide) (fun c4 => ?_) (fun c4 => ?_)
      · rw [if_neg c4] at h
        cases h; exact at_vret rfl (Nat.le_refl _) (Nat.le_refl _) ⟨rfl, rfl⟩ dX9_takeNumber_80
      · rw [if_pos c4] at h
        refine at_aload_n 0 dX9_takeNumber_35 rfl ?_
        refine at_getf cl_X9 (by decide) fl_X9_24 hg_8 rfl dX9_takeNumber_36 ?_
        refine at_ldc kn_X9_156 dX9_takeNumber_39 ?_
        refine at_icmp_ge 67 dX9_takeNumber_41 (by decide) (fun c5 => ?_) (fun c5 => ?_)
        · rw [if_pos c5] at h
          exact t_X9_takeNumber_67 hK N _ ih _ h
        · rw [if_neg c5] at h
          refine at_aload_n 0 dX9_takeNumber_44 rfl ?_
          refine at_aload_n 0 dX9_takeNumber_45 rfl ?_
          refine at_getf cl_X9 (by decide) fl_X9_24 hg_8 rfl dX9_takeNumber_46 ?_
          refine at_bipush 10 dX9_takeNumber_49 bp_10 ?_
          refine at_imul dX9_takeNumber_51 ?_
          refine at_aload_n 0 dX9_takeNumber_52 rfl ?_
          refine at_aload_n 0 dX9_takeNumber_53 rfl ?_
          refine at_getf cl_X9 (by decide) fl_X9_15 hg_8 rfl dX9_takeNumber_54 ?_
          obtain ⟨q6, hq6, h⟩ := sp_bind h
          refine at_callVi (st := [.int ((gi uR 6) * 10), .ref (b + 8)]) hK mt_X9_byteAt ml_X9_140 cl_X9 hg_8 (t_X9_byteAt hK hq6) rfl rfl (Nat.le_of_ble_eq_true rfl) ⟨Nat.le_of_ble_eq_true rfl, Nat.le_of_ble_eq_true rfl⟩ ⟨Nat.le_refl _, Nat.le_refl _⟩ dX9_takeNumber_57 ?_
          refine at_bipush 48 dX9_takeNumber_60 bp_48 ?_
          refine at_isub dX9_takeNumber_62 ?_
          refine at_iadd dX9_takeNumber_63 ?_
          refine at_putf cl_X9 (by decide) fl_X9_24 rfl hg_8 rfl rfl (Nat.le_of_ble_eq_true rfl) hs_8_6 dX9_takeNumber_64 ?_
          exact t_X9_takeNumber_67 hK N _ ih _ h
set_option maxRecDepth 100000 in
theorem t_X9_takeNumber {D : va_G} {b : Nat} {K : State → Heap → Prop} {sa : Nat → Nat} (hK : sx_Kk b K sa) {N : Nat} {uG uN uD uF uP uL uT uA uM uH xA xB xC xD xE xF xG xH xI xJ xK xL uO : sx_C} {G : sx_H} {uR : sx_C} {res : sx_C} (h : f_X9_takeNumber N uG uR = some res) : sx_Runs D b K yX9_takeNumber YX9_takeNumber (sx_rm 1) [.ref (b + 8)] (sx_hp b uG uN uD uR uF uP uL uT uA uM uH xA xB xC xD xE xF xG xH xI xJ xK xL uO G) (sx_Ex none (sx_hp b uG uN uD res uF uP uL uT uA uM uH xA xB xC xD xE xF xG xH xI xJ xK xL uO G)) := by
  rw [f_X9_takeNumber] at h
  refine sx_run (by decide +kernel) rfl rfl (Nat.le_of_ble_eq_true rfl) ?_
  refine at_aload_n 0 dX9_takeNumber_0 rfl ?_
  refine at_iconst 2 dX9_takeNumber_1 ic_2 ?_
  refine at_putf cl_X9 (by decide) fl_X9_18 rfl hg_8 rfl rfl (Nat.le_of_ble_eq_true rfl) hs_8_4 dX9_takeNumber_2 ?_
  refine at_aload_n 0 dX9_takeNumber_5 rfl ?_
  refine at_iconst 0 dX9_takeNumber_6 ic_0 ?_
  refine at_putf cl_X9 (by decide) fl_X9_24 rfl hg_8 rfl rfl (Nat.le_of_ble_eq_true rfl) hs_8_6 dX9_takeNumber_7 ?_
  exact t_X9_takeNumber_10 hK N _ N _ h
set_option maxRecDepth 100000 in
theorem t_X9_step_162 {D : va_G} {b : Nat} {K : State → Heap → Prop} {sa : Nat → Nat} (hK : sx_Kk b K sa) (N : Nat) {uG uN uD uF uP uL uT uA uM uH xA xB xC xD xE xF xG xH xI xJ xK xL uO : sx_C} {G : sx_H} (res : sx_C) : ∀ (s1 : Int32) (uR : sx_C), f_X9_step_162 N uG s1 uR = some res → sx_At D b K YX9_step (sx_rm 2) (sx_Ex none (sx_hp b uG uN uD res uF uP uL uT uA uM uH xA xB xC xD xE xF xG xH xI xJ xK xL uO G)) 162 [(0, .ref (b + 8))] [.int s1, .ref (b + 8)] (sx_hp b uG uN uD uR uF uP uL uT uA uM uH xA xB xC xD xE xF xG xH xI xJ xK xL uO G) 0 0 := by
  intro s1 uR h
  rw [f_X9_step_162] at h
  refine at_putf cl_X9 (by decide) fl_X9_18 rfl hg_8 rfl rfl (Nat.le_of_ble_eq_true rfl) hs_8_4 dX9_step_162 ?_
  refine at_aload_n 0 dX9_step_165 rfl ?_
  refine at_dup dX9_step_166 rfl ?_
  refine at_getf cl_X9 (by decide) fl_X9_15 hg_8 rfl dX9_step_167 ?_
  refine at_iconst 1 dX9_step_170 ic_1 ?_
  refine at_iadd dX9_step_171 ?_
  refine at_putf cl_X9 (by decide) fl_X9_15 rfl hg_8 rfl rfl (Nat.le_of_ble_eq_true rfl) hs_8_3 dX9_step_172 ?_
  cases h; exact at_vret rfl (Nat.le_refl _) (Nat.le_refl _) ⟨rfl, rfl⟩ dX9_step_175
set_option maxRecDepth 100000 in
theorem t_X9_step_84 {D : va_G} {b : Nat} {K : State → Heap → Prop} {sa : Nat → Nat} (hK : sx_Kk b K sa) (N : Nat) {uG uN uD uF uP uL uT uA uM uH xA xB xC xD xE xF xG xH xI xJ xK xL uO : sx_C} {G : sx_H} (res : sx_C) : ∀ (n0 : Nat) (uR : sx_C), f_X9_step_84 N uG n0 uR = some res → sx_At D b K YX9_step (sx_rm 2) (sx_Ex none (sx_hp b uG uN uD res uF uP uL uT uA uM uH xA xB xC xD xE xF xG xH xI xJ xK xL uO G)) 84 [(0, .ref (b + 8))] [] (sx_hp b uG uN uD uR uF uP uL uT uA uM uH xA xB xC xD xE xF xG xH xI xJ xK xL uO G) 0 0 := by
  intro n0
  induction n0 with
  | zero => intro _ h; cases h
  | succ n0 ih =>
    intro uR h
    rw [f_X9_step_84] at h
    refine at_aload_n 0 dX9_step_84 rfl ?_
    refine at_getf cl_X9 (by decide) fl_X9_15 hg_8 rfl dX9_step_85 ?_
    refine at_aload_n 0 dX9_step_88 rfl ?_
    refine at_getf cl_X9 (by decide) fl_X9_9 hg_8 rfl dX9_step_89 ?_
    refine at_icmp_ge 175 dX9_step_92 (by decide) (fun c15 => ?_) (fun c15 => ?_)
    · rw [if_pos c15] at h
      cases h; exact at_vret rfl (Nat.le_refl _) (Nat.le_refl _) ⟨rfl, rfl⟩ dX9_step_175
    · rw [if_neg c15] at h
      refine at_aload_n 0 dX9_step_95 rfl ?_
      refine at_aload_n 0 dX9_step_96 rfl ?_
      refine at_getf cl_X9 (by decide) fl_X9_15 hg_8 rfl dX9_step_97 ?_
      obtain ⟨q16, hq16, h⟩ := sp_bind h
      refine at_callVi (st := []) hK mt_X9_byteAt ml_X9_140 cl_X9 hg_8 (t_X9_byteAt hK hq16) rfl rfl (Nat.le_of_ble_eq_true rfl) ⟨Nat.le_of_ble_eq_true rfl, Nat.le_of_ble_eq_true rfl⟩ ⟨Nat.le_refl _, Nat.le_refl _⟩ dX9_step_100 ?_
      obtain ⟨q17, hq17, h⟩ := sp_bind h
      refine at_callSi (st := []) hK mt_X9_isLetter ml_X9_147 (t_X9_isLetter hK hq17) rfl rfl (Nat.le_of_ble_eq_true rfl) ⟨Nat.le_of_ble_eq_true rfl, Nat.le_of_ble_eq_true rfl⟩ ⟨Nat.le_refl _, Nat.le_refl _⟩ dX9_step_103 ?_
      refine at_zeq 175 dX9_step_106 (by decide) (fun c18 => ?_) (fun c18 => ?_)
      · rw [if_neg c18] at h
        cases h; exact at_vret rfl (Nat.le_refl _) (Nat.le_refl _) ⟨rfl, rfl⟩ dX9_step_175
      · rw [if_pos c18] at h
        refine at_aload_n 0 dX9_step_109 rfl ?_
        refine at_dup dX9_step_110 rfl ?_
        refine at_getf cl_X9 (by decide) fl_X9_15 hg_8 rfl dX9_step_111 ?_
        refine at_iconst 1 dX9_step_114 ic_1 ?_
        refine at_iadd dX9_step_115 ?_
        refine at_putf cl_X9 (by decide) fl_X9_15 rfl hg_8 rfl rfl (Nat.le_of_ble_eq_true rfl) hs_8_3 dX9_step_116 ?_
        refine at_goto 84 dX9_step_119 (by decide) ?_
        exact ih _ h
set_option maxRecDepth 100000 in
theorem t_X9_step_38 {D : va_G} {b : Nat} {K : State → Heap → Prop} {sa : Nat → Nat} (hK : sx_Kk b K sa) (N : Nat) {uG uN uD uF uP uL uT uA uM uH xA xB xC xD xE xF xG xH xI xJ xK xL uO : sx_C} {G : sx_H} (res : sx_C) : ∀ (uR : sx_C), f_X9_step_38 N uG uR = some res → sx_At D b K YX9_step (sx_rm 2) (sx_Ex none (sx_hp b uG uN uD res uF uP uL uT uA uM uH xA xB xC xD xE xF xG xH xI xJ xK xL uO G)) 38 [(0, .ref (b + 8))] [] (sx_hp b uG uN uD uR uF uP uL uT uA uM uH xA xB xC xD xE xF xG xH xI xJ xK xL uO G) 0 0 := by
  intro uR h
  rw [f_X9_step_38] at h
  refine at_aload_n 0 dX9_step_38 rfl ?_
  refine at_aload_n 0 dX9_step_39 rfl ?_
  refine at_getf cl_X9 (by decide) fl_X9_15 hg_8 rfl dX9_step_40 ?_
  refine at_putf cl_X9 (by decide) fl_X9_21 rfl hg_8 rfl rfl (Nat.le_of_ble_eq_true rfl) hs_8_5 dX9_step_43 ?_
  refine at_aload_n 0 dX9_step_46 rfl ?_
  refine at_getf cl_X9 (by decide) fl_X9_15 hg_8 rfl dX9_step_47 ?_
  refine at_aload_n 0 dX9_step_50 rfl ?_
  refine at_getf cl_X9 (by decide) fl_X9_9 hg_8 rfl dX9_step_51 ?_
  refine at_icmp_lt 65 dX9_step_54 (by decide) (fun c5 => ?_) (fun c5 => ?_)
  · rw [if_pos c5] at h
    refine at_aload_n 0 dX9_step_65 rfl ?_
    refine at_aload_n 0 dX9_step_66 rfl ?_
    refine at_getf cl_X9 (by decide) fl_X9_15 hg_8 rfl dX9_step_67 ?_
    obtain ⟨q6, hq6, h⟩ := sp_bind h
    refine at_callVi (st := []) hK mt_X9_byteAt ml_X9_140 cl_X9 hg_8 (t_X9_byteAt hK hq6) rfl rfl (Nat.le_of_ble_eq_true rfl) ⟨Nat.le_of_ble_eq_true rfl, Nat.le_of_ble_eq_true rfl⟩ ⟨Nat.le_refl _, Nat.le_refl _⟩ dX9_step_70 ?_
    obtain ⟨q7, hq7, h⟩ := sp_bind h
    refine at_callSi (st := []) hK mt_X9_isLetter ml_X9_147 (t_X9_isLetter hK hq7) rfl rfl (Nat.le_of_ble_eq_true rfl) ⟨Nat.le_of_ble_eq_true rfl, Nat.le_of_ble_eq_true rfl⟩ ⟨Nat.le_refl _, Nat.le_refl _⟩ dX9_step_73 ?_
    refine at_zeq 122 dX9_step_76 (by decide) (fun c8 => ?_) (fun c8 => ?_)
    · rw [if_neg c8] at h
      refine at_aload_n 0 dX9_step_122 rfl ?_
      refine at_aload_n 0 dX9_step_123 rfl ?_
      refine at_getf cl_X9 (by decide) fl_X9_15 hg_8 rfl dX9_step_124 ?_
      obtain ⟨q9, hq9, h⟩ := sp_bind h
      refine at_callVi (st := []) hK mt_X9_byteAt ml_X9_140 cl_X9 hg_8 (t_X9_byteAt hK hq9) rfl rfl (Nat.le_of_ble_eq_true rfl) ⟨Nat.le_of_ble_eq_true rfl, Nat.le_of_ble_eq_true rfl⟩ ⟨Nat.le_refl _, Nat.le_refl _⟩ dX9_step_127 ?_
      obtain ⟨q10, hq10, h⟩ := sp_bind h
      refine at_callSi (st := []) hK mt_X9_isDigit ml_X9_150 (t_X9_isDigit hK hq10) rfl rfl (Nat.le_of_ble_eq_true rfl) ⟨Nat.le_of_ble_eq_true rfl, Nat.le_of_ble_eq_true rfl⟩ ⟨Nat.le_refl _, Nat.le_refl _⟩ dX9_step_130 ?_
      refine at_zeq 143 dX9_step_133 (by decide) (fun c11 => ?_) (fun c11 => ?_)
      · rw [if_neg c11] at h
        refine at_aload_n 0 dX9_step_143 rfl ?_
        refine at_aload_n 0 dX9_step_144 rfl ?_
        refine at_aload_n 0 dX9_step_145 rfl ?_
        refine at_getf cl_X9 (by decide) fl_X9_15 hg_8 rfl dX9_step_146 ?_
        obtain ⟨q12, hq12, h⟩ := sp_bind h
        refine at_callVi (st := [.ref (b + 8)]) hK mt_X9_byteAt ml_X9_140 cl_X9 hg_8 (t_X9_byteAt hK hq12) rfl rfl (Nat.le_of_ble_eq_true rfl) ⟨Nat.le_of_ble_eq_true rfl, Nat.le_of_ble_eq_true rfl⟩ ⟨Nat.le_refl _, Nat.le_refl _⟩ dX9_step_149 ?_
        refine at_bipush 59 dX9_step_152 bp_59 ?_
        refine at_icmp_ne 161 dX9_step_154 (by decide) (fun c13 => ?_) (fun c13 => ?_)
        · rw [if_neg c13] at h
          refine at_iconst 4 dX9_step_161 ic_4 ?_
          exact t_X9_step_162 hK N _ _ _ h
        · rw [if_pos c13] at h
          refine at_iconst 3 dX9_step_157 ic_3 ?_
          refine at_goto 162 dX9_step_158 (by decide) ?_
          exact t_X9_step_162 hK N _ _ _ h
      · rw [if_pos c11] at h
        refine at_aload_n 0 dX9_step_136 rfl ?_
        obtain ⟨q14, hq14, h⟩ := sp_bind h
        refine at_callVv (st := []) hK mt_X9_takeNumber ml_X9_153 cl_X9 hg_8 (t_X9_takeNumber hK hq14) rfl rfl (Nat.le_of_ble_eq_true rfl) ⟨Nat.le_of_ble_eq_true rfl, Nat.le_of_ble_eq_true rfl⟩ ⟨Nat.le_refl _, Nat.le_refl _⟩ dX9_step_137 ?_
        refine at_goto 175 dX9_step_140 (by decide) ?_
        cases h; exact at_vret rfl (Nat.le_refl _) (Nat.le_refl _) ⟨rfl, rfl⟩ dX9_step_175
    · rw [if_pos c8] at h
      refine at_aload_n 0 dX9_step_79 rfl ?_
      refine at_iconst 1 dX9_step_80 ic_1 ?_
      refine at_putf cl_X9 (by decide) fl_X9_18 rfl hg_8 rfl rfl (Nat.le_of_ble_eq_true rfl) hs_8_4 dX9_step_81 ?_
      exact t_X9_step_84 hK N _ N _ h
  · rw [if_neg c5] at h
    refine at_aload_n 0 dX9_step_57 rfl ?_
    refine at_iconst 0 dX9_step_58 ic_0 ?_
    refine at_putf cl_X9 (by decide) fl_X9_18 rfl hg_8 rfl rfl (Nat.le_of_ble_eq_true rfl) hs_8_4 dX9_step_59 ?_
    refine at_goto 175 dX9_step_62 (by decide) ?_
    cases h; exact at_vret rfl (Nat.le_refl _) (Nat.le_refl _) ⟨rfl, rfl⟩ dX9_step_175
set_option maxRecDepth 100000 in
theorem t_X9_step_0 {D : va_G} {b : Nat} {K : State → Heap → Prop} {sa : Nat → Nat} (hK : sx_Kk b K sa) (N : Nat) {uG uN uD uF uP uL uT uA uM uH xA xB xC xD xE xF xG xH xI xJ xK xL uO : sx_C} {G : sx_H} (res : sx_C) : ∀ (n0 : Nat) (uR : sx_C), f_X9_step_0 N uG n0 uR = some res → sx_At D b K YX9_step (sx_rm 2) (sx_Ex none (sx_hp b uG uN uD res uF uP uL uT uA uM uH xA xB xC xD xE xF xG xH xI xJ xK xL uO G)) 0 [(0, .ref (b + 8))] [] (sx_hp b uG uN uD uR uF uP uL uT uA uM uH xA xB xC xD xE xF xG xH xI xJ xK xL uO G) 0 0 := by
  intro n0
  induction n0 with
  | zero => intro _ h; cases h
  | succ n0 ih =>
    intro uR h
    rw [f_X9_step_0] at h
    refine at_aload_n 0 dX9_step_0 rfl ?_
    refine at_getf cl_X9 (by decide) fl_X9_15 hg_8 rfl dX9_step_1 ?_
    refine at_aload_n 0 dX9_step_4 rfl ?_
    refine at_getf cl_X9 (by decide) fl_X9_9 hg_8 rfl dX9_step_5 ?_
    refine at_icmp_ge 38 dX9_step_8 (by decide) (fun c1 => ?_) (fun c1 => ?_)
    · rw [if_pos c1] at h
      exact t_X9_step_38 hK N _ _ h
    · rw [if_neg c1] at h
      refine at_aload_n 0 dX9_step_11 rfl ?_
      refine at_aload_n 0 dX9_step_12 rfl ?_
      refine at_getf cl_X9 (by decide) fl_X9_15 hg_8 rfl dX9_step_13 ?_
      obtain ⟨q2, hq2, h⟩ := sp_bind h
      refine at_callVi (st := []) hK mt_X9_byteAt ml_X9_140 cl_X9 hg_8 (t_X9_byteAt hK hq2) rfl rfl (Nat.le_of_ble_eq_true rfl) ⟨Nat.le_of_ble_eq_true rfl, Nat.le_of_ble_eq_true rfl⟩ ⟨Nat.le_refl _, Nat.le_refl _⟩ dX9_step_16 ?_
      obtain ⟨q3, hq3, h⟩ := sp_bind h
      refine at_callSi (st := []) hK mt_X9_isBlank ml_X9_144 (t_X9_isBlank hK hq3) rfl rfl (Nat.le_of_ble_eq_true rfl) ⟨Nat.le_of_ble_eq_true rfl, Nat.le_of_ble_eq_true rfl⟩ ⟨Nat.le_refl _, Nat.le_refl _⟩ dX9_step_19 ?_
      refine at_zeq 38 dX9_step_22 (by decide) (fun c4 => ?_) (fun c4 => ?_)
      · rw [if_neg c4] at h
        exact t_X9_step_38 hK N _ _ h
      · rw [if_pos c4] at h
        refine at_aload_n 0 dX9_step_25 rfl ?_
        refine at_dup dX9_step_26 rfl ?_
        refine at_getf cl_X9 (by decide) fl_X9_15 hg_8 rfl dX9_step_27 ?_
        refine at_iconst 1 dX9_step_30 ic_1 ?_
        refine at_iadd dX9_step_31 ?_
        refine at_putf cl_X9 (by decide) fl_X9_15 rfl hg_8 rfl rfl (Nat.le_of_ble_eq_true rfl) hs_8_3 dX9_step_32 ?_
        refine at_goto 0 dX9_step_35 (by decide) ?_
        exact ih _ h
set_option maxRecDepth 100000 in
theorem t_X9_step {D : va_G} {b : Nat} {K : State → Heap → Prop} {sa : Nat → Nat} (hK : sx_Kk b K sa) {N : Nat} {uG uN uD uF uP uL uT uA uM uH xA xB xC xD xE xF xG xH xI xJ xK xL uO : sx_C} {G : sx_H} {uR : sx_C} {res : sx_C} (h : f_X9_step N uG uR = some res) : sx_Runs D b K yX9_step YX9_step (sx_rm 2) [.ref (b + 8)] (sx_hp b uG uN uD uR uF uP uL uT uA uM uH xA xB xC xD xE xF xG xH xI xJ xK xL uO G) (sx_Ex none (sx_hp b uG uN uD res uF uP uL uT uA uM uH xA xB xC xD xE xF xG xH xI xJ xK xL uO G)) := by
  rw [f_X9_step] at h
  refine sx_run (by decide +kernel) rfl rfl (Nat.le_of_ble_eq_true rfl) ?_
  exact t_X9_step_0 hK N _ N _ h
set_option maxRecDepth 100000 in
theorem t_X6d_isKnot {D : va_G} {b : Nat} {K : State → Heap → Prop} {sa : Nat → Nat} (hK : sx_Kk b K sa) {uG uN uD uR uF uP uL uT uA uM uH xA xB xC xD xE xF xG xH xI xJ xK xL uO : sx_C} {G : sx_H} {v1 : Int32} {res : Bool} (h : f_X6d_isKnot uD v1 = some res) : sx_Runs D b K yX6_isKnot YX6_isKnot (sx_rm 0) [.ref (b + 5), .int v1] (sx_hp b uG uN uD uR uF uP uL uT uA uM uH xA xB xC xD xE xF xG xH xI xJ xK xL uO G) (sx_Ex (some (.int (sp_b res))) (sx_hp b uG uN uD uR uF uP uL uT uA uM uH xA xB xC xD xE xF xG xH xI xJ xK xL uO G)) := by
  rw [f_X6d_isKnot] at h
  refine sx_run (by decide +kernel) rfl rfl (Nat.le_of_ble_eq_true rfl) ?_
  refine at_iload_n 1 dX6_isKnot_0 rfl ?_
  refine at_if_lt 16 dX6_isKnot_1 (by decide) (fun c1 => ?_) (fun c1 => ?_)
  · rw [if_pos c1] at h
    refine at_iconst 0 dX6_isKnot_16 ic_0 ?_
    cases h; exact at_zret rfl rfl (Nat.le_refl _) (Nat.le_refl _) ⟨rfl, rfl⟩ dX6_isKnot_17
  · rw [if_neg c1] at h
    refine at_iload_n 1 dX6_isKnot_4 rfl ?_
    refine at_aload_n 0 dX6_isKnot_5 rfl ?_
    refine at_getf cl_X6 (by decide) fl_X6_21 hg_5 rfl dX6_isKnot_6 ?_
    refine at_icmp_ge 16 dX6_isKnot_9 (by decide) (fun c2 => ?_) (fun c2 => ?_)
    · rw [if_pos c2] at h
      refine at_iconst 0 dX6_isKnot_16 ic_0 ?_
      cases h; exact at_zret rfl rfl (Nat.le_refl _) (Nat.le_refl _) ⟨rfl, rfl⟩ dX6_isKnot_17
    · rw [if_neg c2] at h
      refine at_iconst 1 dX6_isKnot_12 ic_1 ?_
      refine at_goto 17 dX6_isKnot_13 (by decide) ?_
      cases h; exact at_zret rfl rfl (Nat.le_refl _) (Nat.le_refl _) ⟨rfl, rfl⟩ dX6_isKnot_17
set_option maxRecDepth 100000 in
theorem t_X9_twoKnots_26 {D : va_G} {b : Nat} {K : State → Heap → Prop} {sa : Nat → Nat} (hK : sx_Kk b K sa) (N : Nat) {uG uN uD uF uP uL uT uA uM uH xA xB xC xD xE xF xG xH xI xJ xK xL uO : sx_C} {G : sx_H} (res : Bool × sx_C) : ∀ (uR : sx_C), f_X9_twoKnots_26 N uG uD uR = some res → sx_At D b K YX9_twoKnots (sx_rm 3) (sx_Ex (some (.int (sp_b res.1))) (sx_hp b uG uN uD (res.2) uF uP uL uT uA uM uH xA xB xC xD xE xF xG xH xI xJ xK xL uO G)) 26 [(0, .ref (b + 8))] [] (sx_hp b uG uN uD uR uF uP uL uT uA uM uH xA xB xC xD xE xF xG xH xI xJ xK xL uO G) 0 0 := by
  intro uR h
  rw [f_X9_twoKnots_26] at h
  refine at_aload_n 0 dX9_twoKnots_26 rfl ?_
  refine at_iconst 1 dX9_twoKnots_27 ic_1 ?_
  obtain ⟨q1, hq1, h⟩ := sp_bind h
  refine at_callVi (st := []) hK mt_X9_refuse ml_X9_78 cl_X9 hg_8 (t_X9_refuse hK hq1) rfl rfl (Nat.le_of_ble_eq_true rfl) ⟨Nat.le_of_ble_eq_true rfl, Nat.le_of_ble_eq_true rfl⟩ ⟨Nat.le_refl _, Nat.le_refl _⟩ dX9_twoKnots_28 ?_
  cases h; exact at_zret rfl (sp_bz _) (Nat.le_refl _) (Nat.le_refl _) ⟨rfl, rfl⟩ dX9_twoKnots_31
set_option maxRecDepth 100000 in
theorem t_X9_twoKnots_66 {D : va_G} {b : Nat} {K : State → Heap → Prop} {sa : Nat → Nat} (hK : sx_Kk b K sa) (N : Nat) {uG uN uD uF uP uL uT uA uM uH xA xB xC xD xE xF xG xH xI xJ xK xL uO : sx_C} {G : sx_H} (res : Bool × sx_C) : ∀ (uR : sx_C), f_X9_twoKnots_66 N uG uD uR = some res → sx_At D b K YX9_twoKnots (sx_rm 3) (sx_Ex (some (.int (sp_b res.1))) (sx_hp b uG uN uD (res.2) uF uP uL uT uA uM uH xA xB xC xD xE xF xG xH xI xJ xK xL uO G)) 66 [(0, .ref (b + 8))] [] (sx_hp b uG uN uD uR uF uP uL uT uA uM uH xA xB xC xD xE xF xG xH xI xJ xK xL uO G) 0 0 := by
  intro uR h
  rw [f_X9_twoKnots_66] at h
  refine at_aload_n 0 dX9_twoKnots_66 rfl ?_
  refine at_iconst 1 dX9_twoKnots_67 ic_1 ?_
  obtain ⟨q2, hq2, h⟩ := sp_bind h
  refine at_callVi (st := []) hK mt_X9_refuse ml_X9_78 cl_X9 hg_8 (t_X9_refuse hK hq2) rfl rfl (Nat.le_of_ble_eq_true rfl) ⟨Nat.le_of_ble_eq_true rfl, Nat.le_of_ble_eq_true rfl⟩ ⟨Nat.le_refl _, Nat.le_refl _⟩ dX9_twoKnots_68 ?_
  cases h; exact at_zret rfl (sp_bz _) (Nat.le_refl _) (Nat.le_refl _) ⟨rfl, rfl⟩ dX9_twoKnots_71
set_option maxRecDepth 100000 in
theorem t_X9_twoKnots {D : va_G} {b : Nat} {K : State → Heap → Prop} {sa : Nat → Nat} (hK : sx_Kk b K sa) {N : Nat} {uG uN uD uF uP uL uT uA uM uH xA xB xC xD xE xF xG xH xI xJ xK xL uO : sx_C} {G : sx_H} {uR : sx_C} {res : Bool × sx_C} (h : f_X9_twoKnots N uG uD uR = some res) : sx_Runs D b K yX9_twoKnots YX9_twoKnots (sx_rm 3) [.ref (b + 8)] (sx_hp b uG uN uD uR uF uP uL uT uA uM uH xA xB xC xD xE xF xG xH xI xJ xK xL uO G) (sx_Ex (some (.int (sp_b res.1))) (sx_hp b uG uN uD (res.2) uF uP uL uT uA uM uH xA xB xC xD xE xF xG xH xI xJ xK xL uO G)) := by
  rw [f_X9_twoKnots] at h
  refine sx_run (by decide +kernel) rfl rfl (Nat.le_of_ble_eq_true rfl) ?_
  refine at_aload_n 0 dX9_twoKnots_0 rfl ?_
  obtain ⟨q3, hq3, h⟩ := sp_bind h
  refine at_callVv (st := []) hK mt_X9_step ml_X9_65 cl_X9 hg_8 (t_X9_step hK hq3) rfl rfl (Nat.le_of_ble_eq_true rfl) ⟨Nat.le_of_ble_eq_true rfl, Nat.le_of_ble_eq_true rfl⟩ ⟨Nat.le_refl _, Nat.le_refl _⟩ dX9_twoKnots_1 ?_
  refine at_aload_n 0 dX9_twoKnots_4 rfl ?_
  refine at_getf cl_X9 (by decide) fl_X9_18 hg_8 rfl dX9_twoKnots_5 ?_
  refine at_iconst 2 dX9_twoKnots_8 ic_2 ?_
  refine at_icmp_ne 26 dX9_twoKnots_9 (by decide) (fun c4 => ?_) (fun c4 => ?_)
  · rw [if_neg c4] at h
    exact t_X9_twoKnots_26 hK N _ _ h
  · rw [if_pos c4] at h
    refine at_aload_n 0 dX9_twoKnots_12 rfl ?_
    refine at_getf cl_X9 (by decide) fl_X9_50 hg_8 rfl dX9_twoKnots_13 ?_
    refine at_aload_n 0 dX9_twoKnots_16 rfl ?_
    refine at_getf cl_X9 (by decide) fl_X9_24 hg_8 rfl dX9_twoKnots_17 ?_
    obtain ⟨q5, hq5, h⟩ := sp_bind h
    refine at_callVi (st := []) hK mt_X6_isKnot ml_X9_121 cl_X6 hg_5 (t_X6d_isKnot hK hq5) rfl rfl (Nat.le_of_ble_eq_true rfl) ⟨Nat.le_of_ble_eq_true rfl, Nat.le_of_ble_eq_true rfl⟩ ⟨Nat.le_refl _, Nat.le_refl _⟩ dX9_twoKnots_20 ?_
    refine at_zne 32 dX9_twoKnots_23 (by decide) (fun c6 => ?_) (fun c6 => ?_)
    · rw [if_pos c6] at h
      refine at_aload_n 0 dX9_twoKnots_32 rfl ?_
      refine at_aload_n 0 dX9_twoKnots_33 rfl ?_
      refine at_getf cl_X9 (by decide) fl_X9_24 hg_8 rfl dX9_twoKnots_34 ?_
      refine at_putf cl_X9 (by decide) fl_X9_27 rfl hg_8 rfl rfl (Nat.le_of_ble_eq_true rfl) hs_8_7 dX9_twoKnots_37 ?_
      refine at_aload_n 0 dX9_twoKnots_40 rfl ?_
      obtain ⟨q7, hq7, h⟩ := sp_bind h
      refine at_callVv (st := []) hK mt_X9_step ml_X9_65 cl_X9 hg_8 (t_X9_step hK hq7) rfl rfl (Nat.le_of_ble_eq_true rfl) ⟨Nat.le_of_ble_eq_true rfl, Nat.le_of_ble_eq_true rfl⟩ ⟨Nat.le_refl _, Nat.le_refl _⟩ dX9_twoKnots_41 ?_
      refine at_aload_n 0 dX9_twoKnots_44 rfl ?_
      refine at_getf cl_X9 (by decide) fl_X9_18 hg_8 rfl dX9_twoKnots_45 ?_
      refine at_iconst 2 dX9_twoKnots_48 ic_2 ?_
      refine at_icmp_ne 66 dX9_twoKnots_49 (by decide) (fun c8 => ?_) (fun c8 => ?_)
      · rw [if_neg c8] at h
        exact t_X9_twoKnots_66 hK N _ _ h
      · rw [if_pos c8] at h
        refine at_aload_n 0 dX9_twoKnots_52 rfl ?_
        refine at_getf cl_X9 (by decide) fl_X9_50 hg_8 rfl dX9_twoKnots_53 ?_
        refine at_aload_n 0 dX9_twoKnots_56 rfl ?_
        refine at_getf cl_X9 (by decide) fl_X9_24 hg_8 rfl dX9_twoKnots_57 ?_
        obtain ⟨q9, hq9, h⟩ := sp_bind h
        refine at_callVi (st := []) hK mt_X6_isKnot ml_X9_121 cl_X6 hg_5 (t_X6d_isKnot hK hq9) rfl rfl (Nat.le_of_ble_eq_true rfl) ⟨Nat.le_of_ble_eq_true rfl, Nat.le_of_ble_eq_true rfl⟩ ⟨Nat.le_refl _, Nat.le_refl _⟩ dX9_twoKnots_60 ?_
        refine at_zne 72 dX9_twoKnots_63 (by decide) (fun c10 => ?_) (fun c10 => ?_)
        · rw [if_pos c10] at h
          refine at_aload_n 0 dX9_twoKnots_72 rfl ?_
          refine at_getf cl_X9 (by decide) fl_X9_24 hg_8 rfl dX9_twoKnots_73 ?_
          refine at_aload_n 0 dX9_twoKnots_76 rfl ?_
          refine at_getf cl_X9 (by decide) fl_X9_27 hg_8 rfl dX9_twoKnots_77 ?_
          refine at_icmp_ne 91 dX9_twoKnots_80 (by decide) (fun c11 => ?_) (fun c11 => ?_)
          · rw [if_neg c11] at h
            refine at_iconst 1 dX9_twoKnots_91 ic_1 ?_
            refine at_goto 96 dX9_twoKnots_92 (by decide) ?_
            cases h; exact at_zret rfl rfl (Nat.le_refl _) (Nat.le_refl _) ⟨rfl, rfl⟩ dX9_twoKnots_96
          · rw [if_pos c11] at h
            refine at_aload_n 0 dX9_twoKnots_83 rfl ?_
            refine at_iconst 3 dX9_twoKnots_84 ic_3 ?_
            obtain ⟨q12, hq12, h⟩ := sp_bind h
            refine at_callVi (st := []) hK mt_X9_refuse ml_X9_78 cl_X9 hg_8 (t_X9_refuse hK hq12) rfl rfl (Nat.le_of_ble_eq_true rfl) ⟨Nat.le_of_ble_eq_true rfl, Nat.le_of_ble_eq_true rfl⟩ ⟨Nat.le_refl _, Nat.le_refl _⟩ dX9_twoKnots_85 ?_
            refine at_zeq 95 dX9_twoKnots_88 (by decide) (fun c13 => ?_) (fun c13 => ?_)
            · rw [if_neg c13] at h
              refine at_iconst 0 dX9_twoKnots_95 ic_0 ?_
              cases h; exact at_zret rfl rfl (Nat.le_refl _) (Nat.le_refl _) ⟨rfl, rfl⟩ dX9_twoKnots_96
            · rw [if_pos c13] at h
              refine at_iconst 1 dX9_twoKnots_91 ic_1 ?_
              refine at_goto 96 dX9_twoKnots_92 (by decide) ?_
              cases h; exact at_zret rfl rfl (Nat.le_refl _) (Nat.le_refl _) ⟨rfl, rfl⟩ dX9_twoKnots_96
        · rw [if_neg c10] at h
          exact t_X9_twoKnots_66 hK N _ _ h
    · rw [if_neg c6] at h
      exact t_X9_twoKnots_26 hK N _ _ h
set_option maxRecDepth 100000 in
theorem t_X9_endsSentence {D : va_G} {b : Nat} {K : State → Heap → Prop} {sa : Nat → Nat} (hK : sx_Kk b K sa) {N : Nat} {uG uN uF uP uL uT uA uM uH xA xB xC xD xE xF xG xH xI xJ xK xL uO : sx_C} {G : sx_H} {uD : sx_C} {uR : sx_C} {res : Bool × sx_C × sx_C} (h : f_X9_endsSentence N uG uD uR = some res) : sx_Runs D b K yX9_endsSentence YX9_endsSentence (sx_rm 4) [.ref (b + 8)] (sx_hp b uG uN uD uR uF uP uL uT uA uM uH xA xB xC xD xE xF xG xH xI xJ xK xL uO G) (sx_Ex (some (.int (sp_b res.1))) (sx_hp b uG uN (res.2.1) (res.2.2) uF uP uL uT uA uM uH xA xB xC xD xE xF xG xH xI xJ xK xL uO G)) := by
  rw [f_X9_endsSentence] at h
  refine sx_run (by decide +kernel) rfl rfl (Nat.le_of_ble_eq_true rfl) ?_
  refine at_aload_n 0 dX9_endsSentence_0 rfl ?_
  refine at_getf cl_X9 (by decide) fl_X9_34 hg_8 rfl dX9_endsSentence_1 ?_
  refine at_if_eq 13 dX9_endsSentence_4 (by decide) (fun c1 => ?_) (fun c1 => ?_)
  · rw [if_pos c1] at h
    refine at_aload_n 0 dX9_endsSentence_13 rfl ?_
    refine at_iconst 1 dX9_endsSentence_14 ic_1 ?_
    refine at_putf cl_X9 (by decide) fl_X9_34 rfl hg_8 rfl rfl (Nat.le_of_ble_eq_true rfl) hs_8_9 dX9_endsSentence_15 ?_
    refine at_aload_n 0 dX9_endsSentence_18 rfl ?_
    obtain ⟨q2, hq2, h⟩ := sp_bind h
    refine at_callVi (st := []) hK mt_X9_twoKnots ml_X9_108 cl_X9 hg_8 (t_X9_twoKnots hK hq2) rfl rfl (Nat.le_of_ble_eq_true rfl) ⟨Nat.le_of_ble_eq_true rfl, Nat.le_of_ble_eq_true rfl⟩ ⟨Nat.le_refl _, Nat.le_refl _⟩ dX9_endsSentence_19 ?_
    refine at_zne 27 dX9_endsSentence_22 (by decide) (fun c3 => ?_) (fun c3 => ?_)
    · rw [if_pos c3] at h
      refine at_aload_n 0 dX9_endsSentence_27 rfl ?_
      refine at_getf cl_X9 (by decide) fl_X9_50 hg_8 rfl dX9_endsSentence_28 ?_
      refine at_aload_n 0 dX9_endsSentence_31 rfl ?_
      refine at_getf cl_X9 (by decide) fl_X9_27 hg_8 rfl dX9_endsSentence_32 ?_
      refine at_putf cl_X6 (by decide) fl_X9_111 rfl hg_5 rfl rfl (Nat.le_of_ble_eq_true rfl) hs_5_3 dX9_endsSentence_35 ?_
      refine at_aload_n 0 dX9_endsSentence_38 rfl ?_
      refine at_getf cl_X9 (by decide) fl_X9_50 hg_8 rfl dX9_endsSentence_39 ?_
      refine at_aload_n 0 dX9_endsSentence_42 rfl ?_
      refine at_getf cl_X9 (by decide) fl_X9_24 hg_8 rfl dX9_endsSentence_43 ?_
      refine at_putf cl_X6 (by decide) fl_X9_105 rfl hg_5 rfl rfl (Nat.le_of_ble_eq_true rfl) hs_5_4 dX9_endsSentence_46 ?_
      refine at_aload_n 0 dX9_endsSentence_49 rfl ?_
      obtain ⟨q4, hq4, h⟩ := sp_bind h
      refine at_callVv (st := []) hK mt_X9_step ml_X9_65 cl_X9 hg_8 (t_X9_step hK hq4) rfl rfl (Nat.le_of_ble_eq_true rfl) ⟨Nat.le_of_ble_eq_true rfl, Nat.le_of_ble_eq_true rfl⟩ ⟨Nat.le_refl _, Nat.le_refl _⟩ dX9_endsSentence_50 ?_
      refine at_iconst 1 dX9_endsSentence_53 ic_1 ?_
      cases h; exact at_zret rfl rfl (Nat.le_refl _) (Nat.le_refl _) ⟨rfl, rfl⟩ dX9_endsSentence_54
    · rw [if_neg c3] at h
      refine at_iconst 0 dX9_endsSentence_25 ic_0 ?_
      cases h; exact at_zret rfl rfl (Nat.le_refl _) (Nat.le_refl _) ⟨rfl, rfl⟩ dX9_endsSentence_26
  · rw [if_neg c1] at h
    refine at_aload_n 0 dX9_endsSentence_7 rfl ?_
    refine at_iconst 3 dX9_endsSentence_8 ic_3 ?_
    obtain ⟨q5, hq5, h⟩ := sp_bind h
    refine at_callVi (st := []) hK mt_X9_refuse ml_X9_78 cl_X9 hg_8 (t_X9_refuse hK hq5) rfl rfl (Nat.le_of_ble_eq_true rfl) ⟨Nat.le_of_ble_eq_true rfl, Nat.le_of_ble_eq_true rfl⟩ ⟨Nat.le_refl _, Nat.le_refl _⟩ dX9_endsSentence_9 ?_
    cases h; exact at_zret rfl (sp_bz _) (Nat.le_refl _) (Nat.le_refl _) ⟨rfl, rfl⟩ dX9_endsSentence_12
set_option maxRecDepth 100000 in
theorem t_X9_spells_20 {D : va_G} {b : Nat} {K : State → Heap → Prop} {sa : Nat → Nat} (hK : sx_Kk b K sa) (N : Nat) {ti : Nat} (hti : ti < 9) {uG uN uD uR uF uP uL uT uA uM uH xA xB xC xD xE xF xG xH xI xJ xK xL uO : sx_C} {G : sx_H} (res : Bool) : ∀ (n0 : Nat) (v2 : Int32), f_X9_spells_20 N ti uG uR n0 v2 = some res → sx_At D b K YX9_spells (sx_rm 4) (sx_Ex (some (.int (sp_b res))) (sx_hp b uG uN uD uR uF uP uL uT uA uM uH xA xB xC xD xE xF xG xH xI xJ xK xL uO G)) 20 [(0, .ref (b + 8)), (1, .ref (sa ti)), (2, .int v2)] [] (sx_hp b uG uN uD uR uF uP uL uT uA uM uH xA xB xC xD xE xF xG xH xI xJ xK xL uO G) 0 0 := by
  intro n0
  induction n0 with
  | zero => intro _ h; cases h
  | succ n0 ih =>
    intro v2 h
    rw [f_X9_spells_20] at h
    refine at_iload_n 2 dX9_spells_20 rfl ?_
    refine at_aload_n 1 dX9_spells_21 rfl ?_
    refine at_slen hK hti ml_X9_176 mk_X9_176 (Nat.le_of_ble_eq_true rfl) ⟨Nat.le_of_ble_eq_true rfl, Nat.le_of_ble_eq_true rfl⟩ ⟨Nat.le_refl _, Nat.le_refl _⟩ dX9_spells_22 ?_
    refine at_icmp_ge 54 dX9_spells_25 (by decide) (fun c1 => ?_) (fun c1 => ?_)
    · rw [if_pos c1] at h
      refine at_iconst 1 dX9_spells_54 ic_1 ?_
      cases h; exact at_zret rfl rfl (Nat.le_refl _) (Nat.le_refl _) ⟨rfl, rfl⟩ dX9_spells_55
    · rw [if_neg c1] at h
      refine at_aload_n 0 dX9_spells_28 rfl ?_
      refine at_aload_n 0 dX9_spells_29 rfl ?_
      refine at_getf cl_X9 (by decide) fl_X9_21 hg_8 rfl dX9_spells_30 ?_
      refine at_iload_n 2 dX9_spells_33 rfl ?_
      refine at_iadd dX9_spells_34 ?_
      obtain ⟨q2, hq2, h⟩ := sp_bind h
      refine at_callVi (st := []) hK mt_X9_byteAt ml_X9_140 cl_X9 hg_8 (t_X9_byteAt hK hq2) rfl rfl (Nat.le_of_ble_eq_true rfl) ⟨Nat.le_of_ble_eq_true rfl, Nat.le_of_ble_eq_true rfl⟩ ⟨Nat.le_refl _, Nat.le_refl _⟩ dX9_spells_35 ?_
      refine at_aload_n 1 dX9_spells_38 rfl ?_
      refine at_iload_n 2 dX9_spells_39 rfl ?_
      obtain ⟨w3, hw3, h⟩ := sp_bind h
      refine at_schr hK hti ml_X9_180 mk_X9_180 hw3 (Nat.le_of_ble_eq_true rfl) ⟨Nat.le_of_ble_eq_true rfl, Nat.le_of_ble_eq_true rfl⟩ ⟨Nat.le_refl _, Nat.le_refl _⟩ dX9_spells_40 ?_
      refine at_icmp_eq 48 dX9_spells_43 (by decide) (fun c4 => ?_) (fun c4 => ?_)
      · rw [if_pos c4] at h
        refine at_iinc 2 1 [(0, .ref (b + 8)), (1, .ref (sa ti)), (2, .int (v2 + 1))] dX9_spells_48 rfl ic_1 (Nat.le_of_ble_eq_true rfl) rfl ?_
        refine at_goto 20 dX9_spells_51 (by decide) ?_
        exact ih _ h
      · rw [if_neg c4] at h
        refine at_iconst 0 dX9_spells_46 ic_0 ?_
        cases h; exact at_zret rfl rfl (Nat.le_refl _) (Nat.le_refl _) ⟨rfl, rfl⟩ dX9_spells_47
set_option maxRecDepth 100000 in
theorem t_X9_spells {D : va_G} {b : Nat} {K : State → Heap → Prop} {sa : Nat → Nat} (hK : sx_Kk b K sa) {N : Nat} {uG uN uD uR uF uP uL uT uA uM uH xA xB xC xD xE xF xG xH xI xJ xK xL uO : sx_C} {G : sx_H} {ti : Nat} (hti : ti < 9) {res : Bool} (h : f_X9_spells N uG uR ti = some res) : sx_Runs D b K yX9_spells YX9_spells (sx_rm 4) [.ref (b + 8), .ref (sa ti)] (sx_hp b uG uN uD uR uF uP uL uT uA uM uH xA xB xC xD xE xF xG xH xI xJ xK xL uO G) (sx_Ex (some (.int (sp_b res))) (sx_hp b uG uN uD uR uF uP uL uT uA uM uH xA xB xC xD xE xF xG xH xI xJ xK xL uO G)) := by
  rw [f_X9_spells] at h
  refine sx_run (by decide +kernel) rfl rfl (Nat.le_of_ble_eq_true rfl) ?_
  refine at_aload_n 0 dX9_spells_0 rfl ?_
  refine at_getf cl_X9 (by decide) fl_X9_15 hg_8 rfl dX9_spells_1 ?_
  refine at_aload_n 0 dX9_spells_4 rfl ?_
  refine at_getf cl_X9 (by decide) fl_X9_21 hg_8 rfl dX9_spells_5 ?_
  refine at_isub dX9_spells_8 ?_
  refine at_aload_n 1 dX9_spells_9 rfl ?_
  refine at_slen hK hti ml_X9_176 mk_X9_176 (Nat.le_of_ble_eq_true rfl) ⟨Nat.le_of_ble_eq_true rfl, Nat.le_of_ble_eq_true rfl⟩ ⟨Nat.le_refl _, Nat.le_refl _⟩ dX9_spells_10 ?_
  refine at_icmp_eq 18 dX9_spells_13 (by decide) (fun c5 => ?_) (fun c5 => ?_)
  · rw [if_pos c5] at h
    refine at_iconst 0 dX9_spells_18 ic_0 ?_
    refine at_istore_n [(0, .ref (b + 8)), (1, .ref (sa ti)), (2, .int 0)] dX9_spells_19 (Nat.le_of_ble_eq_true rfl) rfl ?_
    exact t_X9_spells_20 hK N hti _ N _ h
  · rw [if_neg c5] at h
    refine at_iconst 0 dX9_spells_16 ic_0 ?_
    cases h; exact at_zret rfl rfl (Nat.le_refl _) (Nat.le_refl _) ⟨rfl, rfl⟩ dX9_spells_17
set_option maxRecDepth 100000 in
theorem t_X9_word {D : va_G} {b : Nat} {K : State → Heap → Prop} {sa : Nat → Nat} (hK : sx_Kk b K sa) {N : Nat} {uG uN uD uR uF uP uL uT uA uM uH xA xB xC xD xE xF xG xH xI xJ xK xL uO : sx_C} {G : sx_H} {res : Int32} (h : f_X9_word N uG uR  = some res) : sx_Runs D b K yX9_word YX9_word (sx_rm 5) [.ref (b + 8)] (sx_hp b uG uN uD uR uF uP uL uT uA uM uH xA xB xC xD xE xF xG xH xI xJ xK xL uO G) (sx_Ex (some (.int res)) (sx_hp b uG uN uD uR uF uP uL uT uA uM uH xA xB xC xD xE xF xG xH xI xJ xK xL uO G)) := by
  rw [f_X9_word] at h
  refine sx_run (by decide +kernel) rfl rfl (Nat.le_of_ble_eq_true rfl) ?_
  refine at_aload_n 0 dX9_word_0 rfl ?_
  refine at_getf cl_X9 (by decide) fl_X9_18 hg_8 rfl dX9_word_1 ?_
  refine at_iconst 1 dX9_word_4 ic_1 ?_
  refine at_icmp_eq 10 dX9_word_5 (by decide) (fun c1 => ?_) (fun c1 => ?_)
  · rw [if_pos c1] at h
    refine at_aload_n 0 dX9_word_10 rfl ?_
    refine at_ldcS (i := 0) (tx := "knots") hK (by decide) dX9_word_11 ?_
    obtain ⟨q2, hq2, h⟩ := sp_bind h
    refine at_callVi (st := []) hK mt_X9_spells ml_X9_158 cl_X9 hg_8 (t_X9_spells hK (by decide) hq2) rfl rfl (Nat.le_of_ble_eq_true rfl) ⟨Nat.le_of_ble_eq_true rfl, Nat.le_of_ble_eq_true rfl⟩ ⟨Nat.le_refl _, Nat.le_refl _⟩ dX9_word_13 ?_
    refine at_zeq 21 dX9_word_16 (by decide) (fun c3 => ?_) (fun c3 => ?_)
    · rw [if_neg c3] at h
      refine at_aload_n 0 dX9_word_21 rfl ?_
      refine at_ldcS (i := 1) (tx := "ends") hK (by decide) dX9_word_22 ?_
      obtain ⟨q4, hq4, h⟩ := sp_bind h
      refine at_callVi (st := []) hK mt_X9_spells ml_X9_158 cl_X9 hg_8 (t_X9_spells hK (by decide) hq4) rfl rfl (Nat.le_of_ble_eq_true rfl) ⟨Nat.le_of_ble_eq_true rfl, Nat.le_of_ble_eq_true rfl⟩ ⟨Nat.le_refl _, Nat.le_refl _⟩ dX9_word_24 ?_
      refine at_zeq 32 dX9_word_27 (by decide) (fun c5 => ?_) (fun c5 => ?_)
      · rw [if_neg c5] at h
        refine at_aload_n 0 dX9_word_32 rfl ?_
        refine at_ldcS (i := 2) (tx := "line") hK (by decide) dX9_word_33 ?_
        obtain ⟨q6, hq6, h⟩ := sp_bind h
        refine at_callVi (st := []) hK mt_X9_spells ml_X9_158 cl_X9 hg_8 (t_X9_spells hK (by decide) hq6) rfl rfl (Nat.le_of_ble_eq_true rfl) ⟨Nat.le_of_ble_eq_true rfl, Nat.le_of_ble_eq_true rfl⟩ ⟨Nat.le_refl _, Nat.le_refl _⟩ dX9_word_35 ?_
        refine at_zeq 43 dX9_word_38 (by decide) (fun c7 => ?_) (fun c7 => ?_)
        · rw [if_neg c7] at h
          refine at_aload_n 0 dX9_word_43 rfl ?_
          refine at_ldcS (i := 3) (tx := "joined") hK (by decide) dX9_word_44 ?_
          obtain ⟨q8, hq8, h⟩ := sp_bind h
          refine at_callVi (st := []) hK mt_X9_spells ml_X9_158 cl_X9 hg_8 (t_X9_spells hK (by decide) hq8) rfl rfl (Nat.le_of_ble_eq_true rfl) ⟨Nat.le_of_ble_eq_true rfl, Nat.le_of_ble_eq_true rfl⟩ ⟨Nat.le_refl _, Nat.le_refl _⟩ dX9_word_46 ?_
          refine at_zeq 54 dX9_word_49 (by decide) (fun c9 => ?_) (fun c9 => ?_)
          · rw [if_neg c9] at h
            refine at_aload_n 0 dX9_word_54 rfl ?_
            refine at_ldcS (i := 4) (tx := "gone") hK (by decide) dX9_word_55 ?_
            obtain ⟨q10, hq10, h⟩ := sp_bind h
            refine at_callVi (st := []) hK mt_X9_spells ml_X9_158 cl_X9 hg_8 (t_X9_spells hK (by decide) hq10) rfl rfl (Nat.le_of_ble_eq_true rfl) ⟨Nat.le_of_ble_eq_true rfl, Nat.le_of_ble_eq_true rfl⟩ ⟨Nat.le_refl _, Nat.le_refl _⟩ dX9_word_57 ?_
            refine at_zeq 65 dX9_word_60 (by decide) (fun c11 => ?_) (fun c11 => ?_)
            · rw [if_neg c11] at h
              refine at_aload_n 0 dX9_word_65 rfl ?_
              refine at_ldcS (i := 5) (tx := "first") hK (by decide) dX9_word_66 ?_
              obtain ⟨q12, hq12, h⟩ := sp_bind h
              refine at_callVi (st := []) hK mt_X9_spells ml_X9_158 cl_X9 hg_8 (t_X9_spells hK (by decide) hq12) rfl rfl (Nat.le_of_ble_eq_true rfl) ⟨Nat.le_of_ble_eq_true rfl, Nat.le_of_ble_eq_true rfl⟩ ⟨Nat.le_refl _, Nat.le_refl _⟩ dX9_word_68 ?_
              refine at_zeq 77 dX9_word_71 (by decide) (fun c13 => ?_) (fun c13 => ?_)
              · rw [if_neg c13] at h
                refine at_aload_n 0 dX9_word_77 rfl ?_
                refine at_ldcS (i := 6) (tx := "join") hK (by decide) dX9_word_78 ?_
                obtain ⟨q14, hq14, h⟩ := sp_bind h
                refine at_callVi (st := []) hK mt_X9_spells ml_X9_158 cl_X9 hg_8 (t_X9_spells hK (by decide) hq14) rfl rfl (Nat.le_of_ble_eq_true rfl) ⟨Nat.le_of_ble_eq_true rfl, Nat.le_of_ble_eq_true rfl⟩ ⟨Nat.le_refl _, Nat.le_refl _⟩ dX9_word_80 ?_
                refine at_zeq 89 dX9_word_83 (by decide) (fun c15 => ?_) (fun c15 => ?_)
                · rw [if_neg c15] at h
                  refine at_aload_n 0 dX9_word_89 rfl ?_
                  refine at_ldcS (i := 7) (tx := "cut") hK (by decide) dX9_word_90 ?_
                  obtain ⟨q16, hq16, h⟩ := sp_bind h
                  refine at_callVi (st := []) hK mt_X9_spells ml_X9_158 cl_X9 hg_8 (t_X9_spells hK (by decide) hq16) rfl rfl (Nat.le_of_ble_eq_true rfl) ⟨Nat.le_of_ble_eq_true rfl, Nat.le_of_ble_eq_true rfl⟩ ⟨Nat.le_refl _, Nat.le_refl _⟩ dX9_word_92 ?_
                  refine at_zeq 103 dX9_word_95 (by decide) (fun c17 => ?_) (fun c17 => ?_)
                  · rw [if_neg c17] at h
                    refine at_iconst 0 dX9_word_103 ic_0 ?_
                    cases h; exact at_iret rfl (Nat.le_refl _) (Nat.le_refl _) ⟨rfl, rfl⟩ dX9_word_104
                  · rw [if_pos c17] at h
                    refine at_bipush 8 dX9_word_98 bp_8 ?_
                    refine at_goto 104 dX9_word_100 (by decide) ?_
                    cases h; exact at_iret rfl (Nat.le_refl _) (Nat.le_refl _) ⟨rfl, rfl⟩ dX9_word_104
                · rw [if_pos c15] at h
                  refine at_bipush 7 dX9_word_86 bp_7 ?_
                  cases h; exact at_iret rfl (Nat.le_refl _) (Nat.le_refl _) ⟨rfl, rfl⟩ dX9_word_88
              · rw [if_pos c13] at h
                refine at_bipush 6 dX9_word_74 bp_6 ?_
                cases h; exact at_iret rfl (Nat.le_refl _) (Nat.le_refl _) ⟨rfl, rfl⟩ dX9_word_76
            · rw [if_pos c11] at h
              refine at_iconst 5 dX9_word_63 ic_5 ?_
              cases h; exact at_iret rfl (Nat.le_refl _) (Nat.le_refl _) ⟨rfl, rfl⟩ dX9_word_64
          · rw [if_pos c9] at h
            refine at_iconst 4 dX9_word_52 ic_4 ?_
            cases h; exact at_iret rfl (Nat.le_refl _) (Nat.le_refl _) ⟨rfl, rfl⟩ dX9_word_53
        · rw [if_pos c7] at h
          refine at_iconst 3 dX9_word_41 ic_3 ?_
          cases h; exact at_iret rfl (Nat.le_refl _) (Nat.le_refl _) ⟨rfl, rfl⟩ dX9_word_42
      · rw [if_pos c5] at h
        refine at_iconst 2 dX9_word_30 ic_2 ?_
        cases h; exact at_iret rfl (Nat.le_refl _) (Nat.le_refl _) ⟨rfl, rfl⟩ dX9_word_31
    · rw [if_pos c3] at h
      refine at_iconst 1 dX9_word_19 ic_1 ?_
      cases h; exact at_iret rfl (Nat.le_refl _) (Nat.le_refl _) ⟨rfl, rfl⟩ dX9_word_20
  · rw [if_neg c1] at h
    refine at_iconst 0 dX9_word_8 ic_0 ?_
    cases h; exact at_iret rfl (Nat.le_refl _) (Nat.le_refl _) ⟨rfl, rfl⟩ dX9_word_9
set_option maxRecDepth 100000 in
theorem t_X9_firstSentence_60 {D : va_G} {b : Nat} {K : State → Heap → Prop} {sa : Nat → Nat} (hK : sx_Kk b K sa) (N : Nat) {uG uN uF uP uL uT uA uM uH xA xB xC xD xE xF xG xH xI xJ xK xL uO : sx_C} {G : sx_H} (res : Bool × sx_C × sx_C) : ∀ (s1 : Int32) (uD : sx_C) (uR : sx_C), f_X9_firstSentence_60 N uG s1 uD uR = some res → sx_At D b K YX9_firstSentence (sx_rm 6) (sx_Ex (some (.int (sp_b res.1))) (sx_hp b uG uN (res.2.1) (res.2.2) uF uP uL uT uA uM uH xA xB xC xD xE xF xG xH xI xJ xK xL uO G)) 60 [(0, .ref (b + 8))] [.int s1, .ref (b + 5)] (sx_hp b uG uN uD uR uF uP uL uT uA uM uH xA xB xC xD xE xF xG xH xI xJ xK xL uO G) 0 0 := by
  intro s1 uD uR h
  rw [f_X9_firstSentence_60] at h
  refine at_putf cl_X6 (by decide) fl_X9_137 rfl hg_5 rfl rfl (Nat.le_of_ble_eq_true rfl) hs_5_9 dX9_firstSentence_60 ?_
  refine at_aload_n 0 dX9_firstSentence_63 rfl ?_
  obtain ⟨q2, hq2, h⟩ := sp_bind h
  refine at_callVv (st := []) hK mt_X9_step ml_X9_65 cl_X9 hg_8 (t_X9_step hK hq2) rfl rfl (Nat.le_of_ble_eq_true rfl) ⟨Nat.le_of_ble_eq_true rfl, Nat.le_of_ble_eq_true rfl⟩ ⟨Nat.le_refl _, Nat.le_refl _⟩ dX9_firstSentence_64 ?_
  refine at_iconst 1 dX9_firstSentence_67 ic_1 ?_
  cases h; exact at_zret rfl rfl (Nat.le_refl _) (Nat.le_refl _) ⟨rfl, rfl⟩ dX9_firstSentence_68
set_option maxRecDepth 100000 in
theorem t_X9_firstSentence_45 {D : va_G} {b : Nat} {K : State → Heap → Prop} {sa : Nat → Nat} (hK : sx_Kk b K sa) (N : Nat) {uG uN uF uP uL uT uA uM uH xA xB xC xD xE xF xG xH xI xJ xK xL uO : sx_C} {G : sx_H} (res : Bool × sx_C × sx_C) : ∀ (v1 : Int32) (uD : sx_C) (uR : sx_C), f_X9_firstSentence_45 N uG v1 uD uR = some res → sx_At D b K YX9_firstSentence (sx_rm 6) (sx_Ex (some (.int (sp_b res.1))) (sx_hp b uG uN (res.2.1) (res.2.2) uF uP uL uT uA uM uH xA xB xC xD xE xF xG xH xI xJ xK xL uO G)) 45 [(0, .ref (b + 8)), (1, .int v1)] [] (sx_hp b uG uN uD uR uF uP uL uT uA uM uH xA xB xC xD xE xF xG xH xI xJ xK xL uO G) 0 0 := by
  intro v1 uD uR h
  rw [f_X9_firstSentence_45] at h
  refine at_aload_n 0 dX9_firstSentence_45 rfl ?_
  refine at_getf cl_X9 (by decide) fl_X9_50 hg_8 rfl dX9_firstSentence_46 ?_
  refine at_iload_n 1 dX9_firstSentence_49 rfl ?_
  refine at_bipush 7 dX9_firstSentence_50 bp_7 ?_
  refine at_icmp_ne 59 dX9_firstSentence_52 (by decide) (fun c1 => ?_) (fun c1 => ?_)
  · rw [if_neg c1] at h
    refine at_iconst 1 dX9_firstSentence_59 ic_1 ?_
    refine at_sub [0] [(0, .ref (b + 8))] rfl ?_
    exact t_X9_firstSentence_60 hK N _ _ _ _ h
  · rw [if_pos c1] at h
    refine at_iconst 0 dX9_firstSentence_55 ic_0 ?_
    refine at_goto 60 dX9_firstSentence_56 (by decide) ?_
    refine at_sub [0] [(0, .ref (b + 8))] rfl ?_
    exact t_X9_firstSentence_60 hK N _ _ _ _ h
set_option maxRecDepth 100000 in
theorem t_X9_firstSentence {D : va_G} {b : Nat} {K : State → Heap → Prop} {sa : Nat → Nat} (hK : sx_Kk b K sa) {N : Nat} {uG uN uF uP uL uT uA uM uH xA xB xC xD xE xF xG xH xI xJ xK xL uO : sx_C} {G : sx_H} {uD : sx_C} {uR : sx_C} {res : Bool × sx_C × sx_C} (h : f_X9_firstSentence N uG uD uR = some res) : sx_Runs D b K yX9_firstSentence YX9_firstSentence (sx_rm 6) [.ref (b + 8)] (sx_hp b uG uN uD uR uF uP uL uT uA uM uH xA xB xC xD xE xF xG xH xI xJ xK xL uO G) (sx_Ex (some (.int (sp_b res.1))) (sx_hp b uG uN (res.2.1) (res.2.2) uF uP uL uT uA uM uH xA xB xC xD xE xF xG xH xI xJ xK xL uO G)) := by
  rw [f_X9_firstSentence] at h
  refine sx_run (by decide +kernel) rfl rfl (Nat.le_of_ble_eq_true rfl) ?_
  refine at_aload_n 0 dX9_firstSentence_0 rfl ?_
  refine at_getf cl_X9 (by decide) fl_X9_37 hg_8 rfl dX9_firstSentence_1 ?_
  refine at_if_eq 13 dX9_firstSentence_4 (by decide) (fun c3 => ?_) (fun c3 => ?_)
  · rw [if_pos c3] at h
    refine at_aload_n 0 dX9_firstSentence_13 rfl ?_
    refine at_iconst 1 dX9_firstSentence_14 ic_1 ?_
    refine at_putf cl_X9 (by decide) fl_X9_37 rfl hg_8 rfl rfl (Nat.le_of_ble_eq_true rfl) hs_8_10 dX9_firstSentence_15 ?_
    refine at_aload_n 0 dX9_firstSentence_18 rfl ?_
    obtain ⟨q4, hq4, h⟩ := sp_bind h
    refine at_callVv (st := []) hK mt_X9_step ml_X9_65 cl_X9 hg_8 (t_X9_step hK hq4) rfl rfl (Nat.le_of_ble_eq_true rfl) ⟨Nat.le_of_ble_eq_true rfl, Nat.le_of_ble_eq_true rfl⟩ ⟨Nat.le_refl _, Nat.le_refl _⟩ dX9_firstSentence_19 ?_
    refine at_aload_n 0 dX9_firstSentence_22 rfl ?_
    obtain ⟨q5, hq5, h⟩ := sp_bind h
    refine at_callVi (st := []) hK mt_X9_word ml_X9_82 cl_X9 hg_8 (t_X9_word hK hq5) rfl rfl (Nat.le_of_ble_eq_true rfl) ⟨Nat.le_of_ble_eq_true rfl, Nat.le_of_ble_eq_true rfl⟩ ⟨Nat.le_refl _, Nat.le_refl _⟩ dX9_firstSentence_23 ?_
    refine at_istore_n [(0, .ref (b + 8)), (1, .int q5)] dX9_firstSentence_26 (Nat.le_of_ble_eq_true rfl) rfl ?_
    refine at_iload_n 1 dX9_firstSentence_27 rfl ?_
    refine at_bipush 7 dX9_firstSentence_28 bp_7 ?_
    refine at_icmp_eq 45 dX9_firstSentence_30 (by decide) (fun c6 => ?_) (fun c6 => ?_)
    · rw [if_pos c6] at h
      exact t_X9_firstSentence_45 hK N _ _ _ _ h
    · rw [if_neg c6] at h
      refine at_iload_n 1 dX9_firstSentence_33 rfl ?_
      refine at_bipush 8 dX9_firstSentence_34 bp_8 ?_
      refine at_icmp_eq 45 dX9_firstSentence_36 (by decide) (fun c7 => ?_) (fun c7 => ?_)
      · rw [if_pos c7] at h
        exact t_X9_firstSentence_45 hK N _ _ _ _ h
      · rw [if_neg c7] at h
        refine at_aload_n 0 dX9_firstSentence_39 rfl ?_
        refine at_iconst 1 dX9_firstSentence_40 ic_1 ?_
        obtain ⟨q8, hq8, h⟩ := sp_bind h
        refine at_callVi (st := []) hK mt_X9_refuse ml_X9_78 cl_X9 hg_8 (t_X9_refuse hK hq8) rfl rfl (Nat.le_of_ble_eq_true rfl) ⟨Nat.le_of_ble_eq_true rfl, Nat.le_of_ble_eq_true rfl⟩ ⟨Nat.le_refl _, Nat.le_refl _⟩ dX9_firstSentence_41 ?_
        cases h; exact at_zret rfl (sp_bz _) (Nat.le_refl _) (Nat.le_refl _) ⟨rfl, rfl⟩ dX9_firstSentence_44
  · rw [if_neg c3] at h
    refine at_aload_n 0 dX9_firstSentence_7 rfl ?_
    refine at_iconst 3 dX9_firstSentence_8 ic_3 ?_
    obtain ⟨q9, hq9, h⟩ := sp_bind h
    refine at_callVi (st := []) hK mt_X9_refuse ml_X9_78 cl_X9 hg_8 (t_X9_refuse hK hq9) rfl rfl (Nat.le_of_ble_eq_true rfl) ⟨Nat.le_of_ble_eq_true rfl, Nat.le_of_ble_eq_true rfl⟩ ⟨Nat.le_refl _, Nat.le_refl _⟩ dX9_firstSentence_9 ?_
    cases h; exact at_zret rfl (sp_bz _) (Nat.le_refl _) (Nat.le_refl _) ⟨rfl, rfl⟩ dX9_firstSentence_12
set_option maxRecDepth 100000 in
theorem t_X9_knotsSentence_48 {D : va_G} {b : Nat} {K : State → Heap → Prop} {sa : Nat → Nat} (hK : sx_Kk b K sa) (N : Nat) {uG uN uF uP uL uT uA uM uH xA xB xC xD xE xF xG xH xI xJ xK xL uO : sx_C} {G : sx_H} (res : Bool × sx_C × sx_C) : ∀ (uD : sx_C) (uR : sx_C), f_X9_knotsSentence_48 N uG uD uR = some res → sx_At D b K YX9_knotsSentence (sx_rm 3) (sx_Ex (some (.int (sp_b res.1))) (sx_hp b uG uN (res.2.1) (res.2.2) uF uP uL uT uA uM uH xA xB xC xD xE xF xG xH xI xJ xK xL uO G)) 48 [(0, .ref (b + 8))] [] (sx_hp b uG uN uD uR uF uP uL uT uA uM uH xA xB xC xD xE xF xG xH xI xJ xK xL uO G) 0 0 := by
  intro uD uR h
  rw [f_X9_knotsSentence_48] at h
  refine at_aload_n 0 dX9_knotsSentence_48 rfl ?_
  refine at_iconst 2 dX9_knotsSentence_49 ic_2 ?_
  obtain ⟨q1, hq1, h⟩ := sp_bind h
  refine at_callVi (st := []) hK mt_X9_refuse ml_X9_78 cl_X9 hg_8 (t_X9_refuse hK hq1) rfl rfl (Nat.le_of_ble_eq_true rfl) ⟨Nat.le_of_ble_eq_true rfl, Nat.le_of_ble_eq_true rfl⟩ ⟨Nat.le_refl _, Nat.le_refl _⟩ dX9_knotsSentence_50 ?_
  cases h; exact at_zret rfl (sp_bz _) (Nat.le_refl _) (Nat.le_refl _) ⟨rfl, rfl⟩ dX9_knotsSentence_53
set_option maxRecDepth 100000 in
theorem t_X9_knotsSentence {D : va_G} {b : Nat} {K : State → Heap → Prop} {sa : Nat → Nat} (hK : sx_Kk b K sa) {N : Nat} {uG uN uF uP uL uT uA uM uH xA xB xC xD xE xF xG xH xI xJ xK xL uO : sx_C} {G : sx_H} {uD : sx_C} {uR : sx_C} {res : Bool × sx_C × sx_C} (h : f_X9_knotsSentence N uG uD uR = some res) : sx_Runs D b K yX9_knotsSentence YX9_knotsSentence (sx_rm 3) [.ref (b + 8)] (sx_hp b uG uN uD uR uF uP uL uT uA uM uH xA xB xC xD xE xF xG xH xI xJ xK xL uO G) (sx_Ex (some (.int (sp_b res.1))) (sx_hp b uG uN (res.2.1) (res.2.2) uF uP uL uT uA uM uH xA xB xC xD xE xF xG xH xI xJ xK xL uO G)) := by
  rw [f_X9_knotsSentence] at h
  refine sx_run (by decide +kernel) rfl rfl (Nat.le_of_ble_eq_true rfl) ?_
  refine at_aload_n 0 dX9_knotsSentence_0 rfl ?_
  refine at_getf cl_X9 (by decide) fl_X9_30 hg_8 rfl dX9_knotsSentence_1 ?_
  refine at_if_eq 13 dX9_knotsSentence_4 (by decide) (fun c2 => ?_) (fun c2 => ?_)
  · rw [if_pos c2] at h
    refine at_aload_n 0 dX9_knotsSentence_13 rfl ?_
    obtain ⟨q3, hq3, h⟩ := sp_bind h
    refine at_callVv (st := []) hK mt_X9_step ml_X9_65 cl_X9 hg_8 (t_X9_step hK hq3) rfl rfl (Nat.le_of_ble_eq_true rfl) ⟨Nat.le_of_ble_eq_true rfl, Nat.le_of_ble_eq_true rfl⟩ ⟨Nat.le_refl _, Nat.le_refl _⟩ dX9_knotsSentence_14 ?_
    refine at_aload_n 0 dX9_knotsSentence_17 rfl ?_
    refine at_getf cl_X9 (by decide) fl_X9_18 hg_8 rfl dX9_knotsSentence_18 ?_
    refine at_iconst 2 dX9_knotsSentence_21 ic_2 ?_
    refine at_icmp_eq 31 dX9_knotsSentence_22 (by decide) (fun c4 => ?_) (fun c4 => ?_)
    · rw [if_pos c4] at h
      refine at_aload_n 0 dX9_knotsSentence_31 rfl ?_
      refine at_getf cl_X9 (by decide) fl_X9_24 hg_8 rfl dX9_knotsSentence_32 ?_
      refine at_iconst 2 dX9_knotsSentence_35 ic_2 ?_
      refine at_icmp_lt 48 dX9_knotsSentence_36 (by decide) (fun c5 => ?_) (fun c5 => ?_)
      · rw [if_pos c5] at h
        exact t_X9_knotsSentence_48 hK N _ _ _ h
      · rw [if_neg c5] at h
        refine at_aload_n 0 dX9_knotsSentence_39 rfl ?_
        refine at_getf cl_X9 (by decide) fl_X9_24 hg_8 rfl dX9_knotsSentence_40 ?_
        refine at_bipush 8 dX9_knotsSentence_43 bp_8 ?_
        refine at_icmp_le 54 dX9_knotsSentence_45 (by decide) (fun c6 => ?_) (fun c6 => ?_)
        · rw [if_pos c6] at h
          refine at_aload_n 0 dX9_knotsSentence_54 rfl ?_
          refine at_iconst 1 dX9_knotsSentence_55 ic_1 ?_
          refine at_putf cl_X9 (by decide) fl_X9_30 rfl hg_8 rfl rfl (Nat.le_of_ble_eq_true rfl) hs_8_8 dX9_knotsSentence_56 ?_
          refine at_aload_n 0 dX9_knotsSentence_59 rfl ?_
          refine at_getf cl_X9 (by decide) fl_X9_50 hg_8 rfl dX9_knotsSentence_60 ?_
          refine at_aload_n 0 dX9_knotsSentence_63 rfl ?_
          refine at_getf cl_X9 (by decide) fl_X9_24 hg_8 rfl dX9_knotsSentence_64 ?_
          refine at_putf cl_X6 (by decide) fl_X9_102 rfl hg_5 rfl rfl (Nat.le_of_ble_eq_true rfl) hs_5_2 dX9_knotsSentence_67 ?_
          refine at_aload_n 0 dX9_knotsSentence_70 rfl ?_
          refine at_getf cl_X9 (by decide) fl_X9_50 hg_8 rfl dX9_knotsSentence_71 ?_
          refine at_aload_n 0 dX9_knotsSentence_74 rfl ?_
          refine at_getf cl_X9 (by decide) fl_X9_24 hg_8 rfl dX9_knotsSentence_75 ?_
          refine at_iconst 1 dX9_knotsSentence_78 ic_1 ?_
          refine at_isub dX9_knotsSentence_79 ?_
          refine at_putf cl_X6 (by decide) fl_X9_105 rfl hg_5 rfl rfl (Nat.le_of_ble_eq_true rfl) hs_5_4 dX9_knotsSentence_80 ?_
          refine at_aload_n 0 dX9_knotsSentence_83 rfl ?_
          obtain ⟨q7, hq7, h⟩ := sp_bind h
          refine at_callVv (st := []) hK mt_X9_step ml_X9_65 cl_X9 hg_8 (t_X9_step hK hq7) rfl rfl (Nat.le_of_ble_eq_true rfl) ⟨Nat.le_of_ble_eq_true rfl, Nat.le_of_ble_eq_true rfl⟩ ⟨Nat.le_refl _, Nat.le_refl _⟩ dX9_knotsSentence_84 ?_
          refine at_iconst 1 dX9_knotsSentence_87 ic_1 ?_
          cases h; exact at_zret rfl rfl (Nat.le_refl _) (Nat.le_refl _) ⟨rfl, rfl⟩ dX9_knotsSentence_88
        · rw [if_neg c6] at h
          exact t_X9_knotsSentence_48 hK N _ _ _ h
    · rw [if_neg c4] at h
      refine at_aload_n 0 dX9_knotsSentence_25 rfl ?_
      refine at_iconst 1 dX9_knotsSentence_26 ic_1 ?_
      obtain ⟨q8, hq8, h⟩ := sp_bind h
      refine at_callVi (st := []) hK mt_X9_refuse ml_X9_78 cl_X9 hg_8 (t_X9_refuse hK hq8) rfl rfl (Nat.le_of_ble_eq_true rfl) ⟨Nat.le_of_ble_eq_true rfl, Nat.le_of_ble_eq_true rfl⟩ ⟨Nat.le_refl _, Nat.le_refl _⟩ dX9_knotsSentence_27 ?_
      cases h; exact at_zret rfl (sp_bz _) (Nat.le_refl _) (Nat.le_refl _) ⟨rfl, rfl⟩ dX9_knotsSentence_30
  · rw [if_neg c2] at h
    refine at_aload_n 0 dX9_knotsSentence_7 rfl ?_
    refine at_iconst 3 dX9_knotsSentence_8 ic_3 ?_
    obtain ⟨q9, hq9, h⟩ := sp_bind h
    refine at_callVi (st := []) hK mt_X9_refuse ml_X9_78 cl_X9 hg_8 (t_X9_refuse hK hq9) rfl rfl (Nat.le_of_ble_eq_true rfl) ⟨Nat.le_of_ble_eq_true rfl, Nat.le_of_ble_eq_true rfl⟩ ⟨Nat.le_refl _, Nat.le_refl _⟩ dX9_knotsSentence_9 ?_
    cases h; exact at_zret rfl (sp_bz _) (Nat.le_refl _) (Nat.le_refl _) ⟨rfl, rfl⟩ dX9_knotsSentence_12
set_option maxRecDepth 100000 in
theorem t_X6d_addLine {D : va_G} {b : Nat} {K : State → Heap → Prop} {sa : Nat → Nat} (hK : sx_Kk b K sa) {uG uN uR uF uP uL uT uA uM uH xA xB xC xD xE xF xG xH xI xJ xK xL uO : sx_C} {G : sx_H} {v1 : Int32} {v2 : Int32} {uD : sx_C} {res : sx_C} (h : f_X6d_addLine v1 v2 uD = some res) : sx_Runs D b K yX6_addLine YX6_addLine (sx_rm 0) [.ref (b + 5), .int v1, .int v2] (sx_hp b uG uN uD uR uF uP uL uT uA uM uH xA xB xC xD xE xF xG xH xI xJ xK xL uO G) (sx_Ex none (sx_hp b uG uN res uR uF uP uL uT uA uM uH xA xB xC xD xE xF xG xH xI xJ xK xL uO G)) := by
  rw [f_X6d_addLine] at h
  refine sx_run (by decide +kernel) rfl rfl (Nat.le_of_ble_eq_true rfl) ?_
  refine at_aload_n 0 dX6_addLine_0 rfl ?_
  refine at_getf cl_X6 (by decide) fl_X6_31 hg_5 rfl dX6_addLine_1 ?_
  refine at_if_lt 46 dX6_addLine_4 (by decide) (fun c1 => ?_) (fun c1 => ?_)
  · rw [if_pos c1] at h
    cases h; exact at_vret rfl (Nat.le_refl _) (Nat.le_refl _) ⟨rfl, rfl⟩ dX6_addLine_46
  · rw [if_neg c1] at h
    refine at_aload_n 0 dX6_addLine_7 rfl ?_
    refine at_getf cl_X6 (by decide) fl_X6_31 hg_5 rfl dX6_addLine_8 ?_
    refine at_bipush 14 dX6_addLine_11 bp_14 ?_
    refine at_icmp_ge 46 dX6_addLine_13 (by decide) (fun c2 => ?_) (fun c2 => ?_)
    · rw [if_pos c2] at h
      cases h; exact at_vret rfl (Nat.le_refl _) (Nat.le_refl _) ⟨rfl, rfl⟩ dX6_addLine_46
    · rw [if_neg c2] at h
      refine at_aload_n 0 dX6_addLine_16 rfl ?_
      refine at_getf cl_X6 (by decide) fl_X6_9 hg_5 rfl dX6_addLine_17 ?_
      refine at_aload_n 0 dX6_addLine_20 rfl ?_
      refine at_getf cl_X6 (by decide) fl_X6_31 hg_5 rfl dX6_addLine_21 ?_
      refine at_iload_n 1 dX6_addLine_24 rfl ?_
      obtain ⟨hi3, h⟩ := sp_chk h
      refine at_iast hg_6 hi3 hs_6 dX6_addLine_25 ?_
      refine at_aload_n 0 dX6_addLine_26 rfl ?_
      refine at_getf cl_X6 (by decide) fl_X6_15 hg_5 rfl dX6_addLine_27 ?_
      refine at_aload_n 0 dX6_addLine_30 rfl ?_
      refine at_getf cl_X6 (by decide) fl_X6_31 hg_5 rfl dX6_addLine_31 ?_
      refine at_iload_n 2 dX6_addLine_34 rfl ?_
      obtain ⟨hi4, h⟩ := sp_chk h
      refine at_iast hg_7 hi4 hs_7 dX6_addLine_35 ?_
      refine at_aload_n 0 dX6_addLine_36 rfl ?_
      refine at_dup dX6_addLine_37 rfl ?_
      refine at_getf cl_X6 (by decide) fl_X6_31 hg_5 rfl dX6_addLine_38 ?_
      refine at_iconst 1 dX6_addLine_41 ic_1 ?_
      refine at_iadd dX6_addLine_42 ?_
      refine at_putf cl_X6 (by decide) fl_X6_31 rfl hg_5 rfl rfl (Nat.le_of_ble_eq_true rfl) hs_5_5 dX6_addLine_43 ?_
      cases h; exact at_vret rfl (Nat.le_refl _) (Nat.le_refl _) ⟨rfl, rfl⟩ dX6_addLine_46
set_option maxRecDepth 100000 in
theorem t_X9_lineSentence {D : va_G} {b : Nat} {K : State → Heap → Prop} {sa : Nat → Nat} (hK : sx_Kk b K sa) {N : Nat} {uG uN uF uP uL uT uA uM uH xA xB xC xD xE xF xG xH xI xJ xK xL uO : sx_C} {G : sx_H} {uD : sx_C} {uR : sx_C} {res : Bool × sx_C × sx_C} (h : f_X9_lineSentence N uG uD uR = some res) : sx_Runs D b K yX9_lineSentence YX9_lineSentence (sx_rm 4) [.ref (b + 8)] (sx_hp b uG uN uD uR uF uP uL uT uA uM uH xA xB xC xD xE xF xG xH xI xJ xK xL uO G) (sx_Ex (some (.int (sp_b res.1))) (sx_hp b uG uN (res.2.1) (res.2.2) uF uP uL uT uA uM uH xA xB xC xD xE xF xG xH xI xJ xK xL uO G)) := by
  rw [f_X9_lineSentence] at h
  refine sx_run (by decide +kernel) rfl rfl (Nat.le_of_ble_eq_true rfl) ?_
  refine at_aload_n 0 dX9_lineSentence_0 rfl ?_
  refine at_getf cl_X9 (by decide) fl_X9_50 hg_8 rfl dX9_lineSentence_1 ?_
  refine at_getf cl_X6 (by decide) fl_X9_114 hg_5 rfl dX9_lineSentence_4 ?_
  refine at_bipush 14 dX9_lineSentence_7 bp_14 ?_
  refine at_icmp_lt 18 dX9_lineSentence_9 (by decide) (fun c1 => ?_) (fun c1 => ?_)
  · rw [if_pos c1] at h
    refine at_aload_n 0 dX9_lineSentence_18 rfl ?_
    obtain ⟨q2, hq2, h⟩ := sp_bind h
    refine at_callVi (st := []) hK mt_X9_twoKnots ml_X9_108 cl_X9 hg_8 (t_X9_twoKnots hK hq2) rfl rfl (Nat.le_of_ble_eq_true rfl) ⟨Nat.le_of_ble_eq_true rfl, Nat.le_of_ble_eq_true rfl⟩ ⟨Nat.le_refl _, Nat.le_refl _⟩ dX9_lineSentence_19 ?_
    refine at_zne 27 dX9_lineSentence_22 (by decide) (fun c3 => ?_) (fun c3 => ?_)
    · rw [if_pos c3] at h
      refine at_aload_n 0 dX9_lineSentence_27 rfl ?_
      refine at_getf cl_X9 (by decide) fl_X9_50 hg_8 rfl dX9_lineSentence_28 ?_
      refine at_aload_n 0 dX9_lineSentence_31 rfl ?_
      refine at_getf cl_X9 (by decide) fl_X9_27 hg_8 rfl dX9_lineSentence_32 ?_
      refine at_aload_n 0 dX9_lineSentence_35 rfl ?_
      refine at_getf cl_X9 (by decide) fl_X9_24 hg_8 rfl dX9_lineSentence_36 ?_
      obtain ⟨q4, hq4, h⟩ := sp_bind h
      refine at_callVv (st := []) hK mt_X6_addLine ml_X9_117 cl_X6 hg_5 (t_X6d_addLine hK hq4) rfl rfl (Nat.le_of_ble_eq_true rfl) ⟨Nat.le_of_ble_eq_true rfl, Nat.le_of_ble_eq_true rfl⟩ ⟨Nat.le_refl _, Nat.le_refl _⟩ dX9_lineSentence_39 ?_
      refine at_aload_n 0 dX9_lineSentence_42 rfl ?_
      obtain ⟨q5, hq5, h⟩ := sp_bind h
      refine at_callVv (st := []) hK mt_X9_step ml_X9_65 cl_X9 hg_8 (t_X9_step hK hq5) rfl rfl (Nat.le_of_ble_eq_true rfl) ⟨Nat.le_of_ble_eq_true rfl, Nat.le_of_ble_eq_true rfl⟩ ⟨Nat.le_refl _, Nat.le_refl _⟩ dX9_lineSentence_43 ?_
      refine at_iconst 1 dX9_lineSentence_46 ic_1 ?_
      cases h; exact at_zret rfl rfl (Nat.le_refl _) (Nat.le_refl _) ⟨rfl, rfl⟩ dX9_lineSentence_47
    · rw [if_neg c3] at h
      refine at_iconst 0 dX9_lineSentence_25 ic_0 ?_
      cases h; exact at_zret rfl rfl (Nat.le_refl _) (Nat.le_refl _) ⟨rfl, rfl⟩ dX9_lineSentence_26
  · rw [if_neg c1] at h
    refine at_aload_n 0 dX9_lineSentence_12 rfl ?_
    refine at_iconst 2 dX9_lineSentence_13 ic_2 ?_
    obtain ⟨q6, hq6, h⟩ := sp_bind h
    refine at_callVi (st := []) hK mt_X9_refuse ml_X9_78 cl_X9 hg_8 (t_X9_refuse hK hq6) rfl rfl (Nat.le_of_ble_eq_true rfl) ⟨Nat.le_of_ble_eq_true rfl, Nat.le_of_ble_eq_true rfl⟩ ⟨Nat.le_refl _, Nat.le_refl _⟩ dX9_lineSentence_14 ?_
    cases h; exact at_zret rfl (sp_bz _) (Nat.le_refl _) (Nat.le_refl _) ⟨rfl, rfl⟩ dX9_lineSentence_17
set_option maxRecDepth 100000 in
theorem t_X11_has {D : va_G} {b : Nat} {K : State → Heap → Prop} {sa : Nat → Nat} (hK : sx_Kk b K sa) {σ : sx_H} {v0 : Int32} {v1 : Int32} {res : Bool} (h : f_X11_has v0 v1 = some res) : sx_Runs D b K yX11_has YX11_has (sx_rm 0) [.int v0, .int v1] σ (sx_Ex (some (.int (sp_b res))) σ) := by
  rw [f_X11_has] at h
  refine sx_run (by decide +kernel) rfl rfl (Nat.le_of_ble_eq_true rfl) ?_
  refine at_iload_n 0 dX11_has_0 rfl ?_
  refine at_iload_n 1 dX11_has_1 rfl ?_
  refine at_iushr dX11_has_2 ?_
  refine at_iconst 1 dX11_has_3 ic_1 ?_
  refine at_iand dX11_has_4 ?_
  refine at_if_eq 12 dX11_has_5 (by decide) (fun c1 => ?_) (fun c1 => ?_)
  · rw [if_pos c1] at h
    refine at_iconst 0 dX11_has_12 ic_0 ?_
    cases h; exact at_zret rfl rfl (Nat.le_refl _) (Nat.le_refl _) ⟨rfl, rfl⟩ dX11_has_13
  · rw [if_neg c1] at h
    refine at_iconst 1 dX11_has_8 ic_1 ?_
    refine at_goto 13 dX11_has_9 (by decide) ?_
    cases h; exact at_zret rfl rfl (Nat.le_refl _) (Nat.le_refl _) ⟨rfl, rfl⟩ dX11_has_13
set_option maxRecDepth 100000 in
theorem t_X6d_isLine {D : va_G} {b : Nat} {K : State → Heap → Prop} {sa : Nat → Nat} (hK : sx_Kk b K sa) {uG uN uD uR uF uP uL uT uA uM uH xA xB xC xD xE xF xG xH xI xJ xK xL uO : sx_C} {G : sx_H} {v1 : Int32} {res : Bool} (h : f_X6d_isLine uD v1 = some res) : sx_Runs D b K yX6_isLine YX6_isLine (sx_rm 0) [.ref (b + 5), .int v1] (sx_hp b uG uN uD uR uF uP uL uT uA uM uH xA xB xC xD xE xF xG xH xI xJ xK xL uO G) (sx_Ex (some (.int (sp_b res))) (sx_hp b uG uN uD uR uF uP uL uT uA uM uH xA xB xC xD xE xF xG xH xI xJ xK xL uO G)) := by
  rw [f_X6d_isLine] at h
  refine sx_run (by decide +kernel) rfl rfl (Nat.le_of_ble_eq_true rfl) ?_
  refine at_iload_n 1 dX6_isLine_0 rfl ?_
  refine at_if_lt 22 dX6_isLine_1 (by decide) (fun c1 => ?_) (fun c1 => ?_)
  · rw [if_pos c1] at h
    refine at_iconst 0 dX6_isLine_22 ic_0 ?_
    cases h; exact at_zret rfl rfl (Nat.le_refl _) (Nat.le_refl _) ⟨rfl, rfl⟩ dX6_isLine_23
  · rw [if_neg c1] at h
    refine at_iload_n 1 dX6_isLine_4 rfl ?_
    refine at_aload_n 0 dX6_isLine_5 rfl ?_
    refine at_getf cl_X6 (by decide) fl_X6_31 hg_5 rfl dX6_isLine_6 ?_
    refine at_icmp_ge 22 dX6_isLine_9 (by decide) (fun c2 => ?_) (fun c2 => ?_)
    · rw [if_pos c2] at h
      refine at_iconst 0 dX6_isLine_22 ic_0 ?_
      cases h; exact at_zret rfl rfl (Nat.le_refl _) (Nat.le_refl _) ⟨rfl, rfl⟩ dX6_isLine_23
    · rw [if_neg c2] at h
      refine at_iload_n 1 dX6_isLine_12 rfl ?_
      refine at_bipush 14 dX6_isLine_13 bp_14 ?_
      refine at_icmp_ge 22 dX6_isLine_15 (by decide) (fun c3 => ?_) (fun c3 => ?_)
      · rw [if_pos c3] at h
        refine at_iconst 0 dX6_isLine_22 ic_0 ?_
        cases h; exact at_zret rfl rfl (Nat.le_refl _) (Nat.le_refl _) ⟨rfl, rfl⟩ dX6_isLine_23
      · rw [if_neg c3] at h
        refine at_iconst 1 dX6_isLine_18 ic_1 ?_
        refine at_goto 23 dX6_isLine_19 (by decide) ?_
        cases h; exact at_zret rfl rfl (Nat.le_refl _) (Nat.le_refl _) ⟨rfl, rfl⟩ dX6_isLine_23
set_option maxRecDepth 100000 in
theorem t_X9_standSentence_26 {D : va_G} {b : Nat} {K : State → Heap → Prop} {sa : Nat → Nat} (hK : sx_Kk b K sa) (N : Nat) {uG uN uF uP uL uT uA uM uH xA xB xC xD xE xF xG xH xI xJ xK xL uO : sx_C} {G : sx_H} (res : Bool × sx_C × sx_C) : ∀ (uD : sx_C) (uR : sx_C), f_X9_standSentence_26 N uG uD uR = some res → sx_At D b K YX9_standSentence (sx_rm 3) (sx_Ex (some (.int (sp_b res.1))) (sx_hp b uG uN (res.2.1) (res.2.2) uF uP uL uT uA uM uH xA xB xC xD xE xF xG xH xI xJ xK xL uO G)) 26 [(0, .ref (b + 8))] [] (sx_hp b uG uN uD uR uF uP uL uT uA uM uH xA xB xC xD xE xF xG xH xI xJ xK xL uO G) 0 0 := by
  intro uD uR h
  rw [f_X9_standSentence_26] at h
  refine at_aload_n 0 dX9_standSentence_26 rfl ?_
  refine at_iconst 1 dX9_standSentence_27 ic_1 ?_
  obtain ⟨q1, hq1, h⟩ := sp_bind h
  refine at_callVi (st := []) hK mt_X9_refuse ml_X9_78 cl_X9 hg_8 (t_X9_refuse hK hq1) rfl rfl (Nat.le_of_ble_eq_true rfl) ⟨Nat.le_of_ble_eq_true rfl, Nat.le_of_ble_eq_true rfl⟩ ⟨Nat.le_refl _, Nat.le_refl _⟩ dX9_standSentence_28 ?_
  cases h; exact at_zret rfl (sp_bz _) (Nat.le_refl _) (Nat.le_refl _) ⟨rfl, rfl⟩ dX9_standSentence_31
set_option maxRecDepth 100000 in
theorem t_X9_standSentence_106 {D : va_G} {b : Nat} {K : State → Heap → Prop} {sa : Nat → Nat} (hK : sx_Kk b K sa) (N : Nat) {uG uN uF uP uL uT uA uM uH xA xB xC xD xE xF xG xH xI xJ xK xL uO : sx_C} {G : sx_H} (res : Bool × sx_C × sx_C) : ∀ (uD : sx_C) (uR : sx_C), f_X9_standSentence_106 N uG uD uR = some res → sx_At D b K YX9_standSentence (sx_rm 3) (sx_Ex (some (.int (sp_b res.1))) (sx_hp b uG uN (res.2.1) (res.2.2) uF uP uL uT uA uM uH xA xB xC xD xE xF xG xH xI xJ xK xL uO G)) 106 [(0, .ref (b + 8))] [] (sx_hp b uG uN uD uR uF uP uL uT uA uM uH xA xB xC xD xE xF xG xH xI xJ xK xL uO G) 0 0 := by
  intro uD uR h
  rw [f_X9_standSentence_106] at h
  refine at_aload_n 0 dX9_standSentence_106 rfl ?_
  obtain ⟨q2, hq2, h⟩ := sp_bind h
  refine at_callVv (st := []) hK mt_X9_step ml_X9_65 cl_X9 hg_8 (t_X9_step hK hq2) rfl rfl (Nat.le_of_ble_eq_true rfl) ⟨Nat.le_of_ble_eq_true rfl, Nat.le_of_ble_eq_true rfl⟩ ⟨Nat.le_refl _, Nat.le_refl _⟩ dX9_standSentence_107 ?_
  refine at_iconst 1 dX9_standSentence_110 ic_1 ?_
  cases h; exact at_zret rfl rfl (Nat.le_refl _) (Nat.le_refl _) ⟨rfl, rfl⟩ dX9_standSentence_111
set_option maxRecDepth 100000 in
theorem t_X9_standSentence {D : va_G} {b : Nat} {K : State → Heap → Prop} {sa : Nat → Nat} (hK : sx_Kk b K sa) {N : Nat} {uG uN uF uP uL uT uA uM uH xA xB xC xD xE xF xG xH xI xJ xK xL uO : sx_C} {G : sx_H} {v1 : Int32} {uD : sx_C} {uR : sx_C} {res : Bool × sx_C × sx_C} (h : f_X9_standSentence N uG v1 uD uR = some res) : sx_Runs D b K yX9_standSentence YX9_standSentence (sx_rm 3) [.ref (b + 8), .int v1] (sx_hp b uG uN uD uR uF uP uL uT uA uM uH xA xB xC xD xE xF xG xH xI xJ xK xL uO G) (sx_Ex (some (.int (sp_b res.1))) (sx_hp b uG uN (res.2.1) (res.2.2) uF uP uL uT uA uM uH xA xB xC xD xE xF xG xH xI xJ xK xL uO G)) := by
  rw [f_X9_standSentence] at h
  refine sx_run (by decide +kernel) rfl rfl (Nat.le_of_ble_eq_true rfl) ?_
  refine at_aload_n 0 dX9_standSentence_0 rfl ?_
  obtain ⟨q3, hq3, h⟩ := sp_bind h
  refine at_callVv (st := []) hK mt_X9_step ml_X9_65 cl_X9 hg_8 (t_X9_step hK hq3) rfl rfl (Nat.le_of_ble_eq_true rfl) ⟨Nat.le_of_ble_eq_true rfl, Nat.le_of_ble_eq_true rfl⟩ ⟨Nat.le_refl _, Nat.le_refl _⟩ dX9_standSentence_1 ?_
  refine at_aload_n 0 dX9_standSentence_4 rfl ?_
  refine at_getf cl_X9 (by decide) fl_X9_18 hg_8 rfl dX9_standSentence_5 ?_
  refine at_iconst 2 dX9_standSentence_8 ic_2 ?_
  refine at_icmp_ne 26 dX9_standSentence_9 (by decide) (fun c4 => ?_) (fun c4 => ?_)
  · rw [if_neg c4] at h
    refine at_sub [0] [(0, .ref (b + 8))] rfl ?_
    exact t_X9_standSentence_26 hK N _ _ _ h
  · rw [if_pos c4] at h
    refine at_aload_n 0 dX9_standSentence_12 rfl ?_
    refine at_getf cl_X9 (by decide) fl_X9_50 hg_8 rfl dX9_standSentence_13 ?_
    refine at_aload_n 0 dX9_standSentence_16 rfl ?_
    refine at_getf cl_X9 (by decide) fl_X9_24 hg_8 rfl dX9_standSentence_17 ?_
    obtain ⟨q5, hq5, h⟩ := sp_bind h
    refine at_callVi (st := []) hK mt_X6_isLine ml_X9_124 cl_X6 hg_5 (t_X6d_isLine hK hq5) rfl rfl (Nat.le_of_ble_eq_true rfl) ⟨Nat.le_of_ble_eq_true rfl, Nat.le_of_ble_eq_true rfl⟩ ⟨Nat.le_refl _, Nat.le_refl _⟩ dX9_standSentence_20 ?_
    refine at_zne 32 dX9_standSentence_23 (by decide) (fun c6 => ?_) (fun c6 => ?_)
    · rw [if_pos c6] at h
      refine at_aload_n 0 dX9_standSentence_32 rfl ?_
      refine at_getf cl_X9 (by decide) fl_X9_50 hg_8 rfl dX9_standSentence_33 ?_
      refine at_getf cl_X6 (by decide) fl_X9_127 hg_5 rfl dX9_standSentence_36 ?_
      refine at_aload_n 0 dX9_standSentence_39 rfl ?_
      refine at_getf cl_X9 (by decide) fl_X9_50 hg_8 rfl dX9_standSentence_40 ?_
      refine at_getf cl_X6 (by decide) fl_X9_130 hg_5 rfl dX9_standSentence_43 ?_
      refine at_ior dX9_standSentence_46 ?_
      refine at_aload_n 0 dX9_standSentence_47 rfl ?_
      refine at_getf cl_X9 (by decide) fl_X9_24 hg_8 rfl dX9_standSentence_48 ?_
      obtain ⟨q7, hq7, h⟩ := sp_bind h
      refine at_callSi (st := []) hK mt_X11_has ml_X9_133 (t_X11_has hK hq7) rfl rfl (Nat.le_of_ble_eq_true rfl) ⟨Nat.le_of_ble_eq_true rfl, Nat.le_of_ble_eq_true rfl⟩ ⟨Nat.le_refl _, Nat.le_refl _⟩ dX9_standSentence_51 ?_
      refine at_zeq 63 dX9_standSentence_54 (by decide) (fun c8 => ?_) (fun c8 => ?_)
      · rw [if_neg c8] at h
        refine at_iload_n 1 dX9_standSentence_63 rfl ?_
        refine at_if_eq 88 dX9_standSentence_64 (by decide) (fun c9 => ?_) (fun c9 => ?_)
        · rw [if_pos c9] at h
          refine at_aload_n 0 dX9_standSentence_88 rfl ?_
          refine at_getf cl_X9 (by decide) fl_X9_50 hg_8 rfl dX9_standSentence_89 ?_
          refine at_dup dX9_standSentence_92 rfl ?_
          refine at_getf cl_X6 (by decide) fl_X9_130 hg_5 rfl dX9_standSentence_93 ?_
          refine at_iconst 1 dX9_standSentence_96 ic_1 ?_
          refine at_aload_n 0 dX9_standSentence_97 rfl ?_
          refine at_getf cl_X9 (by decide) fl_X9_24 hg_8 rfl dX9_standSentence_98 ?_
          refine at_ishl dX9_standSentence_101 ?_
          refine at_ior dX9_standSentence_102 ?_
          refine at_putf cl_X6 (by decide) fl_X9_130 rfl hg_5 rfl rfl (Nat.le_of_ble_eq_true rfl) hs_5_8 dX9_standSentence_103 ?_
          refine at_sub [0] [(0, .ref (b + 8))] rfl ?_
          exact t_X9_standSentence_106 hK N _ _ _ h
        · rw [if_neg c9] at h
          refine at_aload_n 0 dX9_standSentence_67 rfl ?_
          refine at_getf cl_X9 (by decide) fl_X9_50 hg_8 rfl dX9_standSentence_68 ?_
          refine at_dup dX9_standSentence_71 rfl ?_
          refine at_getf cl_X6 (by decide) fl_X9_127 hg_5 rfl dX9_standSentence_72 ?_
          refine at_iconst 1 dX9_standSentence_75 ic_1 ?_
          refine at_aload_n 0 dX9_standSentence_76 rfl ?_
          refine at_getf cl_X9 (by decide) fl_X9_24 hg_8 rfl dX9_standSentence_77 ?_
          refine at_ishl dX9_standSentence_80 ?_
          refine at_ior dX9_standSentence_81 ?_
          refine at_putf cl_X6 (by decide) fl_X9_127 rfl hg_5 rfl rfl (Nat.le_of_ble_eq_true rfl) hs_5_7 dX9_standSentence_82 ?_
          refine at_goto 106 dX9_standSentence_85 (by decide) ?_
          refine at_sub [0] [(0, .ref (b + 8))] rfl ?_
          exact t_X9_standSentence_106 hK N _ _ _ h
      · rw [if_pos c8] at h
        refine at_aload_n 0 dX9_standSentence_57 rfl ?_
        refine at_iconst 3 dX9_standSentence_58 ic_3 ?_
        obtain ⟨q10, hq10, h⟩ := sp_bind h
        refine at_callVi (st := []) hK mt_X9_refuse ml_X9_78 cl_X9 hg_8 (t_X9_refuse hK hq10) rfl rfl (Nat.le_of_ble_eq_true rfl) ⟨Nat.le_of_ble_eq_true rfl, Nat.le_of_ble_eq_true rfl⟩ ⟨Nat.le_refl _, Nat.le_refl _⟩ dX9_standSentence_59 ?_
        cases h; exact at_zret rfl (sp_bz _) (Nat.le_refl _) (Nat.le_refl _) ⟨rfl, rfl⟩ dX9_standSentence_62
    · rw [if_neg c6] at h
      refine at_sub [0] [(0, .ref (b + 8))] rfl ?_
      exact t_X9_standSentence_26 hK N _ _ _ h
set_option maxRecDepth 100000 in
theorem t_X9_sentence_23 {D : va_G} {b : Nat} {K : State → Heap → Prop} {sa : Nat → Nat} (hK : sx_Kk b K sa) (N : Nat) {uG uN uF uP uL uT uA uM uH xA xB xC xD xE xF xG xH xI xJ xK xL uO : sx_C} {G : sx_H} (res : Bool × sx_C × sx_C) : ∀ (v1 : Int32) (uD : sx_C) (uR : sx_C), f_X9_sentence_23 N uG v1 uD uR = some res → sx_At D b K YX9_sentence (sx_rm 7) (sx_Ex (some (.int (sp_b res.1))) (sx_hp b uG uN (res.2.1) (res.2.2) uF uP uL uT uA uM uH xA xB xC xD xE xF xG xH xI xJ xK xL uO G)) 23 [(0, .ref (b + 8)), (1, .int v1)] [] (sx_hp b uG uN uD uR uF uP uL uT uA uM uH xA xB xC xD xE xF xG xH xI xJ xK xL uO G) 0 0 := by
  intro v1 uD uR h
  rw [f_X9_sentence_23] at h
  refine at_iload_n 1 dX9_sentence_23 rfl ?_
  by_cases c1 : v1 = 1
  · rw [if_pos c1] at h
    refine at_tbC c1 64 dX9_sentence_24 (by decide) (by decide) rfl (by decide) ?_
    refine at_aload_n 0 dX9_sentence_64 rfl ?_
    obtain ⟨q2, hq2, h⟩ := sp_bind h
    refine at_callVi (st := []) hK mt_X9_knotsSentence ml_X9_86 cl_X9 hg_8 (t_X9_knotsSentence hK hq2) rfl rfl (Nat.le_of_ble_eq_true rfl) ⟨Nat.le_of_ble_eq_true rfl, Nat.le_of_ble_eq_true rfl⟩ ⟨Nat.le_refl _, Nat.le_refl _⟩ dX9_sentence_65 ?_
    cases h; exact at_zret rfl (sp_bz _) (Nat.le_refl _) (Nat.le_refl _) ⟨rfl, rfl⟩ dX9_sentence_68
  · rw [if_neg c1] at h
    by_cases c3 : v1 = 2
    · rw [if_pos c3] at h
      refine at_tbC c3 69 dX9_sentence_24 (by decide) (by decide) rfl (by decide) ?_
      refine at_aload_n 0 dX9_sentence_69 rfl ?_
      obtain ⟨q4, hq4, h⟩ := sp_bind h
      refine at_callVi (st := []) hK mt_X9_endsSentence ml_X9_89 cl_X9 hg_8 (t_X9_endsSentence hK hq4) rfl rfl (Nat.le_of_ble_eq_true rfl) ⟨Nat.le_of_ble_eq_true rfl, Nat.le_of_ble_eq_true rfl⟩ ⟨Nat.le_refl _, Nat.le_refl _⟩ dX9_sentence_70 ?_
      cases h; exact at_zret rfl (sp_bz _) (Nat.le_refl _) (Nat.le_refl _) ⟨rfl, rfl⟩ dX9_sentence_73
    · rw [if_neg c3] at h
      by_cases c5 : v1 = 3
      · rw [if_pos c5] at h
        refine at_tbC c5 74 dX9_sentence_24 (by decide) (by decide) rfl (by decide) ?_
        refine at_aload_n 0 dX9_sentence_74 rfl ?_
        obtain ⟨q6, hq6, h⟩ := sp_bind h
        refine at_callVi (st := []) hK mt_X9_lineSentence ml_X9_92 cl_X9 hg_8 (t_X9_lineSentence hK hq6) rfl rfl (Nat.le_of_ble_eq_true rfl) ⟨Nat.le_of_ble_eq_true rfl, Nat.le_of_ble_eq_true rfl⟩ ⟨Nat.le_refl _, Nat.le_refl _⟩ dX9_sentence_75 ?_
        cases h; exact at_zret rfl (sp_bz _) (Nat.le_refl _) (Nat.le_refl _) ⟨rfl, rfl⟩ dX9_sentence_78
      · rw [if_neg c5] at h
        by_cases c7 : v1 = 4
        · rw [if_pos c7] at h
          refine at_tbC c7 79 dX9_sentence_24 (by decide) (by decide) rfl (by decide) ?_
          refine at_aload_n 0 dX9_sentence_79 rfl ?_
          refine at_iconst 1 dX9_sentence_80 ic_1 ?_
          obtain ⟨q8, hq8, h⟩ := sp_bind h
          refine at_callVi (st := []) hK mt_X9_standSentence ml_X9_95 cl_X9 hg_8 (t_X9_standSentence hK hq8) rfl rfl (Nat.le_of_ble_eq_true rfl) ⟨Nat.le_of_ble_eq_true rfl, Nat.le_of_ble_eq_true rfl⟩ ⟨Nat.le_refl _, Nat.le_refl _⟩ dX9_sentence_81 ?_
          cases h; exact at_zret rfl (sp_bz _) (Nat.le_refl _) (Nat.le_refl _) ⟨rfl, rfl⟩ dX9_sentence_84
        · rw [if_neg c7] at h
          by_cases c9 : v1 = 5
          · rw [if_pos c9] at h
            refine at_tbC c9 85 dX9_sentence_24 (by decide) (by decide) rfl (by decide) ?_
            refine at_aload_n 0 dX9_sentence_85 rfl ?_
            refine at_iconst 0 dX9_sentence_86 ic_0 ?_
            obtain ⟨q10, hq10, h⟩ := sp_bind h
            refine at_callVi (st := []) hK mt_X9_standSentence ml_X9_95 cl_X9 hg_8 (t_X9_standSentence hK hq10) rfl rfl (Nat.le_of_ble_eq_true rfl) ⟨Nat.le_of_ble_eq_true rfl, Nat.le_of_ble_eq_true rfl⟩ ⟨Nat.le_refl _, Nat.le_refl _⟩ dX9_sentence_87 ?_
            cases h; exact at_zret rfl (sp_bz _) (Nat.le_refl _) (Nat.le_refl _) ⟨rfl, rfl⟩ dX9_sentence_90
          · rw [if_neg c9] at h
            by_cases c11 : v1 = 6
            · rw [if_pos c11] at h
              refine at_tbC c11 91 dX9_sentence_24 (by decide) (by decide) rfl (by decide) ?_
              refine at_aload_n 0 dX9_sentence_91 rfl ?_
              obtain ⟨q12, hq12, h⟩ := sp_bind h
              refine at_callVi (st := []) hK mt_X9_firstSentence ml_X9_99 cl_X9 hg_8 (t_X9_firstSentence hK hq12) rfl rfl (Nat.le_of_ble_eq_true rfl) ⟨Nat.le_of_ble_eq_true rfl, Nat.le_of_ble_eq_true rfl⟩ ⟨Nat.le_refl _, Nat.le_refl _⟩ dX9_sentence_92 ?_
              cases h; exact at_zret rfl (sp_bz _) (Nat.le_refl _) (Nat.le_refl _) ⟨rfl, rfl⟩ dX9_sentence_95
            · rw [if_neg c11] at h
              refine at_tbOut 96 dX9_sentence_24 (by have e0 := sp_ne (1) (by decide) c1; have e1 := sp_ne (2) (by decide) c3; have e2 := sp_ne (3) (by decide) c5; have e3 := sp_ne (4) (by decide) c7; have e4 := sp_ne (5) (by decide) c9; have e5 := sp_ne (6) (by decide) c11; omega) (by decide) ?_
              refine at_aload_n 0 dX9_sentence_96 rfl ?_
              refine at_iconst 1 dX9_sentence_97 ic_1 ?_
              obtain ⟨q13, hq13, h⟩ := sp_bind h
              refine at_callVi (st := []) hK mt_X9_refuse ml_X9_78 cl_X9 hg_8 (t_X9_refuse hK hq13) rfl rfl (Nat.le_of_ble_eq_true rfl) ⟨Nat.le_of_ble_eq_true rfl, Nat.le_of_ble_eq_true rfl⟩ ⟨Nat.le_refl _, Nat.le_refl _⟩ dX9_sentence_98 ?_
              cases h; exact at_zret rfl (sp_bz _) (Nat.le_refl _) (Nat.le_refl _) ⟨rfl, rfl⟩ dX9_sentence_101
set_option maxRecDepth 100000 in
theorem t_X9_sentence {D : va_G} {b : Nat} {K : State → Heap → Prop} {sa : Nat → Nat} (hK : sx_Kk b K sa) {N : Nat} {uG uN uF uP uL uT uA uM uH xA xB xC xD xE xF xG xH xI xJ xK xL uO : sx_C} {G : sx_H} {uD : sx_C} {uR : sx_C} {res : Bool × sx_C × sx_C} (h : f_X9_sentence N uG uD uR = some res) : sx_Runs D b K yX9_sentence YX9_sentence (sx_rm 7) [.ref (b + 8)] (sx_hp b uG uN uD uR uF uP uL uT uA uM uH xA xB xC xD xE xF xG xH xI xJ xK xL uO G) (sx_Ex (some (.int (sp_b res.1))) (sx_hp b uG uN (res.2.1) (res.2.2) uF uP uL uT uA uM uH xA xB xC xD xE xF xG xH xI xJ xK xL uO G)) := by
  rw [f_X9_sentence] at h
  refine sx_run (by decide +kernel) rfl rfl (Nat.le_of_ble_eq_true rfl) ?_
  refine at_aload_n 0 dX9_sentence_0 rfl ?_
  obtain ⟨q14, hq14, h⟩ := sp_bind h
  refine at_callVi (st := []) hK mt_X9_word ml_X9_82 cl_X9 hg_8 (t_X9_word hK hq14) rfl rfl (Nat.le_of_ble_eq_true rfl) ⟨Nat.le_of_ble_eq_true rfl, Nat.le_of_ble_eq_true rfl⟩ ⟨Nat.le_refl _, Nat.le_refl _⟩ dX9_sentence_1 ?_
  refine at_istore_n [(0, .ref (b + 8)), (1, .int q14)] dX9_sentence_4 (Nat.le_of_ble_eq_true rfl) rfl ?_
  refine at_aload_n 0 dX9_sentence_5 rfl ?_
  refine at_getf cl_X9 (by decide) fl_X9_30 hg_8 rfl dX9_sentence_6 ?_
  refine at_if_ne 23 dX9_sentence_9 (by decide) (fun c15 => ?_) (fun c15 => ?_)
  · rw [if_neg c15] at h
    exact t_X9_sentence_23 hK N _ _ _ _ h
  · rw [if_pos c15] at h
    refine at_iload_n 1 dX9_sentence_12 rfl ?_
    refine at_iconst 1 dX9_sentence_13 ic_1 ?_
    refine at_icmp_eq 23 dX9_sentence_14 (by decide) (fun c16 => ?_) (fun c16 => ?_)
    · rw [if_pos c16] at h
      exact t_X9_sentence_23 hK N _ _ _ _ h
    · rw [if_neg c16] at h
      refine at_aload_n 0 dX9_sentence_17 rfl ?_
      refine at_iconst 1 dX9_sentence_18 ic_1 ?_
      obtain ⟨q17, hq17, h⟩ := sp_bind h
      refine at_callVi (st := []) hK mt_X9_refuse ml_X9_78 cl_X9 hg_8 (t_X9_refuse hK hq17) rfl rfl (Nat.le_of_ble_eq_true rfl) ⟨Nat.le_of_ble_eq_true rfl, Nat.le_of_ble_eq_true rfl⟩ ⟨Nat.le_refl _, Nat.le_refl _⟩ dX9_sentence_19 ?_
      cases h; exact at_zret rfl (sp_bz _) (Nat.le_refl _) (Nat.le_refl _) ⟨rfl, rfl⟩ dX9_sentence_22
set_option maxRecDepth 100000 in
theorem t_X9_stop {D : va_G} {b : Nat} {K : State → Heap → Prop} {sa : Nat → Nat} (hK : sx_Kk b K sa) {N : Nat} {uG uN uD uF uP uL uT uA uM uH xA xB xC xD xE xF xG xH xI xJ xK xL uO : sx_C} {G : sx_H} {uR : sx_C} {res : Bool × sx_C} (h : f_X9_stop N uG uR = some res) : sx_Runs D b K yX9_stop YX9_stop (sx_rm 3) [.ref (b + 8)] (sx_hp b uG uN uD uR uF uP uL uT uA uM uH xA xB xC xD xE xF xG xH xI xJ xK xL uO G) (sx_Ex (some (.int (sp_b res.1))) (sx_hp b uG uN uD (res.2) uF uP uL uT uA uM uH xA xB xC xD xE xF xG xH xI xJ xK xL uO G)) := by
  rw [f_X9_stop] at h
  refine sx_run (by decide +kernel) rfl rfl (Nat.le_of_ble_eq_true rfl) ?_
  refine at_aload_n 0 dX9_stop_0 rfl ?_
  refine at_getf cl_X9 (by decide) fl_X9_18 hg_8 rfl dX9_stop_1 ?_
  refine at_iconst 3 dX9_stop_4 ic_3 ?_
  refine at_icmp_eq 14 dX9_stop_5 (by decide) (fun c1 => ?_) (fun c1 => ?_)
  · rw [if_pos c1] at h
    refine at_aload_n 0 dX9_stop_14 rfl ?_
    obtain ⟨q2, hq2, h⟩ := sp_bind h
    refine at_callVv (st := []) hK mt_X9_step ml_X9_65 cl_X9 hg_8 (t_X9_step hK hq2) rfl rfl (Nat.le_of_ble_eq_true rfl) ⟨Nat.le_of_ble_eq_true rfl, Nat.le_of_ble_eq_true rfl⟩ ⟨Nat.le_refl _, Nat.le_refl _⟩ dX9_stop_15 ?_
    refine at_iconst 1 dX9_stop_18 ic_1 ?_
    cases h; exact at_zret rfl rfl (Nat.le_refl _) (Nat.le_refl _) ⟨rfl, rfl⟩ dX9_stop_19
  · rw [if_neg c1] at h
    refine at_aload_n 0 dX9_stop_8 rfl ?_
    refine at_iconst 1 dX9_stop_9 ic_1 ?_
    obtain ⟨q3, hq3, h⟩ := sp_bind h
    refine at_callVi (st := []) hK mt_X9_refuse ml_X9_78 cl_X9 hg_8 (t_X9_refuse hK hq3) rfl rfl (Nat.le_of_ble_eq_true rfl) ⟨Nat.le_of_ble_eq_true rfl, Nat.le_of_ble_eq_true rfl⟩ ⟨Nat.le_refl _, Nat.le_refl _⟩ dX9_stop_10 ?_
    cases h; exact at_zret rfl (sp_bz _) (Nat.le_refl _) (Nat.le_refl _) ⟨rfl, rfl⟩ dX9_stop_13
set_option maxRecDepth 100000 in
theorem t_X9_read_56 {D : va_G} {b : Nat} {K : State → Heap → Prop} {sa : Nat → Nat} (hK : sx_Kk b K sa) (N : Nat) {uG uN uF uP uL uT uA uM uH xA xB xC xD xE xF xG xH xI xJ xK xL uO : sx_C} {G : sx_H} (res : Bool × sx_C × sx_C) : ∀ (n0 : Nat) (v2 : Int32) (uD : sx_C) (uR : sx_C), f_X9_read_56 N uG n0 v2 uD uR = some res → sx_At D b K YX9_read (sx_rm 8) (sx_Ex (some (.int (sp_b res.1))) (sx_hp b uG uN (res.2.1) (res.2.2) uF uP uL uT uA uM uH xA xB xC xD xE xF xG xH xI xJ xK xL uO G)) 56 [(0, .ref (b + 8)), (2, .int v2)] [] (sx_hp b uG uN uD uR uF uP uL uT uA uM uH xA xB xC xD xE xF xG xH xI xJ xK xL uO G) 0 0 := by
  intro n0
  induction n0 with
  | zero => intro _ _ _ h; cases h
  | succ n0 ih =>
    intro v2 uD uR h
    rw [f_X9_read_56] at h
    refine at_iload_n 1 dX9_read_56 rfl ?_
    refine at_sipush 600 dX9_read_57 sh_600 ?_
    refine at_icmp_ge 105 dX9_read_60 (by decide) (fun c1 => ?_) (fun c1 => ?_)
    · rw [if_pos c1] at h
      refine at_iconst 1 dX9_read_105 ic_1 ?_
      cases h; exact at_zret rfl rfl (Nat.le_refl _) (Nat.le_refl _) ⟨rfl, rfl⟩ dX9_read_106
    · rw [if_neg c1] at h
      refine at_aload_n 0 dX9_read_63 rfl ?_
      refine at_getf cl_X9 (by decide) fl_X9_18 hg_8 rfl dX9_read_64 ?_
      refine at_if_eq 105 dX9_read_67 (by decide) (fun c2 => ?_) (fun c2 => ?_)
      · rw [if_pos c2] at h
        refine at_iconst 1 dX9_read_105 ic_1 ?_
        cases h; exact at_zret rfl rfl (Nat.le_refl _) (Nat.le_refl _) ⟨rfl, rfl⟩ dX9_read_106
      · rw [if_neg c2] at h
        refine at_aload_n 0 dX9_read_70 rfl ?_
        obtain ⟨q3, hq3, h⟩ := sp_bind h
        refine at_callVi (st := []) hK mt_X9_sentence ml_X9_68 cl_X9 hg_8 (t_X9_sentence hK hq3) rfl rfl (Nat.le_of_ble_eq_true rfl) ⟨Nat.le_of_ble_eq_true rfl, Nat.le_of_ble_eq_true rfl⟩ ⟨Nat.le_refl _, Nat.le_refl _⟩ dX9_read_71 ?_
        refine at_zeq 84 dX9_read_74 (by decide) (fun c4 => ?_) (fun c4 => ?_)
        · rw [if_neg c4] at h
          refine at_iconst 0 dX9_read_84 ic_0 ?_
          cases h; exact at_zret rfl rfl (Nat.le_refl _) (Nat.le_refl _) ⟨rfl, rfl⟩ dX9_read_85
        · rw [if_pos c4] at h
          refine at_aload_n 0 dX9_read_77 rfl ?_
          obtain ⟨q5, hq5, h⟩ := sp_bind h
          refine at_callVi (st := []) hK mt_X9_stop ml_X9_72 cl_X9 hg_8 (t_X9_stop hK hq5) rfl rfl (Nat.le_of_ble_eq_true rfl) ⟨Nat.le_of_ble_eq_true rfl, Nat.le_of_ble_eq_true rfl⟩ ⟨Nat.le_refl _, Nat.le_refl _⟩ dX9_read_78 ?_
          refine at_zne 86 dX9_read_81 (by decide) (fun c6 => ?_) (fun c6 => ?_)
          · rw [if_pos c6] at h
            refine at_aload_n 0 dX9_read_86 rfl ?_
            refine at_getf cl_X9 (by decide) fl_X9_50 hg_8 rfl dX9_read_87 ?_
            refine at_dup dX9_read_90 rfl ?_
            refine at_getf cl_X6 (by decide) fl_X9_75 hg_5 rfl dX9_read_91 ?_
            refine at_iconst 1 dX9_read_94 ic_1 ?_
            refine at_iadd dX9_read_95 ?_
            refine at_putf cl_X6 (by decide) fl_X9_75 rfl hg_5 rfl rfl (Nat.le_of_ble_eq_true rfl) hs_5_6 dX9_read_96 ?_
            refine at_iinc 1 1 [(0, .ref (b + 8)), (2, .int (v2 + 1))] dX9_read_99 rfl ic_1 (Nat.le_of_ble_eq_true rfl) rfl ?_
            refine at_goto 56 dX9_read_102 (by decide) ?_
            exact ih _ _ _ h
          · rw [if_neg c6] at h
            refine at_iconst 0 dX9_read_84 ic_0 ?_
            cases h; exact at_zret rfl rfl (Nat.le_refl _) (Nat.le_refl _) ⟨rfl, rfl⟩ dX9_read_85
set_option maxRecDepth 100000 in
theorem t_X9_read {D : va_G} {b : Nat} {K : State → Heap → Prop} {sa : Nat → Nat} (hK : sx_Kk b K sa) {N : Nat} {uG uN uF uP uL uT uA uM uH xA xB xC xD xE xF xG xH xI xJ xK xL uO : sx_C} {G : sx_H} {v1 : Int32} {uD : sx_C} {uR : sx_C} {res : Bool × sx_C × sx_C} (h : f_X9_read N uG v1 uD uR = some res) : sx_Runs D b K yX9_read YX9_read (sx_rm 8) [.ref (b + 8), .int v1] (sx_hp b uG uN uD uR uF uP uL uT uA uM uH xA xB xC xD xE xF xG xH xI xJ xK xL uO G) (sx_Ex (some (.int (sp_b res.1))) (sx_hp b uG uN (res.2.1) (res.2.2) uF uP uL uT uA uM uH xA xB xC xD xE xF xG xH xI xJ xK xL uO G)) := by
  rw [f_X9_read] at h
  refine sx_run (by decide +kernel) rfl rfl (Nat.le_of_ble_eq_true rfl) ?_
  refine at_aload_n 0 dX9_read_0 rfl ?_
  refine at_iload_n 1 dX9_read_1 rfl ?_
  refine at_aload_n 0 dX9_read_2 rfl ?_
  refine at_getf cl_X9 (by decide) fl_X9_46 hg_8 rfl dX9_read_3 ?_
  refine at_alen hg_1 nl_600 dX9_read_6 ?_
  obtain ⟨q7, hq7, h⟩ := sp_bind h
  refine at_callSi (st := [.ref (b + 8)]) hK mt_J9_min_7cf53 ml_X9_54 (t_J9_min_7cf53 hK hq7) rfl rfl (Nat.le_of_ble_eq_true rfl) ⟨Nat.le_of_ble_eq_true rfl, Nat.le_of_ble_eq_true rfl⟩ ⟨Nat.le_refl _, Nat.le_refl _⟩ dX9_read_7 ?_
  refine at_putf cl_X9 (by decide) fl_X9_9 rfl hg_8 rfl rfl (Nat.le_of_ble_eq_true rfl) hs_8_2 dX9_read_10 ?_
  refine at_aload_n 0 dX9_read_13 rfl ?_
  refine at_iconst 0 dX9_read_14 ic_0 ?_
  refine at_putf cl_X9 (by decide) fl_X9_15 rfl hg_8 rfl rfl (Nat.le_of_ble_eq_true rfl) hs_8_3 dX9_read_15 ?_
  refine at_aload_n 0 dX9_read_18 rfl ?_
  refine at_iconst 0 dX9_read_19 ic_0 ?_
  refine at_putf cl_X9 (by decide) fl_X9_30 rfl hg_8 rfl rfl (Nat.le_of_ble_eq_true rfl) hs_8_8 dX9_read_20 ?_
  refine at_aload_n 0 dX9_read_23 rfl ?_
  refine at_iconst 0 dX9_read_24 ic_0 ?_
  refine at_putf cl_X9 (by decide) fl_X9_34 rfl hg_8 rfl rfl (Nat.le_of_ble_eq_true rfl) hs_8_9 dX9_read_25 ?_
  refine at_aload_n 0 dX9_read_28 rfl ?_
  refine at_iconst 0 dX9_read_29 ic_0 ?_
  refine at_putf cl_X9 (by decide) fl_X9_37 rfl hg_8 rfl rfl (Nat.le_of_ble_eq_true rfl) hs_8_10 dX9_read_30 ?_
  refine at_aload_n 0 dX9_read_33 rfl ?_
  refine at_iconst 0 dX9_read_34 ic_0 ?_
  refine at_putf cl_X9 (by decide) fl_X9_40 rfl hg_8 rfl rfl (Nat.le_of_ble_eq_true rfl) hs_8_11 dX9_read_35 ?_
  refine at_aload_n 0 dX9_read_38 rfl ?_
  refine at_iconst (-1) dX9_read_39 ic_m1 ?_
  refine at_putf cl_X9 (by decide) fl_X9_43 rfl hg_8 rfl rfl (Nat.le_of_ble_eq_true rfl) hs_8_12 dX9_read_40 ?_
  refine at_aload_n 0 dX9_read_43 rfl ?_
  refine at_getf cl_X9 (by decide) fl_X9_50 hg_8 rfl dX9_read_44 ?_
  obtain ⟨q8, hq8, h⟩ := sp_bind h
  refine at_callVv (st := []) hK mt_X6_wipe ml_X9_60 cl_X6 hg_5 (t_X6d_wipe hK hq8) rfl rfl (Nat.le_of_ble_eq_true rfl) ⟨Nat.le_of_ble_eq_true rfl, Nat.le_of_ble_eq_true rfl⟩ ⟨Nat.le_refl _, Nat.le_refl _⟩ dX9_read_47 ?_
  refine at_aload_n 0 dX9_read_50 rfl ?_
  obtain ⟨q9, hq9, h⟩ := sp_bind h
  refine at_callVv (st := []) hK mt_X9_step ml_X9_65 cl_X9 hg_8 (t_X9_step hK hq9) rfl rfl (Nat.le_of_ble_eq_true rfl) ⟨Nat.le_of_ble_eq_true rfl, Nat.le_of_ble_eq_true rfl⟩ ⟨Nat.le_refl _, Nat.le_refl _⟩ dX9_read_51 ?_
  refine at_iconst 0 dX9_read_54 ic_0 ?_
  refine at_istore_n [(0, .ref (b + 8)), (1, .int v1), (2, .int 0)] dX9_read_55 (Nat.le_of_ble_eq_true rfl) rfl ?_
  refine at_sub [0, 2] [(0, .ref (b + 8)), (2, .int 0)] rfl ?_
  exact t_X9_read_56 hK N _ N _ _ _ h
set_option maxRecDepth 100000 in
theorem t_X11_text {D : va_G} {b : Nat} {K : State → Heap → Prop} {sa : Nat → Nat} (hK : sx_Kk b K sa) {N : Nat} {uF uP uT uA uM xA xB xC xD xE xF xG xH xI xJ xK xL uO : sx_C} {G : sx_H} {v1 : Int32} {uG : sx_C} {uN : sx_C} {uD : sx_C} {uR : sx_C} {uL : sx_C} {uH : sx_C} {res : Int32 × sx_C × sx_C × sx_C × sx_C × sx_C × sx_C} (h : f_X11_text N v1 uG uN uD uR uL uH = some res) : sx_Runs D b K yX11_text YX11_text (sx_rm 9) [.ref (b + 0), .int v1] (sx_hp b uG uN uD uR uF uP uL uT uA uM uH xA xB xC xD xE xF xG xH xI xJ xK xL uO G) (sx_Ex (some (.int res.1)) (sx_hp b (res.2.1) (res.2.2.1) (res.2.2.2.1) (res.2.2.2.2.1) uF uP (res.2.2.2.2.2.1) uT uA uM (res.2.2.2.2.2.2) xA xB xC xD xE xF xG xH xI xJ xK xL uO G)) := by
  rw [f_X11_text] at h
  refine sx_run (by decide +kernel) rfl rfl (Nat.le_of_ble_eq_true rfl) ?_
  refine at_iload_n 1 dX11_text_0 rfl ?_
  refine at_if_lt 12 dX11_text_1 (by decide) (fun c1 => ?_) (fun c1 => ?_)
  · rw [if_pos c1] at h
    refine at_bipush (-2) dX11_text_12 bp_m2 ?_
    cases h; exact at_iret rfl (Nat.le_refl _) (Nat.le_refl _) ⟨rfl, rfl⟩ dX11_text_14
  · rw [if_neg c1] at h
    refine at_iload_n 1 dX11_text_4 rfl ?_
    refine at_aload_n 0 dX11_text_5 rfl ?_
    refine at_getf cl_X11 (by decide) fl_X11_87 hg_0 rfl dX11_text_6 ?_
    refine at_icmp_le 15 dX11_text_9 (by decide) (fun c2 => ?_) (fun c2 => ?_)
    · rw [if_pos c2] at h
      refine at_aload_n 0 dX11_text_15 rfl ?_
      refine at_iconst 0 dX11_text_16 ic_0 ?_
      refine at_putf cl_X11 (by decide) fl_X11_87 rfl hg_0 rfl rfl (Nat.le_of_ble_eq_true rfl) hs_0_11 dX11_text_17 ?_
      refine at_aload_n 0 dX11_text_20 rfl ?_
      refine at_getf cl_X11 (by decide) fl_X11_28 hg_0 rfl dX11_text_21 ?_
      refine at_iload_n 1 dX11_text_24 rfl ?_
      obtain ⟨q3, hq3, h⟩ := sp_bind h
      refine at_callVi (st := []) hK mt_X9_read ml_X11_110 cl_X9 hg_8 (t_X9_read hK hq3) rfl rfl (Nat.le_of_ble_eq_true rfl) ⟨Nat.le_of_ble_eq_true rfl, Nat.le_of_ble_eq_true rfl⟩ ⟨Nat.le_refl _, Nat.le_refl _⟩ dX11_text_25 ?_
      refine at_istore_n [(0, .ref (b + 0)), (1, .int v1), (2, .int (sp_b (q3.1)))] dX11_text_28 (Nat.le_of_ble_eq_true rfl) rfl ?_
      refine at_aload_n 0 dX11_text_29 rfl ?_
      refine at_aload_n 0 dX11_text_30 rfl ?_
      refine at_getf cl_X11 (by decide) fl_X11_28 hg_0 rfl dX11_text_31 ?_
      refine at_getf cl_X9 (by decide) fl_X11_114 hg_8 rfl dX11_text_34 ?_
      refine at_putf cl_X11 (by decide) fl_X11_100 rfl hg_0 rfl rfl (Nat.le_of_ble_eq_true rfl) hs_0_15 dX11_text_37 ?_
      refine at_aload_n 0 dX11_text_40 rfl ?_
      refine at_aload_n 0 dX11_text_41 rfl ?_
      refine at_getf cl_X11 (by decide) fl_X11_28 hg_0 rfl dX11_text_42 ?_
      refine at_getf cl_X9 (by decide) fl_X11_115 hg_8 rfl dX11_text_45 ?_
      refine at_putf cl_X11 (by decide) fl_X11_103 rfl hg_0 rfl rfl (Nat.le_of_ble_eq_true rfl) hs_0_16 dX11_text_48 ?_
      refine at_iload_n 2 dX11_text_51 rfl ?_
      refine at_zne 57 dX11_text_52 (by decide) (fun c4 => ?_) (fun c4 => ?_)
      · rw [if_pos c4] at h
        refine at_aload_n 0 dX11_text_57 rfl ?_
        obtain ⟨q5, hq5, h⟩ := sp_bind h
        refine at_callVv (st := []) hK mt_X11_beginDraft ml_X11_116 cl_X11 hg_0 (t_X11_beginDraft hK hq5) rfl rfl (Nat.le_of_ble_eq_true rfl) ⟨Nat.le_of_ble_eq_true rfl, Nat.le_of_ble_eq_true rfl⟩ ⟨Nat.le_refl _, Nat.le_refl _⟩ dX11_text_58 ?_
        refine at_aload_n 0 dX11_text_61 rfl ?_
        refine at_getf cl_X11 (by decide) fl_X11_16 hg_0 rfl dX11_text_62 ?_
        refine at_getf cl_X6 (by decide) fl_X11_119 hg_2 rfl dX11_text_65 ?_
        cases h; exact at_iret rfl (Nat.le_refl _) (Nat.le_refl _) ⟨rfl, rfl⟩ dX11_text_68
      · rw [if_neg c4] at h
        refine at_iconst (-1) dX11_text_55 ic_m1 ?_
        cases h; exact at_iret rfl (Nat.le_refl _) (Nat.le_refl _) ⟨rfl, rfl⟩ dX11_text_56
    · rw [if_neg c2] at h
      refine at_bipush (-2) dX11_text_12 bp_m2 ?_
      cases h; exact at_iret rfl (Nat.le_refl _) (Nat.le_refl _) ⟨rfl, rfl⟩ dX11_text_14
set_option maxRecDepth 100000 in
theorem t_X11_fault {D : va_G} {b : Nat} {K : State → Heap → Prop} {sa : Nat → Nat} (hK : sx_Kk b K sa) {uG uN uD uR uF uP uL uT uA uM uH xA xB xC xD xE xF xG xH xI xJ xK xL uO : sx_C} {G : sx_H} {v1 : Int32} {res : Int32} (h : f_X11_fault uG v1 = some res) : sx_Runs D b K yX11_fault YX11_fault (sx_rm 0) [.ref (b + 0), .int v1] (sx_hp b uG uN uD uR uF uP uL uT uA uM uH xA xB xC xD xE xF xG xH xI xJ xK xL uO G) (sx_Ex (some (.int res)) (sx_hp b uG uN uD uR uF uP uL uT uA uM uH xA xB xC xD xE xF xG xH xI xJ xK xL uO G)) := by
  rw [f_X11_fault] at h
  refine sx_run (by decide +kernel) rfl rfl (Nat.le_of_ble_eq_true rfl) ?_
  refine at_iload_n 1 dX11_fault_0 rfl ?_
  by_cases c1 : v1 = 0
  · rw [if_pos c1] at h
    refine at_lkC c1 28 dX11_fault_1 (by decide) rfl (by decide) ?_
    refine at_aload_n 0 dX11_fault_28 rfl ?_
    refine at_getf cl_X11 (by decide) fl_X11_100 hg_0 rfl dX11_fault_29 ?_
    cases h; exact at_iret rfl (Nat.le_refl _) (Nat.le_refl _) ⟨rfl, rfl⟩ dX11_fault_32
  · rw [if_neg c1] at h
    by_cases c2 : v1 = 1
    · rw [if_pos c2] at h
      refine at_lkC c2 33 dX11_fault_1 (by decide) rfl (by decide) ?_
      refine at_aload_n 0 dX11_fault_33 rfl ?_
      refine at_getf cl_X11 (by decide) fl_X11_103 hg_0 rfl dX11_fault_34 ?_
      cases h; exact at_iret rfl (Nat.le_refl _) (Nat.le_refl _) ⟨rfl, rfl⟩ dX11_fault_37
    · rw [if_neg c2] at h
      refine at_lookup 38 dX11_fault_1 (by decide) (show Op.lookupswitch.offset [(0, 27), (1, 32)] 37 _ = 37 by rw [Op.lookupswitch.offset_cons, if_neg (sp_ne2 (0) (by decide) c1), Op.lookupswitch.offset_cons, if_neg (sp_ne2 (1) (by decide) c2), Op.lookupswitch.offset_nil]) (by decide) ?_
      refine at_iconst (-1) dX11_fault_38 ic_m1 ?_
      cases h; exact at_iret rfl (Nat.le_refl _) (Nat.le_refl _) ⟨rfl, rfl⟩ dX11_fault_39
set_option maxRecDepth 100000 in
theorem t_X6_isLine {D : va_G} {b : Nat} {K : State → Heap → Prop} {sa : Nat → Nat} (hK : sx_Kk b K sa) {uG uN uD uR uF uP uL uT uA uM uH xA xB xC xD xE xF xG xH xI xJ xK xL uO : sx_C} {G : sx_H} {v1 : Int32} {res : Bool} (h : f_X6_isLine uN v1 = some res) : sx_Runs D b K yX6_isLine YX6_isLine (sx_rm 0) [.ref (b + 2), .int v1] (sx_hp b uG uN uD uR uF uP uL uT uA uM uH xA xB xC xD xE xF xG xH xI xJ xK xL uO G) (sx_Ex (some (.int (sp_b res))) (sx_hp b uG uN uD uR uF uP uL uT uA uM uH xA xB xC xD xE xF xG xH xI xJ xK xL uO G)) := by
  rw [f_X6_isLine] at h
  refine sx_run (by decide +kernel) rfl rfl (Nat.le_of_ble_eq_true rfl) ?_
  refine at_iload_n 1 dX6_isLine_0 rfl ?_
  refine at_if_lt 22 dX6_isLine_1 (by decide) (fun c1 => ?_) (fun c1 => ?_)
  · rw [if_pos c1] at h
    refine at_iconst 0 dX6_isLine_22 ic_0 ?_
    cases h; exact at_zret rfl rfl (Nat.le_refl _) (Nat.le_refl _) ⟨rfl, rfl⟩ dX6_isLine_23
  · rw [if_neg c1] at h
    refine at_iload_n 1 dX6_isLine_4 rfl ?_
    refine at_aload_n 0 dX6_isLine_5 rfl ?_
    refine at_getf cl_X6 (by decide) fl_X6_31 hg_2 rfl dX6_isLine_6 ?_
    refine at_icmp_ge 22 dX6_isLine_9 (by decide) (fun c2 => ?_) (fun c2 => ?_)
    · rw [if_pos c2] at h
      refine at_iconst 0 dX6_isLine_22 ic_0 ?_
      cases h; exact at_zret rfl rfl (Nat.le_refl _) (Nat.le_refl _) ⟨rfl, rfl⟩ dX6_isLine_23
    · rw [if_neg c2] at h
      refine at_iload_n 1 dX6_isLine_12 rfl ?_
      refine at_bipush 14 dX6_isLine_13 bp_14 ?_
      refine at_icmp_ge 22 dX6_isLine_15 (by decide) (fun c3 => ?_) (fun c3 => ?_)
      · rw [if_pos c3] at h
        refine at_iconst 0 dX6_isLine_22 ic_0 ?_
        cases h; exact at_zret rfl rfl (Nat.le_refl _) (Nat.le_refl _) ⟨rfl, rfl⟩ dX6_isLine_23
      · rw [if_neg c3] at h
        refine at_iconst 1 dX6_isLine_18 ic_1 ?_
        refine at_goto 23 dX6_isLine_19 (by decide) ?_
        cases h; exact at_zret rfl rfl (Nat.le_refl _) (Nat.le_refl _) ⟨rfl, rfl⟩ dX6_isLine_23
set_option maxRecDepth 100000 in
theorem t_X6_isKnot {D : va_G} {b : Nat} {K : State → Heap → Prop} {sa : Nat → Nat} (hK : sx_Kk b K sa) {uG uN uD uR uF uP uL uT uA uM uH xA xB xC xD xE xF xG xH xI xJ xK xL uO : sx_C} {G : sx_H} {v1 : Int32} {res : Bool} (h : f_X6_isKnot uN v1 = some res) : sx_Runs D b K yX6_isKnot YX6_isKnot (sx_rm 0) [.ref (b + 2), .int v1] (sx_hp b uG uN uD uR uF uP uL uT uA uM uH xA xB xC xD xE xF xG xH xI xJ xK xL uO G) (sx_Ex (some (.int (sp_b res))) (sx_hp b uG uN uD uR uF uP uL uT uA uM uH xA xB xC xD xE xF xG xH xI xJ xK xL uO G)) := by
  rw [f_X6_isKnot] at h
  refine sx_run (by decide +kernel) rfl rfl (Nat.le_of_ble_eq_true rfl) ?_
  refine at_iload_n 1 dX6_isKnot_0 rfl ?_
  refine at_if_lt 16 dX6_isKnot_1 (by decide) (fun c1 => ?_) (fun c1 => ?_)
  · rw [if_pos c1] at h
    refine at_iconst 0 dX6_isKnot_16 ic_0 ?_
    cases h; exact at_zret rfl rfl (Nat.le_refl _) (Nat.le_refl _) ⟨rfl, rfl⟩ dX6_isKnot_17
  · rw [if_neg c1] at h
    refine at_iload_n 1 dX6_isKnot_4 rfl ?_
    refine at_aload_n 0 dX6_isKnot_5 rfl ?_
    refine at_getf cl_X6 (by decide) fl_X6_21 hg_2 rfl dX6_isKnot_6 ?_
    refine at_icmp_ge 16 dX6_isKnot_9 (by decide) (fun c2 => ?_) (fun c2 => ?_)
    · rw [if_pos c2] at h
      refine at_iconst 0 dX6_isKnot_16 ic_0 ?_
      cases h; exact at_zret rfl rfl (Nat.le_refl _) (Nat.le_refl _) ⟨rfl, rfl⟩ dX6_isKnot_17
    · rw [if_neg c2] at h
      refine at_iconst 1 dX6_isKnot_12 ic_1 ?_
      refine at_goto 17 dX6_isKnot_13 (by decide) ?_
      cases h; exact at_zret rfl rfl (Nat.le_refl _) (Nat.le_refl _) ⟨rfl, rfl⟩ dX6_isKnot_17
set_option maxRecDepth 100000 in
theorem t_J9_max_7cf53 {D : va_G} {b : Nat} {K : State → Heap → Prop} {sa : Nat → Nat} (hK : sx_Kk b K sa) {σ : sx_H} {v0 : Int32} {v1 : Int32} {res : Int32} (h : f_J9_max_7cf53 v0 v1 = some res) : sx_Runs D b K yJ9_max_7cf53 YJ9_max_7cf53 (sx_rm 0) [.int v0, .int v1] σ (sx_Ex (some (.int res)) σ) := by
  rw [f_J9_max_7cf53] at h
  refine sx_run (by decide +kernel) rfl rfl (Nat.le_of_ble_eq_true rfl) ?_
  refine at_iload_n 0 dJ9_max_7cf53_0 rfl ?_
  refine at_iload_n 1 dJ9_max_7cf53_1 rfl ?_
  refine at_icmp_lt 9 dJ9_max_7cf53_2 (by decide) (fun c1 => ?_) (fun c1 => ?_)
  · rw [if_pos c1] at h
    refine at_iload_n 1 dJ9_max_7cf53_9 rfl ?_
    cases h; exact at_iret rfl (Nat.le_refl _) (Nat.le_refl _) ⟨rfl, rfl⟩ dJ9_max_7cf53_10
  · rw [if_neg c1] at h
    refine at_iload_n 0 dJ9_max_7cf53_5 rfl ?_
    refine at_goto 10 dJ9_max_7cf53_6 (by decide) ?_
    cases h; exact at_iret rfl (Nat.le_refl _) (Nat.le_refl _) ⟨rfl, rfl⟩ dJ9_max_7cf53_10
set_option maxRecDepth 100000 in
theorem t_X8_numberOf {D : va_G} {b : Nat} {K : State → Heap → Prop} {sa : Nat → Nat} (hK : sx_Kk b K sa) {σ : sx_H} {v0 : Int32} {v1 : Int32} {res : Int32} (h : f_X8_numberOf v0 v1 = some res) : sx_Runs D b K yX8_numberOf YX8_numberOf (sx_rm 0) [.int v0, .int v1] σ (sx_Ex (some (.int res)) σ) := by
  rw [f_X8_numberOf] at h
  refine sx_run (by decide +kernel) rfl rfl (Nat.le_of_ble_eq_true rfl) ?_
  refine at_iload_n 0 dX8_numberOf_0 rfl ?_
  refine at_iconst 4 dX8_numberOf_1 ic_4 ?_
  refine at_iload_n 1 dX8_numberOf_2 rfl ?_
  refine at_imul dX8_numberOf_3 ?_
  refine at_iushr dX8_numberOf_4 ?_
  refine at_bipush 7 dX8_numberOf_5 bp_7 ?_
  refine at_iand dX8_numberOf_7 ?_
  cases h; exact at_iret rfl (Nat.le_refl _) (Nat.le_refl _) ⟨rfl, rfl⟩ dX8_numberOf_8
set_option maxRecDepth 100000 in
theorem t_X8_merged {D : va_G} {b : Nat} {K : State → Heap → Prop} {sa : Nat → Nat} (hK : sx_Kk b K sa) {σ : sx_H} {v0 : Int32} {v1 : Int32} {v2 : Int32} {res : Int32} (h : f_X8_merged v0 v1 v2 = some res) : sx_Runs D b K yX8_merged YX8_merged (sx_rm 1) [.int v0, .int v1, .int v2] σ (sx_Ex (some (.int res)) σ) := by
  rw [f_X8_merged] at h
  refine sx_run (by decide +kernel) rfl rfl (Nat.le_of_ble_eq_true rfl) ?_
  refine at_iload_n 0 dX8_merged_0 rfl ?_
  refine at_iload_n 1 dX8_merged_1 rfl ?_
  obtain ⟨q1, hq1, h⟩ := sp_bind h
  refine at_callSi (st := []) hK mt_X8_numberOf ml_X8_9 (t_X8_numberOf hK hq1) rfl rfl (Nat.le_of_ble_eq_true rfl) ⟨Nat.le_of_ble_eq_true rfl, Nat.le_of_ble_eq_true rfl⟩ ⟨Nat.le_refl _, Nat.le_refl _⟩ dX8_merged_2 ?_
  refine at_istore_n [(0, .int v0), (1, .int v1), (2, .int v2), (3, .int q1)] dX8_merged_5 (Nat.le_of_ble_eq_true rfl) rfl ?_
  refine at_iload_n 0 dX8_merged_6 rfl ?_
  refine at_iload_n 2 dX8_merged_7 rfl ?_
  obtain ⟨q2, hq2, h⟩ := sp_bind h
  refine at_callSi (st := []) hK mt_X8_numberOf ml_X8_9 (t_X8_numberOf hK hq2) rfl rfl (Nat.le_of_ble_eq_true rfl) ⟨Nat.le_of_ble_eq_true rfl, Nat.le_of_ble_eq_true rfl⟩ ⟨Nat.le_refl _, Nat.le_refl _⟩ dX8_merged_8 ?_
  refine at_istore [(0, .int v0), (1, .int v1), (2, .int v2), (3, .int q1), (4, .int q2)] dX8_merged_11 (Nat.le_of_ble_eq_true rfl) rfl ?_
  refine at_iload_n 3 dX8_merged_13 rfl ?_
  refine at_iload 4 dX8_merged_14 rfl ?_
  refine at_icmp_ne 21 dX8_merged_16 (by decide) (fun c3 => ?_) (fun c3 => ?_)
  · rw [if_neg c3] at h
    refine at_iload_n 3 dX8_merged_21 rfl ?_
    refine at_iload 4 dX8_merged_22 rfl ?_
    obtain ⟨q4, hq4, h⟩ := sp_bind h
    refine at_callSi (st := []) hK mt_J9_max_7cf53 ml_X8_15 (t_J9_max_7cf53 hK hq4) rfl rfl (Nat.le_of_ble_eq_true rfl) ⟨Nat.le_of_ble_eq_true rfl, Nat.le_of_ble_eq_true rfl⟩ ⟨Nat.le_refl _, Nat.le_refl _⟩ dX8_merged_24 ?_
    refine at_istore [(0, .int v0), (1, .int v1), (2, .int v2), (3, .int q1), (4, .int q2), (5, .int q4)] dX8_merged_27 (Nat.le_of_ble_eq_true rfl) rfl ?_
    refine at_iload_n 0 dX8_merged_29 rfl ?_
    refine at_iload 5 dX8_merged_30 rfl ?_
    refine at_ldc kn_X8_20 dX8_merged_32 ?_
    refine at_imul dX8_merged_34 ?_
    refine at_ixor dX8_merged_35 ?_
    refine at_istore [(0, .int v0), (1, .int v1), (2, .int v2), (3, .int q1), (4, .int q2), (5, .int q4), (6, .int (v0 ^^^ (q4 * 286331153)))] dX8_merged_36 (Nat.le_of_ble_eq_true rfl) rfl ?_
    refine at_iload 6 dX8_merged_38 rfl ?_
    refine at_iload 6 dX8_merged_40 rfl ?_
    refine at_iconst 1 dX8_merged_42 ic_1 ?_
    refine at_iushr dX8_merged_43 ?_
    refine at_ior dX8_merged_44 ?_
    refine at_iload 6 dX8_merged_45 rfl ?_
    refine at_iconst 2 dX8_merged_47 ic_2 ?_
    refine at_iushr dX8_merged_48 ?_
    refine at_ior dX8_merged_49 ?_
    refine at_ldc kn_X8_20 dX8_merged_50 ?_
    refine at_iand dX8_merged_52 ?_
    refine at_namei (fun y5 ey5 => ?_)
    have h := sp_letE ey5 h
    refine at_istore [(0, .int v0), (1, .int v1), (2, .int v2), (3, .int q1), (4, .int q2), (5, .int q4), (6, .int (v0 ^^^ (q4 * 286331153))), (7, .int y5)] dX8_merged_53 (Nat.le_of_ble_eq_true rfl) rfl ?_
    refine at_iload_n 0 dX8_merged_55 rfl ?_
    refine at_iload 7 dX8_merged_56 rfl ?_
    refine at_ldc kn_X8_20 dX8_merged_58 ?_
    refine at_ixor dX8_merged_60 ?_
    refine at_iload_n 3 dX8_merged_61 rfl ?_
    refine at_iload 4 dX8_merged_62 rfl ?_
    refine at_ixor dX8_merged_64 ?_
    refine at_imul dX8_merged_65 ?_
    refine at_ixor dX8_merged_66 ?_
    cases h; exact at_iret rfl (Nat.le_refl _) (Nat.le_refl _) ⟨rfl, rfl⟩ dX8_merged_67
  · rw [if_pos c3] at h
    refine at_iload_n 0 dX8_merged_19 rfl ?_
    cases h; exact at_iret rfl (Nat.le_refl _) (Nat.le_refl _) ⟨rfl, rfl⟩ dX8_merged_20
set_option maxRecDepth 100000 in
theorem t_X6_placesBy_44 {D : va_G} {b : Nat} {K : State → Heap → Prop} {sa : Nat → Nat} (hK : sx_Kk b K sa) (N : Nat) {k5 : Int32 → Int32 → Int32 → Option (Int32)} {uG uN uD uR uF uP uL uT uA uM uH xA xB xC xD xE xF xG xH xI xJ xK xL uO : sx_C} {G : sx_H} (res : Int32) (hk5 : ∀ (v1 : Int32) (v2 : Int32) (v3 : Int32), k5 v1 v2 v3 = some res → sx_At D b K YX6_placesBy (sx_rm 2) (sx_Ex (some (.int res)) (sx_hp b uG uN uD uR uF uP uL uT uA uM uH xA xB xC xD xE xF xG xH xI xJ xK xL uO G)) 5 [(0, .ref (b + 2)), (1, .int v1), (2, .int v2), (3, .int v3)] [] (sx_hp b uG uN uD uR uF uP uL uT uA uM uH xA xB xC xD xE xF xG xH xI xJ xK xL uO G) 0 0) : ∀ (v1 : Int32) (v2 : Int32) (v3 : Int32), f_X6_placesBy_44 N k5 uN v1 v2 v3 = some res → sx_At D b K YX6_placesBy (sx_rm 2) (sx_Ex (some (.int res)) (sx_hp b uG uN uD uR uF uP uL uT uA uM uH xA xB xC xD xE xF xG xH xI xJ xK xL uO G)) 44 [(0, .ref (b + 2)), (1, .int v1), (2, .int v2), (3, .int v3)] [] (sx_hp b uG uN uD uR uF uP uL uT uA uM uH xA xB xC xD xE xF xG xH xI xJ xK xL uO G) 0 0 := by
  intro v1 v2 v3 h
  rw [f_X6_placesBy_44] at h
  refine at_iinc 3 1 [(0, .ref (b + 2)), (1, .int v1), (2, .int v2), (3, .int (v3 + 1))] dX6_placesBy_44 rfl ic_1 (Nat.le_of_ble_eq_true rfl) rfl ?_
  refine at_goto 5 dX6_placesBy_47 (by decide) ?_
  exact hk5 _ _ _ h
set_option maxRecDepth 100000 in
theorem t_X6_placesBy_5 {D : va_G} {b : Nat} {K : State → Heap → Prop} {sa : Nat → Nat} (hK : sx_Kk b K sa) (N : Nat) {uG uN uD uR uF uP uL uT uA uM uH xA xB xC xD xE xF xG xH xI xJ xK xL uO : sx_C} {G : sx_H} (res : Int32) : ∀ (n0 : Nat) (v1 : Int32) (v2 : Int32) (v3 : Int32), f_X6_placesBy_5 N uN n0 v1 v2 v3 = some res → sx_At D b K YX6_placesBy (sx_rm 2) (sx_Ex (some (.int res)) (sx_hp b uG uN uD uR uF uP uL uT uA uM uH xA xB xC xD xE xF xG xH xI xJ xK xL uO G)) 5 [(0, .ref (b + 2)), (1, .int v1), (2, .int v2), (3, .int v3)] [] (sx_hp b uG uN uD uR uF uP uL uT uA uM uH xA xB xC xD xE xF xG xH xI xJ xK xL uO G) 0 0 := by
  intro n0
  induction n0 with
  | zero => intro _ _ _ h; cases h
  | succ n0 ih =>
    intro v1 v2 v3 h
    rw [f_X6_placesBy_5] at h
    refine at_iload_n 3 dX6_placesBy_5 rfl ?_
    refine at_aload_n 0 dX6_placesBy_6 rfl ?_
    refine at_getf cl_X6 (by decide) fl_X6_31 hg_2 rfl dX6_placesBy_7 ?_
    refine at_icmp_ge 50 dX6_placesBy_10 (by decide) (fun c1 => ?_) (fun c1 => ?_)
    · rw [if_pos c1] at h
      refine at_iload_n 2 dX6_placesBy_50 rfl ?_
      cases h; exact at_iret rfl (Nat.le_refl _) (Nat.le_refl _) ⟨rfl, rfl⟩ dX6_placesBy_51
    · rw [if_neg c1] at h
      refine at_iload_n 3 dX6_placesBy_13 rfl ?_
      refine at_bipush 14 dX6_placesBy_14 bp_14 ?_
      refine at_icmp_ge 50 dX6_placesBy_16 (by decide) (fun c2 => ?_) (fun c2 => ?_)
      · rw [if_pos c2] at h
        refine at_iload_n 2 dX6_placesBy_50 rfl ?_
        cases h; exact at_iret rfl (Nat.le_refl _) (Nat.le_refl _) ⟨rfl, rfl⟩ dX6_placesBy_51
      · rw [if_neg c2] at h
        refine at_iload_n 1 dX6_placesBy_19 rfl ?_
        refine at_iload_n 3 dX6_placesBy_20 rfl ?_
        obtain ⟨q3, hq3, h⟩ := sp_bind h
        refine at_callSi (st := []) hK mt_X11_has ml_X6_67 (t_X11_has hK hq3) rfl rfl (Nat.le_of_ble_eq_true rfl) ⟨Nat.le_of_ble_eq_true rfl, Nat.le_of_ble_eq_true rfl⟩ ⟨Nat.le_refl _, Nat.le_refl _⟩ dX6_placesBy_21 ?_
        refine at_zeq 44 dX6_placesBy_24 (by decide) (fun c4 => ?_) (fun c4 => ?_)
        · rw [if_neg c4] at h
          exact t_X6_placesBy_44 hK N _ ih _ _ _ h
        · rw [if_pos c4] at h
          refine at_iload_n 2 dX6_placesBy_27 rfl ?_
          refine at_aload_n 0 dX6_placesBy_28 rfl ?_
          refine at_getf cl_X6 (by decide) fl_X6_9 hg_2 rfl dX6_placesBy_29 ?_
          refine at_iload_n 3 dX6_placesBy_32 rfl ?_
          obtain ⟨w5, hw5, h⟩ := sp_bind h
          refine at_iald hg_3 hw5 dX6_placesBy_33 ?_
          refine at_aload_n 0 dX6_placesBy_34 rfl ?_
          refine at_getf cl_X6 (by decide) fl_X6_15 hg_2 rfl dX6_placesBy_35 ?_
          refine at_iload_n 3 dX6_placesBy_38 rfl ?_
          obtain ⟨w6, hw6, h⟩ := sp_bind h
          refine at_iald hg_4 hw6 dX6_placesBy_39 ?_
          obtain ⟨q7, hq7, h⟩ := sp_bind h
          refine at_callSi (st := []) hK mt_X8_merged ml_X6_60 (t_X8_merged hK hq7) rfl rfl (Nat.le_of_ble_eq_true rfl) ⟨Nat.le_of_ble_eq_true rfl, Nat.le_of_ble_eq_true rfl⟩ ⟨Nat.le_refl _, Nat.le_refl _⟩ dX6_placesBy_40 ?_
          refine at_istore_n [(0, .ref (b + 2)), (1, .int v1), (2, .int q7), (3, .int v3)] dX6_placesBy_43 (Nat.le_of_ble_eq_true rfl) rfl ?_
          exact t_X6_placesBy_44 hK N _ ih _ _ _ h
set_option maxRecDepth 100000 in
theorem t_X6_placesBy {D : va_G} {b : Nat} {K : State → Heap → Prop} {sa : Nat → Nat} (hK : sx_Kk b K sa) {N : Nat} {uG uN uD uR uF uP uL uT uA uM uH xA xB xC xD xE xF xG xH xI xJ xK xL uO : sx_C} {G : sx_H} {v1 : Int32} {res : Int32} (h : f_X6_placesBy N uN v1 = some res) : sx_Runs D b K yX6_placesBy YX6_placesBy (sx_rm 2) [.ref (b + 2), .int v1] (sx_hp b uG uN uD uR uF uP uL uT uA uM uH xA xB xC xD xE xF xG xH xI xJ xK xL uO G) (sx_Ex (some (.int res)) (sx_hp b uG uN uD uR uF uP uL uT uA uM uH xA xB xC xD xE xF xG xH xI xJ xK xL uO G)) := by
  rw [f_X6_placesBy] at h
  refine sx_run (by decide +kernel) rfl rfl (Nat.le_of_ble_eq_true rfl) ?_
  refine at_ldc kn_X6_66 dX6_placesBy_0 ?_
  refine at_istore_n [(0, .ref (b + 2)), (1, .int v1), (2, .int 1985229328)] dX6_placesBy_2 (Nat.le_of_ble_eq_true rfl) rfl ?_
  refine at_iconst 0 dX6_placesBy_3 ic_0 ?_
  refine at_istore_n [(0, .ref (b + 2)), (1, .int v1), (2, .int 1985229328), (3, .int 0)] dX6_placesBy_4 (Nat.le_of_ble_eq_true rfl) rfl ?_
  exact t_X6_placesBy_5 hK N _ N _ _ _ h
set_option maxRecDepth 100000 in
theorem t_X11_place {D : va_G} {b : Nat} {K : State → Heap → Prop} {sa : Nat → Nat} (hK : sx_Kk b K sa) {N : Nat} {uG uN uD uR uF uP uL uT uA uM uH xA xB xC xD xE xF xG xH xI xJ xK xL uO : sx_C} {G : sx_H} {v1 : Int32} {res : Int32} (h : f_X11_place N uG uN v1 = some res) : sx_Runs D b K yX11_place YX11_place (sx_rm 3) [.ref (b + 0), .int v1] (sx_hp b uG uN uD uR uF uP uL uT uA uM uH xA xB xC xD xE xF xG xH xI xJ xK xL uO G) (sx_Ex (some (.int res)) (sx_hp b uG uN uD uR uF uP uL uT uA uM uH xA xB xC xD xE xF xG xH xI xJ xK xL uO G)) := by
  rw [f_X11_place] at h
  refine sx_run (by decide +kernel) rfl rfl (Nat.le_of_ble_eq_true rfl) ?_
  refine at_aload_n 0 dX11_place_0 rfl ?_
  refine at_getf cl_X11 (by decide) fl_X11_16 hg_0 rfl dX11_place_1 ?_
  refine at_iload_n 1 dX11_place_4 rfl ?_
  obtain ⟨q1, hq1, h⟩ := sp_bind h
  refine at_callVi (st := []) hK mt_X6_isKnot ml_X11_148 cl_X6 hg_2 (t_X6_isKnot hK hq1) rfl rfl (Nat.le_of_ble_eq_true rfl) ⟨Nat.le_of_ble_eq_true rfl, Nat.le_of_ble_eq_true rfl⟩ ⟨Nat.le_refl _, Nat.le_refl _⟩ dX11_place_5 ?_
  refine at_zeq 29 dX11_place_8 (by decide) (fun c2 => ?_) (fun c2 => ?_)
  · rw [if_neg c2] at h
    refine at_iconst (-1) dX11_place_29 ic_m1 ?_
    cases h; exact at_iret rfl (Nat.le_refl _) (Nat.le_refl _) ⟨rfl, rfl⟩ dX11_place_30
  · rw [if_pos c2] at h
    refine at_aload_n 0 dX11_place_11 rfl ?_
    refine at_getf cl_X11 (by decide) fl_X11_16 hg_0 rfl dX11_place_12 ?_
    refine at_aload_n 0 dX11_place_15 rfl ?_
    refine at_getf cl_X11 (by decide) fl_X11_91 hg_0 rfl dX11_place_16 ?_
    obtain ⟨q3, hq3, h⟩ := sp_bind h
    refine at_callVi (st := []) hK mt_X6_placesBy ml_X11_151 cl_X6 hg_2 (t_X6_placesBy hK hq3) rfl rfl (Nat.le_of_ble_eq_true rfl) ⟨Nat.le_of_ble_eq_true rfl, Nat.le_of_ble_eq_true rfl⟩ ⟨Nat.le_refl _, Nat.le_refl _⟩ dX11_place_19 ?_
    refine at_iload_n 1 dX11_place_22 rfl ?_
    obtain ⟨q4, hq4, h⟩ := sp_bind h
    refine at_callSi (st := []) hK mt_X8_numberOf ml_X11_154 (t_X8_numberOf hK hq4) rfl rfl (Nat.le_of_ble_eq_true rfl) ⟨Nat.le_of_ble_eq_true rfl, Nat.le_of_ble_eq_true rfl⟩ ⟨Nat.le_refl _, Nat.le_refl _⟩ dX11_place_23 ?_
    refine at_goto 30 dX11_place_26 (by decide) ?_
    cases h; exact at_iret rfl (Nat.le_refl _) (Nat.le_refl _) ⟨rfl, rfl⟩ dX11_place_30
set_option maxRecDepth 100000 in
theorem t_X6_all {D : va_G} {b : Nat} {K : State → Heap → Prop} {sa : Nat → Nat} (hK : sx_Kk b K sa) {uG uN uD uR uF uP uL uT uA uM uH xA xB xC xD xE xF xG xH xI xJ xK xL uO : sx_C} {G : sx_H} {res : Int32} (h : f_X6_all uN  = some res) : sx_Runs D b K yX6_all YX6_all (sx_rm 0) [.ref (b + 2)] (sx_hp b uG uN uD uR uF uP uL uT uA uM uH xA xB xC xD xE xF xG xH xI xJ xK xL uO G) (sx_Ex (some (.int res)) (sx_hp b uG uN uD uR uF uP uL uT uA uM uH xA xB xC xD xE xF xG xH xI xJ xK xL uO G)) := by
  rw [f_X6_all] at h
  refine sx_run (by decide +kernel) rfl rfl (Nat.le_of_ble_eq_true rfl) ?_
  refine at_iconst 1 dX6_all_0 ic_1 ?_
  refine at_aload_n 0 dX6_all_1 rfl ?_
  refine at_getf cl_X6 (by decide) fl_X6_31 hg_2 rfl dX6_all_2 ?_
  refine at_ishl dX6_all_5 ?_
  refine at_iconst 1 dX6_all_6 ic_1 ?_
  refine at_isub dX6_all_7 ?_
  cases h; exact at_iret rfl (Nat.le_refl _) (Nat.le_refl _) ⟨rfl, rfl⟩ dX6_all_8
set_option maxRecDepth 100000 in
theorem t_X8_knotsOf_35 {D : va_G} {b : Nat} {K : State → Heap → Prop} {sa : Nat → Nat} (hK : sx_Kk b K sa) (N : Nat) {k5 : Int32 → Int32 → Int32 → Int32 → Int32 → Option (Int32)} {σ : sx_H} (res : Int32) (hk5 : ∀ (v0 : Int32) (v1 : Int32) (v2 : Int32) (v3 : Int32) (v4 : Int32), k5 v0 v1 v2 v3 v4 = some res → sx_At D b K YX8_knotsOf (sx_rm 1) (sx_Ex (some (.int res)) σ) 5 [(0, .int v0), (1, .int v1), (2, .int v2), (3, .int v3), (4, .int v4)] [] σ 0 0) : ∀ (v0 : Int32) (v1 : Int32) (v2 : Int32) (v3 : Int32) (v4 : Int32), f_X8_knotsOf_35 N k5 v0 v1 v2 v3 v4 = some res → sx_At D b K YX8_knotsOf (sx_rm 1) (sx_Ex (some (.int res)) σ) 35 [(0, .int v0), (1, .int v1), (2, .int v2), (3, .int v3), (4, .int v4)] [] σ 0 0 := by
  intro v0 v1 v2 v3 v4 h
  rw [f_X8_knotsOf_35] at h
  refine at_iinc 4 1 [(0, .int v0), (1, .int v1), (2, .int v2), (3, .int v3), (4, .int (v4 + 1))] dX8_knotsOf_35 rfl ic_1 (Nat.le_of_ble_eq_true rfl) rfl ?_
  refine at_goto 5 dX8_knotsOf_38 (by decide) ?_
  exact hk5 _ _ _ _ _ h
set_option maxRecDepth 100000 in
theorem t_X8_knotsOf_5 {D : va_G} {b : Nat} {K : State → Heap → Prop} {sa : Nat → Nat} (hK : sx_Kk b K sa) (N : Nat) {σ : sx_H} (res : Int32) : ∀ (n0 : Nat) (v0 : Int32) (v1 : Int32) (v2 : Int32) (v3 : Int32) (v4 : Int32), f_X8_knotsOf_5 N n0 v0 v1 v2 v3 v4 = some res → sx_At D b K YX8_knotsOf (sx_rm 1) (sx_Ex (some (.int res)) σ) 5 [(0, .int v0), (1, .int v1), (2, .int v2), (3, .int v3), (4, .int v4)] [] σ 0 0 := by
  intro n0
  induction n0 with
  | zero => intro _ _ _ _ _ h; cases h
  | succ n0 ih =>
    intro v0 v1 v2 v3 v4 h
    rw [f_X8_knotsOf_5] at h
    refine at_iload 4 dX8_knotsOf_5 rfl ?_
    refine at_iload_n 2 dX8_knotsOf_7 rfl ?_
    refine at_icmp_ge 41 dX8_knotsOf_8 (by decide) (fun c1 => ?_) (fun c1 => ?_)
    · rw [if_pos c1] at h
      refine at_iload_n 3 dX8_knotsOf_41 rfl ?_
      cases h; exact at_iret rfl (Nat.le_refl _) (Nat.le_refl _) ⟨rfl, rfl⟩ dX8_knotsOf_42
    · rw [if_neg c1] at h
      refine at_iload 4 dX8_knotsOf_11 rfl ?_
      refine at_bipush 8 dX8_knotsOf_13 bp_8 ?_
      refine at_icmp_ge 41 dX8_knotsOf_15 (by decide) (fun c2 => ?_) (fun c2 => ?_)
      · rw [if_pos c2] at h
        refine at_iload_n 3 dX8_knotsOf_41 rfl ?_
        cases h; exact at_iret rfl (Nat.le_refl _) (Nat.le_refl _) ⟨rfl, rfl⟩ dX8_knotsOf_42
      · rw [if_neg c2] at h
        refine at_iload_n 0 dX8_knotsOf_18 rfl ?_
        refine at_iload 4 dX8_knotsOf_19 rfl ?_
        obtain ⟨q3, hq3, h⟩ := sp_bind h
        refine at_callSi (st := []) hK mt_X8_numberOf ml_X8_9 (t_X8_numberOf hK hq3) rfl rfl (Nat.le_of_ble_eq_true rfl) ⟨Nat.le_of_ble_eq_true rfl, Nat.le_of_ble_eq_true rfl⟩ ⟨Nat.le_refl _, Nat.le_refl _⟩ dX8_knotsOf_21 ?_
        refine at_iload_n 1 dX8_knotsOf_24 rfl ?_
        refine at_icmp_ne 35 dX8_knotsOf_25 (by decide) (fun c4 => ?_) (fun c4 => ?_)
        · rw [if_neg c4] at h
          exact t_X8_knotsOf_35 hK N _ ih _ _ _ _ _ h
        · rw [if_pos c4] at h
          refine at_iload_n 3 dX8_knotsOf_28 rfl ?_
          refine at_iconst 1 dX8_knotsOf_29 ic_1 ?_
          refine at_iload 4 dX8_knotsOf_30 rfl ?_
          refine at_ishl dX8_knotsOf_32 ?_
          refine at_ior dX8_knotsOf_33 ?_
          refine at_istore_n [(0, .int v0), (1, .int v1), (2, .int v2), (3, .int (v3 ||| (sp_shl 1 v4))), (4, .int v4)] dX8_knotsOf_34 (Nat.le_of_ble_eq_true rfl) rfl ?_
          exact t_X8_knotsOf_35 hK N _ ih _ _ _ _ _ h
set_option maxRecDepth 100000 in
theorem t_X8_knotsOf {D : va_G} {b : Nat} {K : State → Heap → Prop} {sa : Nat → Nat} (hK : sx_Kk b K sa) {N : Nat} {σ : sx_H} {v0 : Int32} {v1 : Int32} {v2 : Int32} {res : Int32} (h : f_X8_knotsOf N v0 v1 v2 = some res) : sx_Runs D b K yX8_knotsOf YX8_knotsOf (sx_rm 1) [.int v0, .int v1, .int v2] σ (sx_Ex (some (.int res)) σ) := by
  rw [f_X8_knotsOf] at h
  refine sx_run (by decide +kernel) rfl rfl (Nat.le_of_ble_eq_true rfl) ?_
  refine at_iconst 0 dX8_knotsOf_0 ic_0 ?_
  refine at_istore_n [(0, .int v0), (1, .int v1), (2, .int v2), (3, .int 0)] dX8_knotsOf_1 (Nat.le_of_ble_eq_true rfl) rfl ?_
  refine at_iconst 0 dX8_knotsOf_2 ic_0 ?_
  refine at_istore [(0, .int v0), (1, .int v1), (2, .int v2), (3, .int 0), (4, .int 0)] dX8_knotsOf_3 (Nat.le_of_ble_eq_true rfl) rfl ?_
  exact t_X8_knotsOf_5 hK N _ N _ _ _ _ _ h
