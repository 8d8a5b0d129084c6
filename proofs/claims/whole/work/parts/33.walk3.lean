set_option maxRecDepth 100000 in
theorem t_X1_goThrough_29 {D : va_G} {b : Nat} {K : State → Heap → Prop} {sa : Nat → Nat} (hK : sx_Kk b K sa) (N : Nat) {uG uN uD uR uL uT uA uH xA xB xC xD xE xF xG xH xI xJ xK xL uO : sx_C} {G : sx_H} (res : Int32 × sx_C × sx_C × sx_C) : ∀ (v4 : Int32) (s0 : Int32) (uF : sx_C) (uP : sx_C) (uM : sx_C), f_X1_goThrough_29 N uN v4 s0 uF uP uM = some res → sx_At D b K YX1_goThrough (sx_rm 46) (sx_Ex (some (.int res.1)) (sx_hp b uG uN uD uR (res.2.1) (res.2.2.1) uL uT uA (res.2.2.2) uH xA xB xC xD xE xF xG xH xI xJ xK xL uO G)) 29 [(4, .int v4)] [.int s0] (sx_hp b uG uN uD uR uF uP uL uT uA uM uH xA xB xC xD xE xF xG xH xI xJ xK xL uO G) 0 0 := by
  intro v4 s0 uF uP uM h
  rw [f_X1_goThrough_29] at h
  refine at_istore [(4, .int v4), (5, .int s0)] dX1_goThrough_29 (Nat.le_of_ble_eq_true rfl) rfl ?_
  refine at_iload 0 dX1_goThrough_31 rfl ?_
  refine at_if_ne 44 dX1_goThrough_33 (by decide) (fun c1 => ?_) (fun c1 => ?_)
  · rw [if_neg c1] at h
    refine at_iload 1 dX1_goThrough_44 rfl ?_
    refine at_ldc kn_X1_63 dX1_goThrough_46 ?_
    refine at_iand dX1_goThrough_48 ?_
    cases h; exact at_iret rfl (Nat.le_refl _) (Nat.le_refl _) ⟨rfl, rfl⟩ dX1_goThrough_49
  · rw [if_pos c1] at h
    refine at_iload 1 dX1_goThrough_36 rfl ?_
    refine at_ldc kn_X1_62 dX1_goThrough_38 ?_
    refine at_idiv dX1_goThrough_40 (by decide) ?_
    refine at_goto 49 dX1_goThrough_41 (by decide) ?_
    cases h; exact at_iret rfl (Nat.le_refl _) (Nat.le_refl _) ⟨rfl, rfl⟩ dX1_goThrough_49
set_option maxRecDepth 100000 in
theorem t_X1_goThrough {D : va_G} {b : Nat} {K : State → Heap → Prop} {sa : Nat → Nat} (hK : sx_Kk b K sa) {N : Nat} {uG uN uD uR uL uT uA uH xA xB xC xD xE xF xG xH xI xJ xK xL uO : sx_C} {G : sx_H} {v1 : Int32} {v2 : Int32} {v3 : Int32} {v4 : Int32} {uF : sx_C} {uP : sx_C} {uM : sx_C} {res : Int32 × sx_C × sx_C × sx_C} (h : f_X1_goThrough N uN v1 v2 v3 v4 uF uP uM = some res) : sx_Runs D b K yX1_goThrough YX1_goThrough (sx_rm 46) [.ref (b + 32), .int v1, .int v2, .int v3, .int v4] (sx_hp b uG uN uD uR uF uP uL uT uA uM uH xA xB xC xD xE xF xG xH xI xJ xK xL uO G) (sx_Ex (some (.int res.1)) (sx_hp b uG uN uD uR (res.2.1) (res.2.2.1) uL uT uA (res.2.2.2) uH xA xB xC xD xE xF xG xH xI xJ xK xL uO G)) := by
  rw [f_X1_goThrough] at h
  refine sx_run (by decide +kernel) rfl rfl (Nat.le_of_ble_eq_true rfl) ?_
  refine at_aload_n 0 dX1_goThrough_0 rfl ?_
  refine at_getf cl_X1 (by decide) fl_X1_14 hg_32 rfl dX1_goThrough_1 ?_
  obtain ⟨q2, hq2, h⟩ := sp_bind h
  refine at_callVv (st := []) hK mt_X5_clear ml_X1_52 cl_X5 hg_33 (t_X5_clear hK hq2) rfl rfl (Nat.le_of_ble_eq_true rfl) ⟨Nat.le_of_ble_eq_true rfl, Nat.le_of_ble_eq_true rfl⟩ ⟨Nat.le_refl _, Nat.le_refl _⟩ dX1_goThrough_4 ?_
  refine at_iload_n 1 dX1_goThrough_7 rfl ?_
  refine at_iconst 1 dX1_goThrough_8 ic_1 ?_
  refine at_icmp_ne 22 dX1_goThrough_9 (by decide) (fun c3 => ?_) (fun c3 => ?_)
  · rw [if_neg c3] at h
    refine at_aload_n 0 dX1_goThrough_22 rfl ?_
    refine at_iload_n 2 dX1_goThrough_23 rfl ?_
    refine at_iload_n 3 dX1_goThrough_24 rfl ?_
    refine at_iconst 0 dX1_goThrough_25 ic_0 ?_
    obtain ⟨q4, hq4, h⟩ := sp_bind h
    refine at_callVi (st := []) hK mt_X1_joinFirst ml_X1_59 cl_X1 hg_32 (t_X1_joinFirst hK hq4) rfl rfl (Nat.le_of_ble_eq_true rfl) ⟨Nat.le_of_ble_eq_true rfl, Nat.le_of_ble_eq_true rfl⟩ ⟨Nat.le_refl _, Nat.le_refl _⟩ dX1_goThrough_26 ?_
    refine at_sub [4] [(4, .int v4)] rfl ?_
    exact t_X1_goThrough_29 hK N _ _ _ _ _ _ h
  · rw [if_pos c3] at h
    refine at_aload_n 0 dX1_goThrough_12 rfl ?_
    refine at_iload_n 2 dX1_goThrough_13 rfl ?_
    refine at_iload_n 3 dX1_goThrough_14 rfl ?_
    refine at_iconst 0 dX1_goThrough_15 ic_0 ?_
    obtain ⟨q5, hq5, h⟩ := sp_bind h
    refine at_callVi (st := []) hK mt_X1_cutFirst ml_X1_55 cl_X1 hg_32 (t_X1_cutFirst hK hq5) rfl rfl (Nat.le_of_ble_eq_true rfl) ⟨Nat.le_of_ble_eq_true rfl, Nat.le_of_ble_eq_true rfl⟩ ⟨Nat.le_refl _, Nat.le_refl _⟩ dX1_goThrough_16 ?_
    refine at_goto 29 dX1_goThrough_19 (by decide) ?_
    refine at_sub [4] [(4, .int v4)] rfl ?_
    exact t_X1_goThrough_29 hK N _ _ _ _ _ _ h
set_option maxRecDepth 100000 in
theorem t_X11_verified {D : va_G} {b : Nat} {K : State → Heap → Prop} {sa : Nat → Nat} (hK : sx_Kk b K sa) {N : Nat} {uG uN uD uR uL uT uA uH xA xB xC xD xE xF xG xH xI xJ xK xL uO : sx_C} {G : sx_H} {v1 : Int32} {uF : sx_C} {uP : sx_C} {uM : sx_C} {res : Int32 × sx_C × sx_C × sx_C} (h : f_X11_verified N uG uN v1 uF uP uM = some res) : sx_Runs D b K yX11_verified YX11_verified (sx_rm 47) [.ref (b + 0), .int v1] (sx_hp b uG uN uD uR uF uP uL uT uA uM uH xA xB xC xD xE xF xG xH xI xJ xK xL uO G) (sx_Ex (some (.int res.1)) (sx_hp b uG uN uD uR (res.2.1) (res.2.2.1) uL uT uA (res.2.2.2) uH xA xB xC xD xE xF xG xH xI xJ xK xL uO G)) := by
  rw [f_X11_verified] at h
  refine sx_run (by decide +kernel) rfl rfl (Nat.le_of_ble_eq_true rfl) ?_
  refine at_iload_n 1 dX11_verified_0 rfl ?_
  refine at_if_lt 9 dX11_verified_1 (by decide) (fun c1 => ?_) (fun c1 => ?_)
  · rw [if_pos c1] at h
    refine at_iconst (-1) dX11_verified_9 ic_m1 ?_
    cases h; exact at_iret rfl (Nat.le_refl _) (Nat.le_refl _) ⟨rfl, rfl⟩ dX11_verified_10
  · rw [if_neg c1] at h
    refine at_iload_n 1 dX11_verified_4 rfl ?_
    refine at_iconst 1 dX11_verified_5 ic_1 ?_
    refine at_icmp_le 11 dX11_verified_6 (by decide) (fun c2 => ?_) (fun c2 => ?_)
    · rw [if_pos c2] at h
      refine at_aload_n 0 dX11_verified_11 rfl ?_
      obtain ⟨q3, hq3, h⟩ := sp_bind h
      refine at_callVi (st := []) hK mt_X11_isSmall ml_X11_236 cl_X11 hg_0 (t_X11_isSmall hK hq3) rfl rfl (Nat.le_of_ble_eq_true rfl) ⟨Nat.le_of_ble_eq_true rfl, Nat.le_of_ble_eq_true rfl⟩ ⟨Nat.le_refl _, Nat.le_refl _⟩ dX11_verified_12 ?_
      refine at_zeq 36 dX11_verified_15 (by decide) (fun c4 => ?_) (fun c4 => ?_)
      · rw [if_neg c4] at h
        refine at_bipush (-2) dX11_verified_36 bp_m2 ?_
        cases h; exact at_iret rfl (Nat.le_refl _) (Nat.le_refl _) ⟨rfl, rfl⟩ dX11_verified_38
      · rw [if_pos c4] at h
        refine at_aload_n 0 dX11_verified_18 rfl ?_
        refine at_getf cl_X11 (by decide) fl_X11_51 hg_0 rfl dX11_verified_19 ?_
        refine at_aload_n 0 dX11_verified_22 rfl ?_
        refine at_getf cl_X11 (by decide) fl_X11_91 hg_0 rfl dX11_verified_23 ?_
        refine at_aload_n 0 dX11_verified_26 rfl ?_
        refine at_getf cl_X11 (by decide) fl_X11_94 hg_0 rfl dX11_verified_27 ?_
        obtain ⟨q5, hq5, h⟩ := sp_bind h
        refine at_callVi (st := []) hK mt_X7_find ml_X11_204 cl_X7 hg_16 (t_X7_find hK hq5) rfl rfl (Nat.le_of_ble_eq_true rfl) ⟨Nat.le_of_ble_eq_true rfl, Nat.le_of_ble_eq_true rfl⟩ ⟨Nat.le_refl _, Nat.le_refl _⟩ dX11_verified_30 ?_
        refine at_zne 39 dX11_verified_33 (by decide) (fun c6 => ?_) (fun c6 => ?_)
        · rw [if_pos c6] at h
          refine at_aload_n 0 dX11_verified_39 rfl ?_
          refine at_getf cl_X11 (by decide) fl_X11_76 hg_0 rfl dX11_verified_40 ?_
          refine at_iconst 1 dX11_verified_43 ic_1 ?_
          refine at_aload_n 0 dX11_verified_44 rfl ?_
          refine at_getf cl_X11 (by decide) fl_X11_91 hg_0 rfl dX11_verified_45 ?_
          refine at_aload_n 0 dX11_verified_48 rfl ?_
          refine at_getf cl_X11 (by decide) fl_X11_94 hg_0 rfl dX11_verified_49 ?_
          refine at_iload_n 1 dX11_verified_52 rfl ?_
          obtain ⟨q7, hq7, h⟩ := sp_bind h
          refine at_callVi (st := []) hK mt_X1_goThrough ml_X11_239 cl_X1 hg_32 (t_X1_goThrough hK hq7) rfl rfl (Nat.le_of_ble_eq_true rfl) ⟨Nat.le_of_ble_eq_true rfl, Nat.le_of_ble_eq_true rfl⟩ ⟨Nat.le_refl _, Nat.le_refl _⟩ dX11_verified_53 ?_
          cases h; exact at_iret rfl (Nat.le_refl _) (Nat.le_refl _) ⟨rfl, rfl⟩ dX11_verified_56
        · rw [if_neg c6] at h
          refine at_bipush (-2) dX11_verified_36 bp_m2 ?_
          cases h; exact at_iret rfl (Nat.le_refl _) (Nat.le_refl _) ⟨rfl, rfl⟩ dX11_verified_38
    · rw [if_neg c2] at h
      refine at_iconst (-1) dX11_verified_9 ic_m1 ?_
      cases h; exact at_iret rfl (Nat.le_refl _) (Nat.le_refl _) ⟨rfl, rfl⟩ dX11_verified_10
set_option maxRecDepth 100000 in
theorem t_X11_full {D : va_G} {b : Nat} {K : State → Heap → Prop} {sa : Nat → Nat} (hK : sx_Kk b K sa) {N : Nat} {uG uN uD uR uP uL uT uA uM uH xA xB xC xD xE xF xG xH xI xJ xK xL uO : sx_C} {G : sx_H} {v1 : Int32} {uF : sx_C} {res : Int32 × sx_C} (h : f_X11_full N uG uN v1 uF = some res) : sx_Runs D b K yX11_full YX11_full (sx_rm 5) [.ref (b + 0), .int v1] (sx_hp b uG uN uD uR uF uP uL uT uA uM uH xA xB xC xD xE xF xG xH xI xJ xK xL uO G) (sx_Ex (some (.int res.1)) (sx_hp b uG uN uD uR (res.2) uP uL uT uA uM uH xA xB xC xD xE xF xG xH xI xJ xK xL uO G)) := by
  rw [f_X11_full] at h
  refine sx_run (by decide +kernel) rfl rfl (Nat.le_of_ble_eq_true rfl) ?_
  refine at_iload_n 1 dX11_full_0 rfl ?_
  refine at_if_lt 9 dX11_full_1 (by decide) (fun c1 => ?_) (fun c1 => ?_)
  · rw [if_pos c1] at h
    refine at_iconst (-1) dX11_full_9 ic_m1 ?_
    cases h; exact at_iret rfl (Nat.le_refl _) (Nat.le_refl _) ⟨rfl, rfl⟩ dX11_full_10
  · rw [if_neg c1] at h
    refine at_iload_n 1 dX11_full_4 rfl ?_
    refine at_iconst 1 dX11_full_5 ic_1 ?_
    refine at_icmp_le 11 dX11_full_6 (by decide) (fun c2 => ?_) (fun c2 => ?_)
    · rw [if_pos c2] at h
      refine at_aload_n 0 dX11_full_11 rfl ?_
      obtain ⟨q3, hq3, h⟩ := sp_bind h
      refine at_callVi (st := []) hK mt_X11_isSmall ml_X11_236 cl_X11 hg_0 (t_X11_isSmall hK hq3) rfl rfl (Nat.le_of_ble_eq_true rfl) ⟨Nat.le_of_ble_eq_true rfl, Nat.le_of_ble_eq_true rfl⟩ ⟨Nat.le_refl _, Nat.le_refl _⟩ dX11_full_12 ?_
      refine at_zne 21 dX11_full_15 (by decide) (fun c4 => ?_) (fun c4 => ?_)
      · rw [if_pos c4] at h
        refine at_aload_n 0 dX11_full_21 rfl ?_
        refine at_getf cl_X11 (by decide) fl_X11_44 hg_0 rfl dX11_full_22 ?_
        refine at_aload_n 0 dX11_full_25 rfl ?_
        refine at_getf cl_X11 (by decide) fl_X11_91 hg_0 rfl dX11_full_26 ?_
        refine at_aload_n 0 dX11_full_29 rfl ?_
        refine at_getf cl_X11 (by decide) fl_X11_94 hg_0 rfl dX11_full_30 ?_
        obtain ⟨q5, hq5, h⟩ := sp_bind h
        refine at_callVi (st := []) hK mt_X3_lacking ml_X11_217 cl_X3 hg_15 (t_X3_lacking hK hq5) rfl rfl (Nat.le_of_ble_eq_true rfl) ⟨Nat.le_of_ble_eq_true rfl, Nat.le_of_ble_eq_true rfl⟩ ⟨Nat.le_refl _, Nat.le_refl _⟩ dX11_full_33 ?_
        by_cases c6 : (q5.1) = 0
        · rw [if_pos c6] at h
          refine at_lkC c6 64 dX11_full_36 (by decide) rfl (by decide) ?_
          refine at_iconst 0 dX11_full_64 ic_0 ?_
          cases h; exact at_iret rfl (Nat.le_refl _) (Nat.le_refl _) ⟨rfl, rfl⟩ dX11_full_65
        · rw [if_neg c6] at h
          by_cases c7 : (q5.1) = 1
          · rw [if_pos c7] at h
            refine at_lkC c7 66 dX11_full_36 (by decide) rfl (by decide) ?_
            refine at_iload_n 1 dX11_full_66 rfl ?_
            cases h; exact at_iret rfl (Nat.le_refl _) (Nat.le_refl _) ⟨rfl, rfl⟩ dX11_full_67
          · rw [if_neg c7] at h
            refine at_lookup 68 dX11_full_36 (by decide) (show Op.lookupswitch.offset [(0, 28), (1, 30)] 32 _ = 32 by rw [Op.lookupswitch.offset_cons, if_neg (sp_ne2 (0) (by decide) c6), Op.lookupswitch.offset_cons, if_neg (sp_ne2 (1) (by decide) c7), Op.lookupswitch.offset_nil]) (by decide) ?_
            refine at_iconst 1 dX11_full_68 ic_1 ?_
            cases h; exact at_iret rfl (Nat.le_refl _) (Nat.le_refl _) ⟨rfl, rfl⟩ dX11_full_69
      · rw [if_neg c4] at h
        refine at_bipush (-2) dX11_full_18 bp_m2 ?_
        cases h; exact at_iret rfl (Nat.le_refl _) (Nat.le_refl _) ⟨rfl, rfl⟩ dX11_full_20
    · rw [if_neg c2] at h
      refine at_iconst (-1) dX11_full_9 ic_m1 ?_
      cases h; exact at_iret rfl (Nat.le_refl _) (Nat.le_refl _) ⟨rfl, rfl⟩ dX11_full_10
set_option maxRecDepth 100000 in
theorem t_X4_allPositions_4 {D : va_G} {b : Nat} {K : State → Heap → Prop} {sa : Nat → Nat} (hK : sx_Kk b K sa) (N : Nat) {uG uN uD uR uF uP uL uT uA uM uH xA xB xC xD xE xF xG xH xI xJ xK xL uO : sx_C} {G : sx_H} (res : Int32) : ∀ (n0 : Nat) (v1 : Int32) (v2 : Int32), f_X4_allPositions_4 N uL n0 v1 v2 = some res → sx_At D b K YX4_allPositions (sx_rm 0) (sx_Ex (some (.int res)) (sx_hp b uG uN uD uR uF uP uL uT uA uM uH xA xB xC xD xE xF xG xH xI xJ xK xL uO G)) 4 [(0, .ref (b + 17)), (1, .int v1), (2, .int v2)] [] (sx_hp b uG uN uD uR uF uP uL uT uA uM uH xA xB xC xD xE xF xG xH xI xJ xK xL uO G) 0 0 := by
  intro n0
  induction n0 with
  | zero => intro _ _ h; cases h
  | succ n0 ih =>
    intro v1 v2 h
    rw [f_X4_allPositions_4] at h
    refine at_iload_n 2 dX4_allPositions_4 rfl ?_
    refine at_aload_n 0 dX4_allPositions_5 rfl ?_
    refine at_getf cl_X4 (by decide) fl_X4_35 hg_17 rfl dX4_allPositions_6 ?_
    refine at_icmp_ge 22 dX4_allPositions_9 (by decide) (fun c1 => ?_) (fun c1 => ?_)
    · rw [if_pos c1] at h
      refine at_iload_n 1 dX4_allPositions_22 rfl ?_
      cases h; exact at_iret rfl (Nat.le_refl _) (Nat.le_refl _) ⟨rfl, rfl⟩ dX4_allPositions_23
    · rw [if_neg c1] at h
      refine at_iload_n 1 dX4_allPositions_12 rfl ?_
      refine at_iconst 3 dX4_allPositions_13 ic_3 ?_
      refine at_imul dX4_allPositions_14 ?_
      refine at_istore_n [(0, .ref (b + 17)), (1, .int (v1 * 3)), (2, .int v2)] dX4_allPositions_15 (Nat.le_of_ble_eq_true rfl) rfl ?_
      refine at_iinc 2 1 [(0, .ref (b + 17)), (1, .int (v1 * 3)), (2, .int (v2 + 1))] dX4_allPositions_16 rfl ic_1 (Nat.le_of_ble_eq_true rfl) rfl ?_
      refine at_goto 4 dX4_allPositions_19 (by decide) ?_
      exact ih _ _ h
set_option maxRecDepth 100000 in
theorem t_X4_allPositions {D : va_G} {b : Nat} {K : State → Heap → Prop} {sa : Nat → Nat} (hK : sx_Kk b K sa) {N : Nat} {uG uN uD uR uF uP uL uT uA uM uH xA xB xC xD xE xF xG xH xI xJ xK xL uO : sx_C} {G : sx_H} {res : Int32} (h : f_X4_allPositions N uL  = some res) : sx_Runs D b K yX4_allPositions YX4_allPositions (sx_rm 0) [.ref (b + 17)] (sx_hp b uG uN uD uR uF uP uL uT uA uM uH xA xB xC xD xE xF xG xH xI xJ xK xL uO G) (sx_Ex (some (.int res)) (sx_hp b uG uN uD uR uF uP uL uT uA uM uH xA xB xC xD xE xF xG xH xI xJ xK xL uO G)) := by
  rw [f_X4_allPositions] at h
  refine sx_run (by decide +kernel) rfl rfl (Nat.le_of_ble_eq_true rfl) ?_
  refine at_iconst 1 dX4_allPositions_0 ic_1 ?_
  refine at_istore_n [(0, .ref (b + 17)), (1, .int 1)] dX4_allPositions_1 (Nat.le_of_ble_eq_true rfl) rfl ?_
  refine at_iconst 0 dX4_allPositions_2 ic_0 ?_
  refine at_istore_n [(0, .ref (b + 17)), (1, .int 1), (2, .int 0)] dX4_allPositions_3 (Nat.le_of_ble_eq_true rfl) rfl ?_
  exact t_X4_allPositions_4 hK N _ N _ _ h
set_option maxRecDepth 100000 in
theorem t_X4_markAll_56 {D : va_G} {b : Nat} {K : State → Heap → Prop} {sa : Nat → Nat} (hK : sx_Kk b K sa) (N : Nat) {uG uN uD uR uF uP uT uA uM uH xA xB xC xD xE xF xG xH xI xJ xK xL uO : sx_C} {G : sx_H} (res : sx_C) : ∀ (n0 : Nat) (v4 : Int32) (v5 : Int32) (uL : sx_C), f_X4_markAll_56 N n0 v4 v5 uL = some res → sx_At D b K YX4_markAll (sx_rm 1) (sx_Ex none (sx_hp b uG uN uD uR uF uP res uT uA uM uH xA xB xC xD xE xF xG xH xI xJ xK xL uO G)) 56 [(0, .ref (b + 17)), (4, .int v4), (5, .int v5)] [] (sx_hp b uG uN uD uR uF uP uL uT uA uM uH xA xB xC xD xE xF xG xH xI xJ xK xL uO G) 0 0 := by
  intro n0
  induction n0 with
  | zero => intro _ _ _ h; cases h
  | succ n0 ih =>
    intro v4 v5 uL h
    rw [f_X4_markAll_56] at h
    refine at_iload 2 dX4_markAll_56 rfl ?_
    refine at_iload 1 dX4_markAll_58 rfl ?_
    refine at_icmp_ge 77 dX4_markAll_60 (by decide) (fun c1 => ?_) (fun c1 => ?_)
    · rw [if_pos c1] at h
      cases h; exact at_vret rfl (Nat.le_refl _) (Nat.le_refl _) ⟨rfl, rfl⟩ dX4_markAll_77
    · rw [if_neg c1] at h
      refine at_aload_n 0 dX4_markAll_63 rfl ?_
      refine at_getf cl_X4 (by decide) fl_X4_11 hg_17 rfl dX4_markAll_64 ?_
      refine at_iload 2 dX4_markAll_67 rfl ?_
      refine at_iconst (-1) dX4_markAll_69 ic_m1 ?_
      obtain ⟨hi2, h⟩ := sp_chk h
      refine at_iast hg_18 hi2 hs_18 dX4_markAll_70 ?_
      refine at_iinc 2 1 [(0, .ref (b + 17)), (4, .int v4), (5, .int (v5 + 1))] dX4_markAll_71 rfl ic_1 (Nat.le_of_ble_eq_true rfl) rfl ?_
      refine at_goto 56 dX4_markAll_74 (by decide) ?_
      exact ih _ _ _ h
set_option maxRecDepth 100000 in
theorem t_X4_markAll {D : va_G} {b : Nat} {K : State → Heap → Prop} {sa : Nat → Nat} (hK : sx_Kk b K sa) {N : Nat} {uG uN uD uR uF uP uT uA uM uH xA xB xC xD xE xF xG xH xI xJ xK xL uO : sx_C} {G : sx_H} {v1 : Int32} {v2 : Int32} {uL : sx_C} {res : sx_C} (h : f_X4_markAll N v1 v2 uL = some res) : sx_Runs D b K yX4_markAll YX4_markAll (sx_rm 1) [.ref (b + 17), .int v1, .int v2] (sx_hp b uG uN uD uR uF uP uL uT uA uM uH xA xB xC xD xE xF xG xH xI xJ xK xL uO G) (sx_Ex none (sx_hp b uG uN uD uR uF uP res uT uA uM uH xA xB xC xD xE xF xG xH xI xJ xK xL uO G)) := by
  rw [f_X4_markAll] at h
  refine sx_run (by decide +kernel) rfl rfl (Nat.le_of_ble_eq_true rfl) ?_
  refine at_iload_n 2 dX4_markAll_0 rfl ?_
  refine at_iconst 5 dX4_markAll_1 ic_5 ?_
  refine at_iushr dX4_markAll_2 ?_
  refine at_istore_n [(0, .ref (b + 17)), (1, .int v1), (2, .int v2), (3, .int (sp_ushr v2 5))] dX4_markAll_3 (Nat.le_of_ble_eq_true rfl) rfl ?_
  refine at_iload_n 1 dX4_markAll_4 rfl ?_
  refine at_iconst 5 dX4_markAll_5 ic_5 ?_
  refine at_icmp_ge 38 dX4_markAll_6 (by decide) (fun c3 => ?_) (fun c3 => ?_)
  · rw [if_pos c3] at h
    refine at_iload_n 3 dX4_markAll_38 rfl ?_
    refine at_iconst 1 dX4_markAll_39 ic_1 ?_
    refine at_iload_n 1 dX4_markAll_40 rfl ?_
    refine at_iconst 5 dX4_markAll_41 ic_5 ?_
    refine at_isub dX4_markAll_42 ?_
    refine at_ishl dX4_markAll_43 ?_
    refine at_iadd dX4_markAll_44 ?_
    refine at_sipush 512 dX4_markAll_45 sh_512 ?_
    obtain ⟨q4, hq4, h⟩ := sp_bind h
    refine at_callSi (st := []) hK mt_J9_min_7cf53 ml_X4_83 (t_J9_min_7cf53 hK hq4) rfl rfl (Nat.le_of_ble_eq_true rfl) ⟨Nat.le_of_ble_eq_true rfl, Nat.le_of_ble_eq_true rfl⟩ ⟨Nat.le_refl _, Nat.le_refl _⟩ dX4_markAll_48 ?_
    refine at_istore [(0, .ref (b + 17)), (1, .int v1), (2, .int v2), (3, .int (sp_ushr v2 5)), (4, .int q4)] dX4_markAll_51 (Nat.le_of_ble_eq_true rfl) rfl ?_
    refine at_iload_n 3 dX4_markAll_53 rfl ?_
    refine at_istore [(0, .ref (b + 17)), (1, .int v1), (2, .int v2), (3, .int (sp_ushr v2 5)), (4, .int q4), (5, .int (sp_ushr v2 5))] dX4_markAll_54 (Nat.le_of_ble_eq_true rfl) rfl ?_
    refine at_sub [0, 4, 5] [(0, .ref (b + 17)), (4, .int q4), (5, .int (sp_ushr v2 5))] rfl ?_
    exact t_X4_markAll_56 hK N _ N _ _ _ h
  · rw [if_neg c3] at h
    refine at_iload_n 3 dX4_markAll_9 rfl ?_
    refine at_sipush 512 dX4_markAll_10 sh_512 ?_
    refine at_icmp_ge 37 dX4_markAll_13 (by decide) (fun c5 => ?_) (fun c5 => ?_)
    · rw [if_pos c5] at h
      cases h; exact at_vret rfl (Nat.le_refl _) (Nat.le_refl _) ⟨rfl, rfl⟩ dX4_markAll_37
    · rw [if_neg c5] at h
      refine at_aload_n 0 dX4_markAll_16 rfl ?_
      refine at_getf cl_X4 (by decide) fl_X4_11 hg_17 rfl dX4_markAll_17 ?_
      refine at_iload_n 3 dX4_markAll_20 rfl ?_
      refine at_dup2 dX4_markAll_21 rfl rfl ?_
      obtain ⟨w6, hw6, h⟩ := sp_bind h
      refine at_iald hg_18 hw6 dX4_markAll_22 ?_
      refine at_iconst 1 dX4_markAll_23 ic_1 ?_
      refine at_iconst 1 dX4_markAll_24 ic_1 ?_
      refine at_iload_n 1 dX4_markAll_25 rfl ?_
      refine at_ishl dX4_markAll_26 ?_
      refine at_ishl dX4_markAll_27 ?_
      refine at_iconst 1 dX4_markAll_28 ic_1 ?_
      refine at_isub dX4_markAll_29 ?_
      refine at_iload_n 2 dX4_markAll_30 rfl ?_
      refine at_bipush 31 dX4_markAll_31 bp_31 ?_
      refine at_iand dX4_markAll_33 ?_
      refine at_ishl dX4_markAll_34 ?_
      refine at_ior dX4_markAll_35 ?_
      obtain ⟨hi7, h⟩ := sp_chk h
      refine at_iast hg_18 hi7 hs_18 dX4_markAll_36 ?_
      cases h; exact at_vret rfl (Nat.le_refl _) (Nat.le_refl _) ⟨rfl, rfl⟩ dX4_markAll_37
set_option maxRecDepth 100000 in
theorem t_X6_withLine {D : va_G} {b : Nat} {K : State → Heap → Prop} {sa : Nat → Nat} (hK : sx_Kk b K sa) {uG uN uD uR uF uP uL uT uA uM uH xA xB xC xD xE xF xG xH xI xJ xK xL uO : sx_C} {G : sx_H} {v1 : Int32} {v2 : Int32} {res : Int32} (h : f_X6_withLine uN v1 v2 = some res) : sx_Runs D b K yX6_withLine YX6_withLine (sx_rm 2) [.ref (b + 2), .int v1, .int v2] (sx_hp b uG uN uD uR uF uP uL uT uA uM uH xA xB xC xD xE xF xG xH xI xJ xK xL uO G) (sx_Ex (some (.int res)) (sx_hp b uG uN uD uR uF uP uL uT uA uM uH xA xB xC xD xE xF xG xH xI xJ xK xL uO G)) := by
  rw [f_X6_withLine] at h
  refine sx_run (by decide +kernel) rfl rfl (Nat.le_of_ble_eq_true rfl) ?_
  refine at_aload_n 0 dX6_withLine_0 rfl ?_
  refine at_iload_n 2 dX6_withLine_1 rfl ?_
  obtain ⟨q1, hq1, h⟩ := sp_bind h
  refine at_callVi (st := []) hK mt_X6_isLine ml_X6_56 cl_X6 hg_2 (t_X6_isLine hK hq1) rfl rfl (Nat.le_of_ble_eq_true rfl) ⟨Nat.le_of_ble_eq_true rfl, Nat.le_of_ble_eq_true rfl⟩ ⟨Nat.le_refl _, Nat.le_refl _⟩ dX6_withLine_2 ?_
  refine at_zeq 27 dX6_withLine_5 (by decide) (fun c2 => ?_) (fun c2 => ?_)
  · rw [if_neg c2] at h
    refine at_iload_n 1 dX6_withLine_27 rfl ?_
    cases h; exact at_iret rfl (Nat.le_refl _) (Nat.le_refl _) ⟨rfl, rfl⟩ dX6_withLine_28
  · rw [if_pos c2] at h
    refine at_iload_n 1 dX6_withLine_8 rfl ?_
    refine at_aload_n 0 dX6_withLine_9 rfl ?_
    refine at_getf cl_X6 (by decide) fl_X6_9 hg_2 rfl dX6_withLine_10 ?_
    refine at_iload_n 2 dX6_withLine_13 rfl ?_
    obtain ⟨w3, hw3, h⟩ := sp_bind h
    refine at_iald hg_3 hw3 dX6_withLine_14 ?_
    refine at_aload_n 0 dX6_withLine_15 rfl ?_
    refine at_getf cl_X6 (by decide) fl_X6_15 hg_2 rfl dX6_withLine_16 ?_
    refine at_iload_n 2 dX6_withLine_19 rfl ?_
    obtain ⟨w4, hw4, h⟩ := sp_bind h
    refine at_iald hg_4 hw4 dX6_withLine_20 ?_
    obtain ⟨q5, hq5, h⟩ := sp_bind h
    refine at_callSi (st := []) hK mt_X8_merged ml_X6_60 (t_X8_merged hK hq5) rfl rfl (Nat.le_of_ble_eq_true rfl) ⟨Nat.le_of_ble_eq_true rfl, Nat.le_of_ble_eq_true rfl⟩ ⟨Nat.le_refl _, Nat.le_refl _⟩ dX6_withLine_21 ?_
    refine at_goto 28 dX6_withLine_24 (by decide) ?_
    cases h; exact at_iret rfl (Nat.le_refl _) (Nat.le_refl _) ⟨rfl, rfl⟩ dX6_withLine_28
set_option maxRecDepth 100000 in
theorem t_X4_mark_rec {D : va_G} {b : Nat} {K : State → Heap → Prop} {sa : Nat → Nat} (hK : sx_Kk b K sa) {N : Nat} {uG uN uD uR uF uP uT uA uM uH xA xB xC xD xE xF xG xH xI xJ xK xL uO : sx_C} {G : sx_H} : ∀ (δ : Nat), ∀ (v1 : Int32) (v2 : Int32) (v3 : Int32) (uL : sx_C) (res : sx_C), f_X4_mark N uN δ v1 v2 v3 uL = some res → sx_Runs D b K yX4_mark YX4_mark (sx_rm (3 + δ)) [.ref (b + 17), .int v1, .int v2, .int v3] (sx_hp b uG uN uD uR uF uP uL uT uA uM uH xA xB xC xD xE xF xG xH xI xJ xK xL uO G) (sx_Ex none (sx_hp b uG uN uD uR uF uP res uT uA uM uH xA xB xC xD xE xF xG xH xI xJ xK xL uO G)) := by
  intro δ
  induction δ with
  | zero => intro _ _ _ _ _ h; cases h
  | succ δ ihR =>
    intro v1 v2 v3 uL res h
    have hR := ihR
    rw [f_X4_mark] at h
    refine sx_run (by decide +kernel) rfl rfl (Nat.le_of_ble_eq_true rfl) ?_
    refine at_aload_n 0 dX4_mark_0 rfl ?_
    refine at_getf cl_X4 (by decide) fl_X4_38 hg_17 rfl dX4_mark_1 ?_
    refine at_iload_n 2 dX4_mark_4 rfl ?_
    obtain ⟨q1, hq1, h⟩ := sp_bind h
    refine at_callVi (st := []) hK mt_X6_endsMeet ml_X4_72 cl_X6 hg_2 (t_X6_endsMeet hK hq1) rfl rfl (Nat.le_of_ble_eq_true rfl) ⟨(by show 2 + 1 ≤ 3 + δ + 1; omega), (by show 8 + (2 + 11) + 100 * 2 ≤ 100 * (3 + δ + 1); omega)⟩ ⟨Nat.le_refl _, Nat.le_refl _⟩ dX4_mark_5 ?_
    refine at_zeq 18 dX4_mark_8 (by decide) (fun c2 => ?_) (fun c2 => ?_)
    · rw [if_neg c2] at h
      refine at_iload_n 1 dX4_mark_18 rfl ?_
      refine at_iconst 1 dX4_mark_19 ic_1 ?_
      refine at_isub dX4_mark_20 ?_
      refine at_istore [(0, .ref (b + 17)), (1, .int v1), (2, .int v2), (3, .int v3), (4, .int (v1 - 1))] dX4_mark_21 (Nat.le_of_ble_eq_true rfl) rfl ?_
      refine at_iload 4 dX4_mark_23 rfl ?_
      refine at_if_lt 35 dX4_mark_25 (by decide) (fun c3 => ?_) (fun c3 => ?_)
      · rw [if_pos c3] at h
        cases h; exact at_vret rfl (Nat.le_refl _) (Nat.le_refl _) ⟨rfl, rfl⟩ dX4_mark_35
      · rw [if_neg c3] at h
        refine at_iload 4 dX4_mark_28 rfl ?_
        refine at_bipush 14 dX4_mark_30 bp_14 ?_
        refine at_icmp_lt 36 dX4_mark_32 (by decide) (fun c4 => ?_) (fun c4 => ?_)
        · rw [if_pos c4] at h
          refine at_aload_n 0 dX4_mark_36 rfl ?_
          refine at_iload 4 dX4_mark_37 rfl ?_
          refine at_iload_n 2 dX4_mark_39 rfl ?_
          refine at_iload_n 3 dX4_mark_40 rfl ?_
          obtain ⟨q5, hq5, h⟩ := sp_bind h
          refine at_callVv (st := []) hK mt_X4_mark ml_X4_57 cl_X4 hg_17 (ihR _ _ _ _ _ hq5) rfl rfl (Nat.le_of_ble_eq_true rfl) ⟨(by show (3 + δ) + 1 ≤ 3 + δ + 1; omega), (by show 8 + (5 + 11) + 100 * (3 + δ) ≤ 100 * (3 + δ + 1); omega)⟩ ⟨Nat.le_refl _, Nat.le_refl _⟩ dX4_mark_41 ?_
          refine at_aload_n 0 dX4_mark_44 rfl ?_
          refine at_iload 4 dX4_mark_45 rfl ?_
          refine at_aload_n 0 dX4_mark_47 rfl ?_
          refine at_getf cl_X4 (by decide) fl_X4_38 hg_17 rfl dX4_mark_48 ?_
          refine at_iload_n 2 dX4_mark_51 rfl ?_
          refine at_aload_n 0 dX4_mark_52 rfl ?_
          refine at_getf cl_X4 (by decide) fl_X4_18 hg_17 rfl dX4_mark_53 ?_
          refine at_iload 4 dX4_mark_56 rfl ?_
          obtain ⟨w6, hw6, h⟩ := sp_bind h
          refine at_iald hg_20 hw6 dX4_mark_58 ?_
          obtain ⟨q7, hq7, h⟩ := sp_bind h
          refine at_callVi (st := [.int (v1 - 1), .ref (b + 17)]) hK mt_X6_withLine ml_X4_80 cl_X6 hg_2 (t_X6_withLine hK hq7) rfl rfl (Nat.le_of_ble_eq_true rfl) ⟨(by show 2 + 1 ≤ 3 + δ + 1; omega), (by show 8 + (3 + 11) + 100 * 2 ≤ 100 * (3 + δ + 1); omega)⟩ ⟨Nat.le_refl _, Nat.le_refl _⟩ dX4_mark_59 ?_
          refine at_iload_n 3 dX4_mark_62 rfl ?_
          refine at_iconst 1 dX4_mark_63 ic_1 ?_
          refine at_iload 4 dX4_mark_64 rfl ?_
          refine at_ishl dX4_mark_66 ?_
          refine at_ior dX4_mark_67 ?_
          obtain ⟨q8, hq8, h⟩ := sp_bind h
          refine at_callVv (st := []) hK mt_X4_mark ml_X4_57 cl_X4 hg_17 (ihR _ _ _ _ _ hq8) rfl rfl (Nat.le_of_ble_eq_true rfl) ⟨(by show (3 + δ) + 1 ≤ 3 + δ + 1; omega), (by show 8 + (5 + 11) + 100 * (3 + δ) ≤ 100 * (3 + δ + 1); omega)⟩ ⟨Nat.le_refl _, Nat.le_refl _⟩ dX4_mark_68 ?_
          cases h; exact at_vret rfl (Nat.le_refl _) (Nat.le_refl _) ⟨rfl, rfl⟩ dX4_mark_71
        · rw [if_neg c4] at h
          cases h; exact at_vret rfl (Nat.le_refl _) (Nat.le_refl _) ⟨rfl, rfl⟩ dX4_mark_35
    · rw [if_pos c2] at h
      refine at_aload_n 0 dX4_mark_11 rfl ?_
      refine at_iload_n 1 dX4_mark_12 rfl ?_
      refine at_iload_n 3 dX4_mark_13 rfl ?_
      obtain ⟨q9, hq9, h⟩ := sp_bind h
      refine at_callVv (st := []) hK mt_X4_markAll ml_X4_76 cl_X4 hg_17 (t_X4_markAll hK hq9) rfl rfl (Nat.le_of_ble_eq_true rfl) ⟨(by show 1 + 1 ≤ 3 + δ + 1; omega), (by show 8 + (6 + 11) + 100 * 1 ≤ 100 * (3 + δ + 1); omega)⟩ ⟨Nat.le_refl _, Nat.le_refl _⟩ dX4_mark_14 ?_
      cases h; exact at_vret rfl (Nat.le_refl _) (Nat.le_refl _) ⟨rfl, rfl⟩ dX4_mark_17
theorem t_X4_mark {D : va_G} {b : Nat} {K : State → Heap → Prop} {sa : Nat → Nat} (hK : sx_Kk b K sa) {N : Nat} {uG uN uD uR uF uP uT uA uM uH xA xB xC xD xE xF xG xH xI xJ xK xL uO : sx_C} {G : sx_H} {v1 : Int32} {v2 : Int32} {v3 : Int32} {uL : sx_C} {δ : Nat} {res : sx_C} (h : f_X4_mark N uN δ v1 v2 v3 uL = some res) : sx_Runs D b K yX4_mark YX4_mark (sx_rm (3 + δ)) [.ref (b + 17), .int v1, .int v2, .int v3] (sx_hp b uG uN uD uR uF uP uL uT uA uM uH xA xB xC xD xE xF xG xH xI xJ xK xL uO G) (sx_Ex none (sx_hp b uG uN uD uR uF uP res uT uA uM uH xA xB xC xD xE xF xG xH xI xJ xK xL uO G)) := t_X4_mark_rec hK δ _ _ _ _ _ h
set_option maxRecDepth 100000 in
theorem t_X4_number_66 {D : va_G} {b : Nat} {K : State → Heap → Prop} {sa : Nat → Nat} (hK : sx_Kk b K sa) (N : Nat) {k23 : Int32 → Int32 → sx_C → Option (sx_C)} {uG uN uD uR uF uP uT uA uM uH xA xB xC xD xE xF xG xH xI xJ xK xL uO : sx_C} {G : sx_H} (res : sx_C) (hk23 : ∀ (v1 : Int32) (v2 : Int32) (uL : sx_C), k23 v1 v2 uL = some res → sx_At D b K YX4_number (sx_rm 2) (sx_Ex none (sx_hp b uG uN uD uR uF uP res uT uA uM uH xA xB xC xD xE xF xG xH xI xJ xK xL uO G)) 23 [(0, .ref (b + 17)), (1, .int v1), (2, .int v2)] [] (sx_hp b uG uN uD uR uF uP uL uT uA uM uH xA xB xC xD xE xF xG xH xI xJ xK xL uO G) 0 0) : ∀ (v1 : Int32) (v2 : Int32) (uL : sx_C), f_X4_number_66 N k23 uN v1 v2 uL = some res → sx_At D b K YX4_number (sx_rm 2) (sx_Ex none (sx_hp b uG uN uD uR uF uP res uT uA uM uH xA xB xC xD xE xF xG xH xI xJ xK xL uO G)) 66 [(0, .ref (b + 17)), (1, .int v1), (2, .int v2)] [] (sx_hp b uG uN uD uR uF uP uL uT uA uM uH xA xB xC xD xE xF xG xH xI xJ xK xL uO G) 0 0 := by
  intro v1 v2 uL h
  rw [f_X4_number_66] at h
  refine at_iinc 2 1 [(0, .ref (b + 17)), (1, .int v1), (2, .int (v2 + 1))] dX4_number_66 rfl ic_1 (Nat.le_of_ble_eq_true rfl) rfl ?_
  refine at_goto 23 dX4_number_69 (by decide) ?_
  exact hk23 _ _ _ h
set_option maxRecDepth 100000 in
theorem t_X4_number_23 {D : va_G} {b : Nat} {K : State → Heap → Prop} {sa : Nat → Nat} (hK : sx_Kk b K sa) (N : Nat) {uG uN uD uR uF uP uT uA uM uH xA xB xC xD xE xF xG xH xI xJ xK xL uO : sx_C} {G : sx_H} (res : sx_C) : ∀ (n0 : Nat) (v1 : Int32) (v2 : Int32) (uL : sx_C), f_X4_number_23 N uN n0 v1 v2 uL = some res → sx_At D b K YX4_number (sx_rm 2) (sx_Ex none (sx_hp b uG uN uD uR uF uP res uT uA uM uH xA xB xC xD xE xF xG xH xI xJ xK xL uO G)) 23 [(0, .ref (b + 17)), (1, .int v1), (2, .int v2)] [] (sx_hp b uG uN uD uR uF uP uL uT uA uM uH xA xB xC xD xE xF xG xH xI xJ xK xL uO G) 0 0 := by
  intro n0
  induction n0 with
  | zero => intro _ _ _ h; cases h
  | succ n0 ih =>
    intro v1 v2 uL h
    rw [f_X4_number_23] at h
    refine at_iload_n 2 dX4_number_23 rfl ?_
    refine at_bipush 14 dX4_number_24 bp_14 ?_
    refine at_icmp_ge 72 dX4_number_26 (by decide) (fun c1 => ?_) (fun c1 => ?_)
    · rw [if_pos c1] at h
      cases h; exact at_vret rfl (Nat.le_refl _) (Nat.le_refl _) ⟨rfl, rfl⟩ dX4_number_72
    · rw [if_neg c1] at h
      refine at_iload_n 1 dX4_number_29 rfl ?_
      refine at_iload_n 2 dX4_number_30 rfl ?_
      obtain ⟨q2, hq2, h⟩ := sp_bind h
      refine at_callSi (st := []) hK mt_X11_has ml_X4_68 (t_X11_has hK hq2) rfl rfl (Nat.le_of_ble_eq_true rfl) ⟨Nat.le_of_ble_eq_true rfl, Nat.le_of_ble_eq_true rfl⟩ ⟨Nat.le_refl _, Nat.le_refl _⟩ dX4_number_31 ?_
      refine at_zeq 66 dX4_number_34 (by decide) (fun c3 => ?_) (fun c3 => ?_)
      · rw [if_neg c3] at h
        exact t_X4_number_66 hK N _ ih _ _ _ h
      · rw [if_pos c3] at h
        refine at_aload_n 0 dX4_number_37 rfl ?_
        refine at_getf cl_X4 (by decide) fl_X4_35 hg_17 rfl dX4_number_38 ?_
        refine at_bipush 14 dX4_number_41 bp_14 ?_
        refine at_icmp_ge 66 dX4_number_43 (by decide) (fun c4 => ?_) (fun c4 => ?_)
        · rw [if_pos c4] at h
          exact t_X4_number_66 hK N _ ih _ _ _ h
        · rw [if_neg c4] at h
          refine at_aload_n 0 dX4_number_46 rfl ?_
          refine at_getf cl_X4 (by decide) fl_X4_18 hg_17 rfl dX4_number_47 ?_
          refine at_aload_n 0 dX4_number_50 rfl ?_
          refine at_getf cl_X4 (by decide) fl_X4_35 hg_17 rfl dX4_number_51 ?_
          refine at_iload_n 2 dX4_number_54 rfl ?_
          obtain ⟨hi5, h⟩ := sp_chk h
          refine at_iast hg_20 hi5 hs_20 dX4_number_55 ?_
          refine at_aload_n 0 dX4_number_56 rfl ?_
          refine at_dup dX4_number_57 rfl ?_
          refine at_getf cl_X4 (by decide) fl_X4_35 hg_17 rfl dX4_number_58 ?_
          refine at_iconst 1 dX4_number_61 ic_1 ?_
          refine at_iadd dX4_number_62 ?_
          refine at_putf cl_X4 (by decide) fl_X4_35 rfl hg_17 rfl rfl (Nat.le_of_ble_eq_true rfl) hs_17_8 dX4_number_63 ?_
          exact t_X4_number_66 hK N _ ih _ _ _ h
set_option maxRecDepth 100000 in
theorem t_X4_number {D : va_G} {b : Nat} {K : State → Heap → Prop} {sa : Nat → Nat} (hK : sx_Kk b K sa) {N : Nat} {uG uN uD uR uF uP uT uA uM uH xA xB xC xD xE xF xG xH xI xJ xK xL uO : sx_C} {G : sx_H} {uL : sx_C} {res : sx_C} (h : f_X4_number N uN uL = some res) : sx_Runs D b K yX4_number YX4_number (sx_rm 2) [.ref (b + 17)] (sx_hp b uG uN uD uR uF uP uL uT uA uM uH xA xB xC xD xE xF xG xH xI xJ xK xL uO G) (sx_Ex none (sx_hp b uG uN uD uR uF uP res uT uA uM uH xA xB xC xD xE xF xG xH xI xJ xK xL uO G)) := by
  rw [f_X4_number] at h
  refine sx_run (by decide +kernel) rfl rfl (Nat.le_of_ble_eq_true rfl) ?_
  refine at_aload_n 0 dX4_number_0 rfl ?_
  refine at_getf cl_X4 (by decide) fl_X4_38 hg_17 rfl dX4_number_1 ?_
  refine at_aload_n 0 dX4_number_4 rfl ?_
  refine at_getf cl_X4 (by decide) fl_X4_28 hg_17 rfl dX4_number_5 ?_
  refine at_aload_n 0 dX4_number_8 rfl ?_
  refine at_getf cl_X4 (by decide) fl_X4_32 hg_17 rfl dX4_number_9 ?_
  obtain ⟨q6, hq6, h⟩ := sp_bind h
  refine at_callVi (st := []) hK mt_X6_openOf ml_X4_64 cl_X6 hg_2 (t_X6_openOf hK hq6) rfl rfl (Nat.le_of_ble_eq_true rfl) ⟨Nat.le_of_ble_eq_true rfl, Nat.le_of_ble_eq_true rfl⟩ ⟨Nat.le_refl _, Nat.le_refl _⟩ dX4_number_12 ?_
  refine at_istore_n [(0, .ref (b + 17)), (1, .int q6)] dX4_number_15 (Nat.le_of_ble_eq_true rfl) rfl ?_
  refine at_aload_n 0 dX4_number_16 rfl ?_
  refine at_iconst 0 dX4_number_17 ic_0 ?_
  refine at_putf cl_X4 (by decide) fl_X4_35 rfl hg_17 rfl rfl (Nat.le_of_ble_eq_true rfl) hs_17_8 dX4_number_18 ?_
  refine at_iconst 0 dX4_number_21 ic_0 ?_
  refine at_istore_n [(0, .ref (b + 17)), (1, .int q6), (2, .int 0)] dX4_number_22 (Nat.le_of_ble_eq_true rfl) rfl ?_
  exact t_X4_number_23 hK N _ N _ _ _ h
set_option maxRecDepth 100000 in
theorem t_X4_wordsUsed {D : va_G} {b : Nat} {K : State → Heap → Prop} {sa : Nat → Nat} (hK : sx_Kk b K sa) {uG uN uD uR uF uP uL uT uA uM uH xA xB xC xD xE xF xG xH xI xJ xK xL uO : sx_C} {G : sx_H} {res : Int32} (h : f_X4_wordsUsed uL  = some res) : sx_Runs D b K yX4_wordsUsed YX4_wordsUsed (sx_rm 1) [.ref (b + 17)] (sx_hp b uG uN uD uR uF uP uL uT uA uM uH xA xB xC xD xE xF xG xH xI xJ xK xL uO G) (sx_Ex (some (.int res)) (sx_hp b uG uN uD uR uF uP uL uT uA uM uH xA xB xC xD xE xF xG xH xI xJ xK xL uO G)) := by
  rw [f_X4_wordsUsed] at h
  refine sx_run (by decide +kernel) rfl rfl (Nat.le_of_ble_eq_true rfl) ?_
  refine at_aload_n 0 dX4_wordsUsed_0 rfl ?_
  refine at_getf cl_X4 (by decide) fl_X4_35 hg_17 rfl dX4_wordsUsed_1 ?_
  refine at_iconst 5 dX4_wordsUsed_4 ic_5 ?_
  refine at_icmp_gt 12 dX4_wordsUsed_5 (by decide) (fun c1 => ?_) (fun c1 => ?_)
  · rw [if_pos c1] at h
    refine at_iconst 1 dX4_wordsUsed_12 ic_1 ?_
    refine at_aload_n 0 dX4_wordsUsed_13 rfl ?_
    refine at_getf cl_X4 (by decide) fl_X4_35 hg_17 rfl dX4_wordsUsed_14 ?_
    refine at_iconst 5 dX4_wordsUsed_17 ic_5 ?_
    refine at_isub dX4_wordsUsed_18 ?_
    refine at_ishl dX4_wordsUsed_19 ?_
    refine at_sipush 512 dX4_wordsUsed_20 sh_512 ?_
    obtain ⟨q2, hq2, h⟩ := sp_bind h
    refine at_callSi (st := []) hK mt_J9_min_7cf53 ml_X4_83 (t_J9_min_7cf53 hK hq2) rfl rfl (Nat.le_of_ble_eq_true rfl) ⟨Nat.le_of_ble_eq_true rfl, Nat.le_of_ble_eq_true rfl⟩ ⟨Nat.le_refl _, Nat.le_refl _⟩ dX4_wordsUsed_23 ?_
    cases h; exact at_iret rfl (Nat.le_refl _) (Nat.le_refl _) ⟨rfl, rfl⟩ dX4_wordsUsed_26
  · rw [if_neg c1] at h
    refine at_iconst 1 dX4_wordsUsed_8 ic_1 ?_
    refine at_goto 26 dX4_wordsUsed_9 (by decide) ?_
    cases h; exact at_iret rfl (Nat.le_refl _) (Nat.le_refl _) ⟨rfl, rfl⟩ dX4_wordsUsed_26
set_option maxRecDepth 100000 in
theorem t_X4_tallySizes_74 {D : va_G} {b : Nat} {K : State → Heap → Prop} {sa : Nat → Nat} (hK : sx_Kk b K sa) (N : Nat) {k15 : Int32 → Int32 → sx_C → Option (sx_C)} {k28 : Int32 → Int32 → Int32 → Int32 → sx_C → Option (sx_C)} {uG uN uD uR uF uP uT uA uM uH xA xB xC xD xE xF xG xH xI xJ xK xL uO : sx_C} {G : sx_H} (res : sx_C) (hk15 : ∀ (v1 : Int32) (v2 : Int32) (uL : sx_C), k15 v1 v2 uL = some res → sx_At D b K YX4_tallySizes (sx_rm 2) (sx_Ex none (sx_hp b uG uN uD uR uF uP res uT uA uM uH xA xB xC xD xE xF xG xH xI xJ xK xL uO G)) 15 [(0, .ref (b + 17)), (1, .int v1), (2, .int v2)] [] (sx_hp b uG uN uD uR uF uP uL uT uA uM uH xA xB xC xD xE xF xG xH xI xJ xK xL uO G) 0 0) (hk28 : ∀ (v1 : Int32) (v2 : Int32) (v3 : Int32) (v4 : Int32) (uL : sx_C), k28 v1 v2 v3 v4 uL = some res → sx_At D b K YX4_tallySizes (sx_rm 2) (sx_Ex none (sx_hp b uG uN uD uR uF uP res uT uA uM uH xA xB xC xD xE xF xG xH xI xJ xK xL uO G)) 28 [(0, .ref (b + 17)), (1, .int v1), (2, .int v2), (3, .int v3), (4, .int v4)] [] (sx_hp b uG uN uD uR uF uP uL uT uA uM uH xA xB xC xD xE xF xG xH xI xJ xK xL uO G) 0 0) : ∀ (v1 : Int32) (v2 : Int32) (v3 : Int32) (v4 : Int32) (uL : sx_C), f_X4_tallySizes_74 N k15 k28 v1 v2 v3 v4 uL = some res → sx_At D b K YX4_tallySizes (sx_rm 2) (sx_Ex none (sx_hp b uG uN uD uR uF uP res uT uA uM uH xA xB xC xD xE xF xG xH xI xJ xK xL uO G)) 74 [(0, .ref (b + 17)), (1, .int v1), (2, .int v2), (3, .int v3), (4, .int v4)] [] (sx_hp b uG uN uD uR uF uP uL uT uA uM uH xA xB xC xD xE xF xG xH xI xJ xK xL uO G) 0 0 := by
  intro v1 v2 v3 v4 uL h
  rw [f_X4_tallySizes_74] at h
  refine at_iinc 4 1 [(0, .ref (b + 17)), (1, .int v1), (2, .int v2), (3, .int v3), (4, .int (v4 + 1))] dX4_tallySizes_74 rfl ic_1 (Nat.le_of_ble_eq_true rfl) rfl ?_
  refine at_goto 28 dX4_tallySizes_77 (by decide) ?_
  exact hk28 _ _ _ _ _ h
set_option maxRecDepth 100000 in
theorem t_X4_tallySizes_28 {D : va_G} {b : Nat} {K : State → Heap → Prop} {sa : Nat → Nat} (hK : sx_Kk b K sa) (N : Nat) {k15 : Int32 → Int32 → sx_C → Option (sx_C)} {uG uN uD uR uF uP uT uA uM uH xA xB xC xD xE xF xG xH xI xJ xK xL uO : sx_C} {G : sx_H} (res : sx_C) (hk15 : ∀ (v1 : Int32) (v2 : Int32) (uL : sx_C), k15 v1 v2 uL = some res → sx_At D b K YX4_tallySizes (sx_rm 2) (sx_Ex none (sx_hp b uG uN uD uR uF uP res uT uA uM uH xA xB xC xD xE xF xG xH xI xJ xK xL uO G)) 15 [(0, .ref (b + 17)), (1, .int v1), (2, .int v2)] [] (sx_hp b uG uN uD uR uF uP uL uT uA uM uH xA xB xC xD xE xF xG xH xI xJ xK xL uO G) 0 0) : ∀ (n0 : Nat) (v1 : Int32) (v2 : Int32) (v3 : Int32) (v4 : Int32) (uL : sx_C), f_X4_tallySizes_28 N k15 n0 v1 v2 v3 v4 uL = some res → sx_At D b K YX4_tallySizes (sx_rm 2) (sx_Ex none (sx_hp b uG uN uD uR uF uP res uT uA uM uH xA xB xC xD xE xF xG xH xI xJ xK xL uO G)) 28 [(0, .ref (b + 17)), (1, .int v1), (2, .int v2), (3, .int v3), (4, .int v4)] [] (sx_hp b uG uN uD uR uF uP uL uT uA uM uH xA xB xC xD xE xF xG xH xI xJ xK xL uO G) 0 0 := by
  intro n0
  induction n0 with
  | zero => intro _ _ _ _ _ h; cases h
  | succ n0 ih =>
    intro v1 v2 v3 v4 uL h
    rw [f_X4_tallySizes_28] at h
    refine at_iload 4 dX4_tallySizes_28 rfl ?_
    refine at_gets (fun U H h9 => (hK.2 U H h9).2.2.2.2.1) fs_X4_97 dX4_tallySizes_30 ?_
    refine at_tolen (fun U H h9 => (hK.2 U H h9).2.2.2.2.2) nl_6 dX4_tallySizes_33 ?_
    refine at_icmp_ge 80 dX4_tallySizes_34 (by decide) (fun c3 => ?_) (fun c3 => ?_)
    · rw [if_pos c3] at h
      refine at_iinc 2 1 [(0, .ref (b + 17)), (1, .int v1), (2, .int (v2 + 1)), (3, .int v3), (4, .int v4)] dX4_tallySizes_80 rfl ic_1 (Nat.le_of_ble_eq_true rfl) rfl ?_
      refine at_goto 15 dX4_tallySizes_83 (by decide) ?_
      refine at_sub [0, 1, 2] [(0, .ref (b + 17)), (1, .int v1), (2, .int (v2 + 1))] rfl ?_
      exact hk15 _ _ _ h
    · rw [if_neg c3] at h
      refine at_iload_n 3 dX4_tallySizes_37 rfl ?_
      refine at_iload 4 dX4_tallySizes_38 rfl ?_
      refine at_iadd dX4_tallySizes_40 ?_
      refine at_bipush 14 dX4_tallySizes_41 bp_14 ?_
      refine at_icmp_gt 74 dX4_tallySizes_43 (by decide) (fun c4 => ?_) (fun c4 => ?_)
      · rw [if_pos c4] at h
        exact t_X4_tallySizes_74 hK N _ hk15 ih _ _ _ _ _ h
      · rw [if_neg c4] at h
        refine at_aload_n 0 dX4_tallySizes_46 rfl ?_
        refine at_getf cl_X4 (by decide) fl_X4_15 hg_17 rfl dX4_tallySizes_47 ?_
        refine at_iload_n 3 dX4_tallySizes_50 rfl ?_
        refine at_iload 4 dX4_tallySizes_51 rfl ?_
        refine at_iadd dX4_tallySizes_53 ?_
        refine at_dup2 dX4_tallySizes_54 rfl rfl ?_
        obtain ⟨w5, hw5, h⟩ := sp_bind h
        refine at_iald hg_19 hw5 dX4_tallySizes_55 ?_
        refine at_aload_n 0 dX4_tallySizes_56 rfl ?_
        refine at_getf cl_X4 (by decide) fl_X4_11 hg_17 rfl dX4_tallySizes_57 ?_
        refine at_iload_n 2 dX4_tallySizes_60 rfl ?_
        obtain ⟨w6, hw6, h⟩ := sp_bind h
        refine at_iald hg_18 hw6 dX4_tallySizes_61 ?_
        refine at_gets (fun U H h9 => (hK.2 U H h9).2.2.2.2.1) fs_X4_97 dX4_tallySizes_62 ?_
        refine at_iload 4 dX4_tallySizes_65 rfl ?_
        obtain ⟨w7, hw7, h⟩ := sp_bind h
        refine at_told (fun U H h9 => (hK.2 U H h9).2.2.2.2.2) hw7 dX4_tallySizes_67 ?_
        refine at_iand dX4_tallySizes_68 ?_
        obtain ⟨q8, hq8, h⟩ := sp_bind h
        refine at_callSi (st := [.int w5, .int (v3 + v4), .ref (b + 19)]) hK mt_J6_bitCount_0f7a4 ml_X4_92 (t_J6_bitCount_0f7a4 hK hq8) rfl rfl (Nat.le_of_ble_eq_true rfl) ⟨Nat.le_of_ble_eq_true rfl, Nat.le_of_ble_eq_true rfl⟩ ⟨Nat.le_refl _, Nat.le_refl _⟩ dX4_tallySizes_69 ?_
        refine at_iadd dX4_tallySizes_72 ?_
        obtain ⟨hi9, h⟩ := sp_chk h
        refine at_iast hg_19 hi9 hs_19 dX4_tallySizes_73 ?_
        exact t_X4_tallySizes_74 hK N _ hk15 ih _ _ _ _ _ h
set_option maxRecDepth 100000 in
theorem t_X4_tallySizes_15 {D : va_G} {b : Nat} {K : State → Heap → Prop} {sa : Nat → Nat} (hK : sx_Kk b K sa) (N : Nat) {uG uN uD uR uF uP uT uA uM uH xA xB xC xD xE xF xG xH xI xJ xK xL uO : sx_C} {G : sx_H} (res : sx_C) : ∀ (n0 : Nat) (v1 : Int32) (v2 : Int32) (uL : sx_C), f_X4_tallySizes_15 N n0 v1 v2 uL = some res → sx_At D b K YX4_tallySizes (sx_rm 2) (sx_Ex none (sx_hp b uG uN uD uR uF uP res uT uA uM uH xA xB xC xD xE xF xG xH xI xJ xK xL uO G)) 15 [(0, .ref (b + 17)), (1, .int v1), (2, .int v2)] [] (sx_hp b uG uN uD uR uF uP uL uT uA uM uH xA xB xC xD xE xF xG xH xI xJ xK xL uO G) 0 0 := by
  intro n0
  induction n0 with
  | zero => intro _ _ _ h; cases h
  | succ n0 ih =>
    intro v1 v2 uL h
    rw [f_X4_tallySizes_15] at h
    refine at_iload_n 2 dX4_tallySizes_15 rfl ?_
    refine at_iload_n 1 dX4_tallySizes_16 rfl ?_
    refine at_icmp_ge 86 dX4_tallySizes_17 (by decide) (fun c1 => ?_) (fun c1 => ?_)
    · rw [if_pos c1] at h
      cases h; exact at_vret rfl (Nat.le_refl _) (Nat.le_refl _) ⟨rfl, rfl⟩ dX4_tallySizes_86
    · rw [if_neg c1] at h
      refine at_iload_n 2 dX4_tallySizes_20 rfl ?_
      obtain ⟨q2, hq2, h⟩ := sp_bind h
      refine at_callSi (st := []) hK mt_J6_bitCount_0f7a4 ml_X4_92 (t_J6_bitCount_0f7a4 hK hq2) rfl rfl (Nat.le_of_ble_eq_true rfl) ⟨Nat.le_of_ble_eq_true rfl, Nat.le_of_ble_eq_true rfl⟩ ⟨Nat.le_refl _, Nat.le_refl _⟩ dX4_tallySizes_21 ?_
      refine at_istore_n [(0, .ref (b + 17)), (1, .int v1), (2, .int v2), (3, .int q2)] dX4_tallySizes_24 (Nat.le_of_ble_eq_true rfl) rfl ?_
      refine at_iconst 0 dX4_tallySizes_25 ic_0 ?_
      refine at_istore [(0, .ref (b + 17)), (1, .int v1), (2, .int v2), (3, .int q2), (4, .int 0)] dX4_tallySizes_26 (Nat.le_of_ble_eq_true rfl) rfl ?_
      exact t_X4_tallySizes_28 hK N _ ih N _ _ _ _ _ h
set_option maxRecDepth 100000 in
theorem t_X4_tallySizes {D : va_G} {b : Nat} {K : State → Heap → Prop} {sa : Nat → Nat} (hK : sx_Kk b K sa) {N : Nat} {uG uN uD uR uF uP uT uA uM uH xA xB xC xD xE xF xG xH xI xJ xK xL uO : sx_C} {G : sx_H} {uL : sx_C} {res : sx_C} (h : f_X4_tallySizes N uL = some res) : sx_Runs D b K yX4_tallySizes YX4_tallySizes (sx_rm 2) [.ref (b + 17)] (sx_hp b uG uN uD uR uF uP uL uT uA uM uH xA xB xC xD xE xF xG xH xI xJ xK xL uO G) (sx_Ex none (sx_hp b uG uN uD uR uF uP res uT uA uM uH xA xB xC xD xE xF xG xH xI xJ xK xL uO G)) := by
  rw [f_X4_tallySizes] at h
  refine sx_run (by decide +kernel) rfl rfl (Nat.le_of_ble_eq_true rfl) ?_
  refine at_aload_n 0 dX4_tallySizes_0 rfl ?_
  refine at_getf cl_X4 (by decide) fl_X4_15 hg_17 rfl dX4_tallySizes_1 ?_
  refine at_iconst 0 dX4_tallySizes_4 ic_0 ?_
  refine at_fillI hK hg_19 hw_19 (by decide) ml_X4_45 (Nat.le_of_ble_eq_true rfl) ⟨Nat.le_of_ble_eq_true rfl, Nat.le_of_ble_eq_true rfl⟩ ⟨Nat.le_refl _, Nat.le_refl _⟩ dX4_tallySizes_5 ?_
  refine at_aload_n 0 dX4_tallySizes_8 rfl ?_
  obtain ⟨q10, hq10, h⟩ := sp_bind h
  refine at_callVi (st := []) hK mt_X4_wordsUsed ml_X4_88 cl_X4 hg_17 (t_X4_wordsUsed hK hq10) rfl rfl (Nat.le_of_ble_eq_true rfl) ⟨Nat.le_of_ble_eq_true rfl, Nat.le_of_ble_eq_true rfl⟩ ⟨Nat.le_refl _, Nat.le_refl _⟩ dX4_tallySizes_9 ?_
  refine at_istore_n [(0, .ref (b + 17)), (1, .int q10)] dX4_tallySizes_12 (Nat.le_of_ble_eq_true rfl) rfl ?_
  refine at_iconst 0 dX4_tallySizes_13 ic_0 ?_
  refine at_istore_n [(0, .ref (b + 17)), (1, .int q10), (2, .int 0)] dX4_tallySizes_14 (Nat.le_of_ble_eq_true rfl) rfl ?_
  exact t_X4_tallySizes_15 hK N _ N _ _ _ h
set_option maxRecDepth 100000 in
theorem t_X4_lookAt_24 {D : va_G} {b : Nat} {K : State → Heap → Prop} {sa : Nat → Nat} (hK : sx_Kk b K sa) (N : Nat) {uG uN uD uR uF uP uT uA uM uH xA xB xC xD xE xF xG xH xI xJ xK xL uO : sx_C} {G : sx_H} (res : sx_C) : ∀ (v1 : Int32) (v2 : Int32) (uL : sx_C), f_X4_lookAt_24 N uN v1 v2 uL = some res → sx_At D b K YX4_lookAt (sx_rm 44) (sx_Ex none (sx_hp b uG uN uD uR uF uP res uT uA uM uH xA xB xC xD xE xF xG xH xI xJ xK xL uO G)) 24 [(0, .ref (b + 17)), (1, .int v1), (2, .int v2)] [] (sx_hp b uG uN uD uR uF uP uL uT uA uM uH xA xB xC xD xE xF xG xH xI xJ xK xL uO G) 0 0 := by
  intro v1 v2 uL h
  rw [f_X4_lookAt_24] at h
  refine at_aload_n 0 dX4_lookAt_24 rfl ?_
  refine at_iconst 1 dX4_lookAt_25 ic_1 ?_
  refine at_putf cl_X4 (by decide) fl_X4_24 rfl hg_17 rfl rfl (Nat.le_of_ble_eq_true rfl) hs_17_5 dX4_lookAt_26 ?_
  refine at_aload_n 0 dX4_lookAt_29 rfl ?_
  refine at_iload_n 1 dX4_lookAt_30 rfl ?_
  refine at_putf cl_X4 (by decide) fl_X4_28 rfl hg_17 rfl rfl (Nat.le_of_ble_eq_true rfl) hs_17_6 dX4_lookAt_31 ?_
  refine at_aload_n 0 dX4_lookAt_34 rfl ?_
  refine at_iload_n 2 dX4_lookAt_35 rfl ?_
  refine at_putf cl_X4 (by decide) fl_X4_32 rfl hg_17 rfl rfl (Nat.le_of_ble_eq_true rfl) hs_17_7 dX4_lookAt_36 ?_
  refine at_aload_n 0 dX4_lookAt_39 rfl ?_
  obtain ⟨q1, hq1, h⟩ := sp_bind h
  refine at_callVv (st := []) hK mt_X4_number ml_X4_42 cl_X4 hg_17 (t_X4_number hK hq1) rfl rfl (Nat.le_of_ble_eq_true rfl) ⟨Nat.le_of_ble_eq_true rfl, Nat.le_of_ble_eq_true rfl⟩ ⟨Nat.le_refl _, Nat.le_refl _⟩ dX4_lookAt_40 ?_
  refine at_aload_n 0 dX4_lookAt_43 rfl ?_
  refine at_getf cl_X4 (by decide) fl_X4_11 hg_17 rfl dX4_lookAt_44 ?_
  refine at_iconst 0 dX4_lookAt_47 ic_0 ?_
  refine at_fillI hK hg_18 hw_18 (by decide) ml_X4_45 (Nat.le_of_ble_eq_true rfl) ⟨Nat.le_of_ble_eq_true rfl, Nat.le_of_ble_eq_true rfl⟩ ⟨Nat.le_refl _, Nat.le_refl _⟩ dX4_lookAt_48 ?_
  refine at_aload_n 0 dX4_lookAt_51 rfl ?_
  refine at_aload_n 0 dX4_lookAt_52 rfl ?_
  refine at_getf cl_X4 (by decide) fl_X4_35 hg_17 rfl dX4_lookAt_53 ?_
  refine at_aload_n 0 dX4_lookAt_56 rfl ?_
  refine at_getf cl_X4 (by decide) fl_X4_38 hg_17 rfl dX4_lookAt_57 ?_
  refine at_aload_n 0 dX4_lookAt_60 rfl ?_
  refine at_getf cl_X4 (by decide) fl_X4_28 hg_17 rfl dX4_lookAt_61 ?_
  obtain ⟨q2, hq2, h⟩ := sp_bind h
  refine at_callVi (st := [.int (gi (sw q1 1 (sp_fill (ga q1 1) 512 0)) 8), .ref (b + 17)]) hK mt_X6_placesBy ml_X4_51 cl_X6 hg_2 (t_X6_placesBy hK hq2) rfl rfl (Nat.le_of_ble_eq_true rfl) ⟨Nat.le_of_ble_eq_true rfl, Nat.le_of_ble_eq_true rfl⟩ ⟨Nat.le_refl _, Nat.le_refl _⟩ dX4_lookAt_64 ?_
  refine at_iconst 0 dX4_lookAt_67 ic_0 ?_
  obtain ⟨q3, hq3, h⟩ := sp_bind h
  refine at_callVv (st := []) hK mt_X4_mark ml_X4_57 cl_X4 hg_17 (t_X4_mark hK hq3) rfl rfl (Nat.le_of_ble_eq_true rfl) ⟨Nat.le_of_ble_eq_true rfl, Nat.le_of_ble_eq_true rfl⟩ ⟨Nat.le_refl _, Nat.le_refl _⟩ dX4_lookAt_68 ?_
  refine at_aload_n 0 dX4_lookAt_71 rfl ?_
  obtain ⟨q4, hq4, h⟩ := sp_bind h
  refine at_callVv (st := []) hK mt_X4_tallySizes ml_X4_61 cl_X4 hg_17 (t_X4_tallySizes hK hq4) rfl rfl (Nat.le_of_ble_eq_true rfl) ⟨Nat.le_of_ble_eq_true rfl, Nat.le_of_ble_eq_true rfl⟩ ⟨Nat.le_refl _, Nat.le_refl _⟩ dX4_lookAt_72 ?_
  cases h; exact at_vret rfl (Nat.le_refl _) (Nat.le_refl _) ⟨rfl, rfl⟩ dX4_lookAt_75
set_option maxRecDepth 100000 in
theorem t_X4_lookAt {D : va_G} {b : Nat} {K : State → Heap → Prop} {sa : Nat → Nat} (hK : sx_Kk b K sa) {N : Nat} {uG uN uD uR uF uP uT uA uM uH xA xB xC xD xE xF xG xH xI xJ xK xL uO : sx_C} {G : sx_H} {v1 : Int32} {v2 : Int32} {uL : sx_C} {res : sx_C} (h : f_X4_lookAt N uN v1 v2 uL = some res) : sx_Runs D b K yX4_lookAt YX4_lookAt (sx_rm 44) [.ref (b + 17), .int v1, .int v2] (sx_hp b uG uN uD uR uF uP uL uT uA uM uH xA xB xC xD xE xF xG xH xI xJ xK xL uO G) (sx_Ex none (sx_hp b uG uN uD uR uF uP res uT uA uM uH xA xB xC xD xE xF xG xH xI xJ xK xL uO G)) := by
  rw [f_X4_lookAt] at h
  refine sx_run (by decide +kernel) rfl rfl (Nat.le_of_ble_eq_true rfl) ?_
  refine at_aload_n 0 dX4_lookAt_0 rfl ?_
  refine at_getf cl_X4 (by decide) fl_X4_24 hg_17 rfl dX4_lookAt_1 ?_
  refine at_if_eq 24 dX4_lookAt_4 (by decide) (fun c5 => ?_) (fun c5 => ?_)
  · rw [if_pos c5] at h
    exact t_X4_lookAt_24 hK N _ _ _ _ h
  · rw [if_neg c5] at h
    refine at_aload_n 0 dX4_lookAt_7 rfl ?_
    refine at_getf cl_X4 (by decide) fl_X4_28 hg_17 rfl dX4_lookAt_8 ?_
    refine at_iload_n 1 dX4_lookAt_11 rfl ?_
    refine at_icmp_ne 24 dX4_lookAt_12 (by decide) (fun c6 => ?_) (fun c6 => ?_)
    · rw [if_neg c6] at h
      exact t_X4_lookAt_24 hK N _ _ _ _ h
    · rw [if_pos c6] at h
      refine at_aload_n 0 dX4_lookAt_15 rfl ?_
      refine at_getf cl_X4 (by decide) fl_X4_32 hg_17 rfl dX4_lookAt_16 ?_
      refine at_iload_n 2 dX4_lookAt_19 rfl ?_
      refine at_icmp_ne 24 dX4_lookAt_20 (by decide) (fun c7 => ?_) (fun c7 => ?_)
      · rw [if_neg c7] at h
        exact t_X4_lookAt_24 hK N _ _ _ _ h
      · rw [if_pos c7] at h
        cases h; exact at_vret rfl (Nat.le_refl _) (Nat.le_refl _) ⟨rfl, rfl⟩ dX4_lookAt_23
set_option maxRecDepth 100000 in
theorem t_X4_ways_4 {D : va_G} {b : Nat} {K : State → Heap → Prop} {sa : Nat → Nat} (hK : sx_Kk b K sa) (N : Nat) {σ : sx_H} (res : Int32) : ∀ (n0 : Nat) (v0 : Int32) (v1 : Int32) (v2 : Int32) (v3 : Int32), f_X4_ways_4 N n0 v0 v1 v2 v3 = some res → sx_At D b K YX4_ways (sx_rm 0) (sx_Ex (some (.int res)) σ) 4 [(0, .int v0), (1, .int v1), (2, .int v2), (3, .int v3)] [] σ 0 0 := by
  intro n0
  induction n0 with
  | zero => intro _ _ _ _ h; cases h
  | succ n0 ih =>
    intro v0 v1 v2 v3 h
    rw [f_X4_ways_4] at h
    refine at_iload_n 3 dX4_ways_4 rfl ?_
    refine at_iload_n 1 dX4_ways_5 rfl ?_
    refine at_icmp_ge 25 dX4_ways_6 (by decide) (fun c1 => ?_) (fun c1 => ?_)
    · rw [if_pos c1] at h
      refine at_iload_n 2 dX4_ways_25 rfl ?_
      cases h; exact at_iret rfl (Nat.le_refl _) (Nat.le_refl _) ⟨rfl, rfl⟩ dX4_ways_26
    · rw [if_neg c1] at h
      refine at_iload_n 2 dX4_ways_9 rfl ?_
      refine at_iload_n 0 dX4_ways_10 rfl ?_
      refine at_iload_n 3 dX4_ways_11 rfl ?_
      refine at_isub dX4_ways_12 ?_
      refine at_imul dX4_ways_13 ?_
      refine at_iload_n 3 dX4_ways_14 rfl ?_
      refine at_iconst 1 dX4_ways_15 ic_1 ?_
      refine at_iadd dX4_ways_16 ?_
      obtain ⟨hz2, h⟩ := sp_chk h
      refine at_idiv dX4_ways_17 hz2 ?_
      refine at_istore_n [(0, .int v0), (1, .int v1), (2, .int ((v2 * (v0 - v3)) / (v3 + 1))), (3, .int v3)] dX4_ways_18 (Nat.le_of_ble_eq_true rfl) rfl ?_
      refine at_iinc 3 1 [(0, .int v0), (1, .int v1), (2, .int ((v2 * (v0 - v3)) / (v3 + 1))), (3, .int (v3 + 1))] dX4_ways_19 rfl ic_1 (Nat.le_of_ble_eq_true rfl) rfl ?_
      refine at_goto 4 dX4_ways_22 (by decide) ?_
      exact ih _ _ _ _ h
set_option maxRecDepth 100000 in
theorem t_X4_ways {D : va_G} {b : Nat} {K : State → Heap → Prop} {sa : Nat → Nat} (hK : sx_Kk b K sa) {N : Nat} {σ : sx_H} {v0 : Int32} {v1 : Int32} {res : Int32} (h : f_X4_ways N v0 v1 = some res) : sx_Runs D b K yX4_ways YX4_ways (sx_rm 0) [.int v0, .int v1] σ (sx_Ex (some (.int res)) σ) := by
  rw [f_X4_ways] at h
  refine sx_run (by decide +kernel) rfl rfl (Nat.le_of_ble_eq_true rfl) ?_
  refine at_iconst 1 dX4_ways_0 ic_1 ?_
  refine at_istore_n [(0, .int v0), (1, .int v1), (2, .int 1)] dX4_ways_1 (Nat.le_of_ble_eq_true rfl) rfl ?_
  refine at_iconst 0 dX4_ways_2 ic_0 ?_
  refine at_istore_n [(0, .int v0), (1, .int v1), (2, .int 1), (3, .int 0)] dX4_ways_3 (Nat.le_of_ble_eq_true rfl) rfl ?_
  exact t_X4_ways_4 hK N _ N _ _ _ _ h
set_option maxRecDepth 100000 in
theorem t_X4_sized {D : va_G} {b : Nat} {K : State → Heap → Prop} {sa : Nat → Nat} (hK : sx_Kk b K sa) {N : Nat} {uG uN uD uR uF uP uL uT uA uM uH xA xB xC xD xE xF xG xH xI xJ xK xL uO : sx_C} {G : sx_H} {v1 : Int32} {v2 : Int32} {res : Int32} (h : f_X4_sized N uL v1 v2 = some res) : sx_Runs D b K yX4_sized YX4_sized (sx_rm 1) [.ref (b + 17), .int v1, .int v2] (sx_hp b uG uN uD uR uF uP uL uT uA uM uH xA xB xC xD xE xF xG xH xI xJ xK xL uO G) (sx_Ex (some (.int res)) (sx_hp b uG uN uD uR uF uP uL uT uA uM uH xA xB xC xD xE xF xG xH xI xJ xK xL uO G)) := by
  rw [f_X4_sized] at h
  refine sx_run (by decide +kernel) rfl rfl (Nat.le_of_ble_eq_true rfl) ?_
  refine at_iload_n 2 dX4_sized_0 rfl ?_
  refine at_if_lt 21 dX4_sized_1 (by decide) (fun c1 => ?_) (fun c1 => ?_)
  · rw [if_pos c1] at h
    refine at_iconst 0 dX4_sized_21 ic_0 ?_
    cases h; exact at_iret rfl (Nat.le_refl _) (Nat.le_refl _) ⟨rfl, rfl⟩ dX4_sized_22
  · rw [if_neg c1] at h
    refine at_iload_n 2 dX4_sized_4 rfl ?_
    refine at_aload_n 0 dX4_sized_5 rfl ?_
    refine at_getf cl_X4 (by decide) fl_X4_35 hg_17 rfl dX4_sized_6 ?_
    refine at_icmp_gt 21 dX4_sized_9 (by decide) (fun c2 => ?_) (fun c2 => ?_)
    · rw [if_pos c2] at h
      refine at_iconst 0 dX4_sized_21 ic_0 ?_
      cases h; exact at_iret rfl (Nat.le_refl _) (Nat.le_refl _) ⟨rfl, rfl⟩ dX4_sized_22
    · rw [if_neg c2] at h
      refine at_aload_n 0 dX4_sized_12 rfl ?_
      refine at_getf cl_X4 (by decide) fl_X4_35 hg_17 rfl dX4_sized_13 ?_
      refine at_bipush 14 dX4_sized_16 bp_14 ?_
      refine at_icmp_le 23 dX4_sized_18 (by decide) (fun c3 => ?_) (fun c3 => ?_)
      · rw [if_pos c3] at h
        refine at_iload_n 1 dX4_sized_23 rfl ?_
        refine at_if_ne 36 dX4_sized_24 (by decide) (fun c4 => ?_) (fun c4 => ?_)
        · rw [if_neg c4] at h
          refine at_aload_n 0 dX4_sized_36 rfl ?_
          refine at_getf cl_X4 (by decide) fl_X4_35 hg_17 rfl dX4_sized_37 ?_
          refine at_iload_n 2 dX4_sized_40 rfl ?_
          obtain ⟨q5, hq5, h⟩ := sp_bind h
          refine at_callSi (st := []) hK mt_X4_ways ml_X4_106 (t_X4_ways hK hq5) rfl rfl (Nat.le_of_ble_eq_true rfl) ⟨Nat.le_of_ble_eq_true rfl, Nat.le_of_ble_eq_true rfl⟩ ⟨Nat.le_refl _, Nat.le_refl _⟩ dX4_sized_41 ?_
          refine at_aload_n 0 dX4_sized_44 rfl ?_
          refine at_getf cl_X4 (by decide) fl_X4_15 hg_17 rfl dX4_sized_45 ?_
          refine at_aload_n 0 dX4_sized_48 rfl ?_
          refine at_getf cl_X4 (by decide) fl_X4_35 hg_17 rfl dX4_sized_49 ?_
          refine at_iload_n 2 dX4_sized_52 rfl ?_
          refine at_isub dX4_sized_53 ?_
          obtain ⟨w6, hw6, h⟩ := sp_bind h
          refine at_iald hg_19 hw6 dX4_sized_54 ?_
          refine at_isub dX4_sized_55 ?_
          cases h; exact at_iret rfl (Nat.le_refl _) (Nat.le_refl _) ⟨rfl, rfl⟩ dX4_sized_56
        · rw [if_pos c4] at h
          refine at_aload_n 0 dX4_sized_27 rfl ?_
          refine at_getf cl_X4 (by decide) fl_X4_15 hg_17 rfl dX4_sized_28 ?_
          refine at_iload_n 2 dX4_sized_31 rfl ?_
          obtain ⟨w7, hw7, h⟩ := sp_bind h
          refine at_iald hg_19 hw7 dX4_sized_32 ?_
          refine at_goto 56 dX4_sized_33 (by decide) ?_
          cases h; exact at_iret rfl (Nat.le_refl _) (Nat.le_refl _) ⟨rfl, rfl⟩ dX4_sized_56
      · rw [if_neg c3] at h
        refine at_iconst 0 dX4_sized_21 ic_0 ?_
        cases h; exact at_iret rfl (Nat.le_refl _) (Nat.le_refl _) ⟨rfl, rfl⟩ dX4_sized_22
set_option maxRecDepth 100000 in
theorem t_X4_positionsOf_4 {D : va_G} {b : Nat} {K : State → Heap → Prop} {sa : Nat → Nat} (hK : sx_Kk b K sa) (N : Nat) {uG uN uD uR uF uP uL uT uA uM uH xA xB xC xD xE xF xG xH xI xJ xK xL uO : sx_C} {G : sx_H} (res : Int32) : ∀ (n0 : Nat) (v1 : Int32) (v2 : Int32) (v3 : Int32), f_X4_positionsOf_4 N uL n0 v1 v2 v3 = some res → sx_At D b K YX4_positionsOf (sx_rm 2) (sx_Ex (some (.int res)) (sx_hp b uG uN uD uR uF uP uL uT uA uM uH xA xB xC xD xE xF xG xH xI xJ xK xL uO G)) 4 [(0, .ref (b + 17)), (1, .int v1), (2, .int v2), (3, .int v3)] [] (sx_hp b uG uN uD uR uF uP uL uT uA uM uH xA xB xC xD xE xF xG xH xI xJ xK xL uO G) 0 0 := by
  intro n0
  induction n0 with
  | zero => intro _ _ _ h; cases h
  | succ n0 ih =>
    intro v1 v2 v3 h
    rw [f_X4_positionsOf_4] at h
    refine at_iload_n 3 dX4_positionsOf_4 rfl ?_
    refine at_aload_n 0 dX4_positionsOf_5 rfl ?_
    refine at_getf cl_X4 (by decide) fl_X4_35 hg_17 rfl dX4_positionsOf_6 ?_
    refine at_icmp_gt 34 dX4_positionsOf_9 (by decide) (fun c1 => ?_) (fun c1 => ?_)
    · rw [if_pos c1] at h
      refine at_iload_n 2 dX4_positionsOf_34 rfl ?_
      cases h; exact at_iret rfl (Nat.le_refl _) (Nat.le_refl _) ⟨rfl, rfl⟩ dX4_positionsOf_35
    · rw [if_neg c1] at h
      refine at_iload_n 2 dX4_positionsOf_12 rfl ?_
      refine at_aload_n 0 dX4_positionsOf_13 rfl ?_
      refine at_iload_n 1 dX4_positionsOf_14 rfl ?_
      refine at_iload_n 3 dX4_positionsOf_15 rfl ?_
      obtain ⟨q2, hq2, h⟩ := sp_bind h
      refine at_callVi (st := [.int v2]) hK mt_X4_sized ml_X4_109 cl_X4 hg_17 (t_X4_sized hK hq2) rfl rfl (Nat.le_of_ble_eq_true rfl) ⟨Nat.le_of_ble_eq_true rfl, Nat.le_of_ble_eq_true rfl⟩ ⟨Nat.le_refl _, Nat.le_refl _⟩ dX4_positionsOf_16 ?_
      refine at_aload_n 0 dX4_positionsOf_19 rfl ?_
      refine at_getf cl_X4 (by decide) fl_X4_35 hg_17 rfl dX4_positionsOf_20 ?_
      refine at_iload_n 3 dX4_positionsOf_23 rfl ?_
      refine at_isub dX4_positionsOf_24 ?_
      refine at_ishl dX4_positionsOf_25 ?_
      refine at_iadd dX4_positionsOf_26 ?_
      refine at_istore_n [(0, .ref (b + 17)), (1, .int v1), (2, .int (v2 + (sp_shl q2 ((gi uL 8) - v3)))), (3, .int v3)] dX4_positionsOf_27 (Nat.le_of_ble_eq_true rfl) rfl ?_
      refine at_iinc 3 1 [(0, .ref (b + 17)), (1, .int v1), (2, .int (v2 + (sp_shl q2 ((gi uL 8) - v3)))), (3, .int (v3 + 1))] dX4_positionsOf_28 rfl ic_1 (Nat.le_of_ble_eq_true rfl) rfl ?_
      refine at_goto 4 dX4_positionsOf_31 (by decide) ?_
      exact ih _ _ _ h
set_option maxRecDepth 100000 in
theorem t_X4_positionsOf {D : va_G} {b : Nat} {K : State → Heap → Prop} {sa : Nat → Nat} (hK : sx_Kk b K sa) {N : Nat} {uG uN uD uR uF uP uL uT uA uM uH xA xB xC xD xE xF xG xH xI xJ xK xL uO : sx_C} {G : sx_H} {v1 : Int32} {res : Int32} (h : f_X4_positionsOf N uL v1 = some res) : sx_Runs D b K yX4_positionsOf YX4_positionsOf (sx_rm 2) [.ref (b + 17), .int v1] (sx_hp b uG uN uD uR uF uP uL uT uA uM uH xA xB xC xD xE xF xG xH xI xJ xK xL uO G) (sx_Ex (some (.int res)) (sx_hp b uG uN uD uR uF uP uL uT uA uM uH xA xB xC xD xE xF xG xH xI xJ xK xL uO G)) := by
  rw [f_X4_positionsOf] at h
  refine sx_run (by decide +kernel) rfl rfl (Nat.le_of_ble_eq_true rfl) ?_
  refine at_iconst 0 dX4_positionsOf_0 ic_0 ?_
  refine at_istore_n [(0, .ref (b + 17)), (1, .int v1), (2, .int 0)] dX4_positionsOf_1 (Nat.le_of_ble_eq_true rfl) rfl ?_
  refine at_iconst 0 dX4_positionsOf_2 ic_0 ?_
  refine at_istore_n [(0, .ref (b + 17)), (1, .int v1), (2, .int 0), (3, .int 0)] dX4_positionsOf_3 (Nat.le_of_ble_eq_true rfl) rfl ?_
  exact t_X4_positionsOf_4 hK N _ N _ _ _ h
set_option maxRecDepth 100000 in
theorem t_X4_positionsOfNobody {D : va_G} {b : Nat} {K : State → Heap → Prop} {sa : Nat → Nat} (hK : sx_Kk b K sa) {N : Nat} {uG uN uD uR uF uP uL uT uA uM uH xA xB xC xD xE xF xG xH xI xJ xK xL uO : sx_C} {G : sx_H} {res : Int32} (h : f_X4_positionsOfNobody N uL  = some res) : sx_Runs D b K yX4_positionsOfNobody YX4_positionsOfNobody (sx_rm 3) [.ref (b + 17)] (sx_hp b uG uN uD uR uF uP uL uT uA uM uH xA xB xC xD xE xF xG xH xI xJ xK xL uO G) (sx_Ex (some (.int res)) (sx_hp b uG uN uD uR uF uP uL uT uA uM uH xA xB xC xD xE xF xG xH xI xJ xK xL uO G)) := by
  rw [f_X4_positionsOfNobody] at h
  refine sx_run (by decide +kernel) rfl rfl (Nat.le_of_ble_eq_true rfl) ?_
  refine at_aload_n 0 dX4_positionsOfNobody_0 rfl ?_
  obtain ⟨q1, hq1, h⟩ := sp_bind h
  refine at_callVi (st := []) hK mt_X4_allPositions ml_X4_112 cl_X4 hg_17 (t_X4_allPositions hK hq1) rfl rfl (Nat.le_of_ble_eq_true rfl) ⟨Nat.le_of_ble_eq_true rfl, Nat.le_of_ble_eq_true rfl⟩ ⟨Nat.le_refl _, Nat.le_refl _⟩ dX4_positionsOfNobody_1 ?_
  refine at_aload_n 0 dX4_positionsOfNobody_4 rfl ?_
  refine at_iconst 0 dX4_positionsOfNobody_5 ic_0 ?_
  obtain ⟨q2, hq2, h⟩ := sp_bind h
  refine at_callVi (st := [.int q1]) hK mt_X4_positionsOf ml_X4_115 cl_X4 hg_17 (t_X4_positionsOf hK hq2) rfl rfl (Nat.le_of_ble_eq_true rfl) ⟨Nat.le_of_ble_eq_true rfl, Nat.le_of_ble_eq_true rfl⟩ ⟨Nat.le_refl _, Nat.le_refl _⟩ dX4_positionsOfNobody_6 ?_
  refine at_isub dX4_positionsOfNobody_9 ?_
  refine at_aload_n 0 dX4_positionsOfNobody_10 rfl ?_
  refine at_iconst 1 dX4_positionsOfNobody_11 ic_1 ?_
  obtain ⟨q3, hq3, h⟩ := sp_bind h
  refine at_callVi (st := [.int (q1 - q2)]) hK mt_X4_positionsOf ml_X4_115 cl_X4 hg_17 (t_X4_positionsOf hK hq3) rfl rfl (Nat.le_of_ble_eq_true rfl) ⟨Nat.le_of_ble_eq_true rfl, Nat.le_of_ble_eq_true rfl⟩ ⟨Nat.le_refl _, Nat.le_refl _⟩ dX4_positionsOfNobody_12 ?_
  refine at_isub dX4_positionsOfNobody_15 ?_
  cases h; exact at_iret rfl (Nat.le_refl _) (Nat.le_refl _) ⟨rfl, rfl⟩ dX4_positionsOfNobody_16
set_option maxRecDepth 100000 in
theorem t_X11_positions {D : va_G} {b : Nat} {K : State → Heap → Prop} {sa : Nat → Nat} (hK : sx_Kk b K sa) {N : Nat} {uG uN uD uR uF uP uT uA uM uH xA xB xC xD xE xF xG xH xI xJ xK xL uO : sx_C} {G : sx_H} {v1 : Int32} {uL : sx_C} {res : Int32 × sx_C} (h : f_X11_positions N uG uN v1 uL = some res) : sx_Runs D b K yX11_positions YX11_positions (sx_rm 45) [.ref (b + 0), .int v1] (sx_hp b uG uN uD uR uF uP uL uT uA uM uH xA xB xC xD xE xF xG xH xI xJ xK xL uO G) (sx_Ex (some (.int res.1)) (sx_hp b uG uN uD uR uF uP (res.2) uT uA uM uH xA xB xC xD xE xF xG xH xI xJ xK xL uO G)) := by
  rw [f_X11_positions] at h
  refine sx_run (by decide +kernel) rfl rfl (Nat.le_of_ble_eq_true rfl) ?_
  refine at_iload_n 1 dX11_positions_0 rfl ?_
  refine at_if_lt 9 dX11_positions_1 (by decide) (fun c1 => ?_) (fun c1 => ?_)
  · rw [if_pos c1] at h
    refine at_iconst (-1) dX11_positions_9 ic_m1 ?_
    cases h; exact at_iret rfl (Nat.le_refl _) (Nat.le_refl _) ⟨rfl, rfl⟩ dX11_positions_10
  · rw [if_neg c1] at h
    refine at_iload_n 1 dX11_positions_4 rfl ?_
    refine at_iconst 3 dX11_positions_5 ic_3 ?_
    refine at_icmp_le 11 dX11_positions_6 (by decide) (fun c2 => ?_) (fun c2 => ?_)
    · rw [if_pos c2] at h
      refine at_aload_n 0 dX11_positions_11 rfl ?_
      obtain ⟨q3, hq3, h⟩ := sp_bind h
      refine at_callVi (st := []) hK mt_X11_isSmall ml_X11_236 cl_X11 hg_0 (t_X11_isSmall hK hq3) rfl rfl (Nat.le_of_ble_eq_true rfl) ⟨Nat.le_of_ble_eq_true rfl, Nat.le_of_ble_eq_true rfl⟩ ⟨Nat.le_refl _, Nat.le_refl _⟩ dX11_positions_12 ?_
      refine at_zne 21 dX11_positions_15 (by decide) (fun c4 => ?_) (fun c4 => ?_)
      · rw [if_pos c4] at h
        refine at_aload_n 0 dX11_positions_21 rfl ?_
        refine at_getf cl_X11 (by decide) fl_X11_60 hg_0 rfl dX11_positions_22 ?_
        refine at_aload_n 0 dX11_positions_25 rfl ?_
        refine at_getf cl_X11 (by decide) fl_X11_91 hg_0 rfl dX11_positions_26 ?_
        refine at_aload_n 0 dX11_positions_29 rfl ?_
        refine at_getf cl_X11 (by decide) fl_X11_94 hg_0 rfl dX11_positions_30 ?_
        obtain ⟨q5, hq5, h⟩ := sp_bind h
        refine at_callVv (st := []) hK mt_X4_lookAt ml_X11_242 cl_X4 hg_17 (t_X4_lookAt hK hq5) rfl rfl (Nat.le_of_ble_eq_true rfl) ⟨Nat.le_of_ble_eq_true rfl, Nat.le_of_ble_eq_true rfl⟩ ⟨Nat.le_refl _, Nat.le_refl _⟩ dX11_positions_33 ?_
        refine at_iload_n 1 dX11_positions_36 rfl ?_
        by_cases c6 : v1 = 0
        · rw [if_pos c6] at h
          refine at_tbC c6 64 dX11_positions_37 (by decide) (by decide) rfl (by decide) ?_
          refine at_aload_n 0 dX11_positions_64 rfl ?_
          refine at_getf cl_X11 (by decide) fl_X11_60 hg_0 rfl dX11_positions_65 ?_
          refine at_iconst 0 dX11_positions_68 ic_0 ?_
          obtain ⟨q7, hq7, h⟩ := sp_bind h
          refine at_callVi (st := []) hK mt_X4_positionsOf ml_X11_246 cl_X4 hg_17 (t_X4_positionsOf hK hq7) rfl rfl (Nat.le_of_ble_eq_true rfl) ⟨Nat.le_of_ble_eq_true rfl, Nat.le_of_ble_eq_true rfl⟩ ⟨Nat.le_refl _, Nat.le_refl _⟩ dX11_positions_69 ?_
          cases h; exact at_iret rfl (Nat.le_refl _) (Nat.le_refl _) ⟨rfl, rfl⟩ dX11_positions_72
        · rw [if_neg c6] at h
          by_cases c8 : v1 = 1
          · rw [if_pos c8] at h
            refine at_tbC c8 73 dX11_positions_37 (by decide) (by decide) rfl (by decide) ?_
            refine at_aload_n 0 dX11_positions_73 rfl ?_
            refine at_getf cl_X11 (by decide) fl_X11_60 hg_0 rfl dX11_positions_74 ?_
            refine at_iconst 1 dX11_positions_77 ic_1 ?_
            obtain ⟨q9, hq9, h⟩ := sp_bind h
            refine at_callVi (st := []) hK mt_X4_positionsOf ml_X11_246 cl_X4 hg_17 (t_X4_positionsOf hK hq9) rfl rfl (Nat.le_of_ble_eq_true rfl) ⟨Nat.le_of_ble_eq_true rfl, Nat.le_of_ble_eq_true rfl⟩ ⟨Nat.le_refl _, Nat.le_refl _⟩ dX11_positions_78 ?_
            cases h; exact at_iret rfl (Nat.le_refl _) (Nat.le_refl _) ⟨rfl, rfl⟩ dX11_positions_81
          · rw [if_neg c8] at h
            by_cases c10 : v1 = 2
            · rw [if_pos c10] at h
              refine at_tbC c10 82 dX11_positions_37 (by decide) (by decide) rfl (by decide) ?_
              refine at_aload_n 0 dX11_positions_82 rfl ?_
              refine at_getf cl_X11 (by decide) fl_X11_60 hg_0 rfl dX11_positions_83 ?_
              obtain ⟨q11, hq11, h⟩ := sp_bind h
              refine at_callVi (st := []) hK mt_X4_positionsOfNobody ml_X11_249 cl_X4 hg_17 (t_X4_positionsOfNobody hK hq11) rfl rfl (Nat.le_of_ble_eq_true rfl) ⟨Nat.le_of_ble_eq_true rfl, Nat.le_of_ble_eq_true rfl⟩ ⟨Nat.le_refl _, Nat.le_refl _⟩ dX11_positions_86 ?_
              cases h; exact at_iret rfl (Nat.le_refl _) (Nat.le_refl _) ⟨rfl, rfl⟩ dX11_positions_89
            · rw [if_neg c10] at h
              refine at_tbOut 90 dX11_positions_37 (by have e0 := sp_ne (0) (by decide) c6; have e1 := sp_ne (1) (by decide) c8; have e2 := sp_ne (2) (by decide) c10; omega) (by decide) ?_
              refine at_aload_n 0 dX11_positions_90 rfl ?_
              refine at_getf cl_X11 (by decide) fl_X11_60 hg_0 rfl dX11_positions_91 ?_
              obtain ⟨q12, hq12, h⟩ := sp_bind h
              refine at_callVi (st := []) hK mt_X4_allPositions ml_X11_252 cl_X4 hg_17 (t_X4_allPositions hK hq12) rfl rfl (Nat.le_of_ble_eq_true rfl) ⟨Nat.le_of_ble_eq_true rfl, Nat.le_of_ble_eq_true rfl⟩ ⟨Nat.le_refl _, Nat.le_refl _⟩ dX11_positions_94 ?_
              cases h; exact at_iret rfl (Nat.le_refl _) (Nat.le_refl _) ⟨rfl, rfl⟩ dX11_positions_97
      · rw [if_neg c4] at h
        refine at_bipush (-2) dX11_positions_18 bp_m2 ?_
        cases h; exact at_iret rfl (Nat.le_refl _) (Nat.le_refl _) ⟨rfl, rfl⟩ dX11_positions_20
    · rw [if_neg c2] at h
      refine at_iconst (-1) dX11_positions_9 ic_m1 ?_
      cases h; exact at_iret rfl (Nat.le_refl _) (Nat.le_refl _) ⟨rfl, rfl⟩ dX11_positions_10
set_option maxRecDepth 100000 in
theorem t_X4_all {D : va_G} {b : Nat} {K : State → Heap → Prop} {sa : Nat → Nat} (hK : sx_Kk b K sa) {uG uN uD uR uF uP uL uT uA uM uH xA xB xC xD xE xF xG xH xI xJ xK xL uO : sx_C} {G : sx_H} {res : Int32} (h : f_X4_all uL  = some res) : sx_Runs D b K yX4_all YX4_all (sx_rm 0) [.ref (b + 17)] (sx_hp b uG uN uD uR uF uP uL uT uA uM uH xA xB xC xD xE xF xG xH xI xJ xK xL uO G) (sx_Ex (some (.int res)) (sx_hp b uG uN uD uR uF uP uL uT uA uM uH xA xB xC xD xE xF xG xH xI xJ xK xL uO G)) := by
  rw [f_X4_all] at h
  refine sx_run (by decide +kernel) rfl rfl (Nat.le_of_ble_eq_true rfl) ?_
  refine at_iconst 1 dX4_all_0 ic_1 ?_
  refine at_aload_n 0 dX4_all_1 rfl ?_
  refine at_getf cl_X4 (by decide) fl_X4_35 hg_17 rfl dX4_all_2 ?_
  refine at_ishl dX4_all_5 ?_
  refine at_iconst 1 dX4_all_6 ic_1 ?_
  refine at_isub dX4_all_7 ?_
  cases h; exact at_iret rfl (Nat.le_refl _) (Nat.le_refl _) ⟨rfl, rfl⟩ dX4_all_8
set_option maxRecDepth 100000 in
theorem t_X4_isLucky {D : va_G} {b : Nat} {K : State → Heap → Prop} {sa : Nat → Nat} (hK : sx_Kk b K sa) {uG uN uD uR uF uP uL uT uA uM uH xA xB xC xD xE xF xG xH xI xJ xK xL uO : sx_C} {G : sx_H} {v1 : Int32} {res : Bool} (h : f_X4_isLucky uL v1 = some res) : sx_Runs D b K yX4_isLucky YX4_isLucky (sx_rm 1) [.ref (b + 17), .int v1] (sx_hp b uG uN uD uR uF uP uL uT uA uM uH xA xB xC xD xE xF xG xH xI xJ xK xL uO G) (sx_Ex (some (.int (sp_b res))) (sx_hp b uG uN uD uR uF uP uL uT uA uM uH xA xB xC xD xE xF xG xH xI xJ xK xL uO G)) := by
  rw [f_X4_isLucky] at h
  refine sx_run (by decide +kernel) rfl rfl (Nat.le_of_ble_eq_true rfl) ?_
  refine at_iload_n 1 dX4_isLucky_0 rfl ?_
  refine at_iconst 5 dX4_isLucky_1 ic_5 ?_
  refine at_iushr dX4_isLucky_2 ?_
  refine at_istore_n [(0, .ref (b + 17)), (1, .int v1), (2, .int (sp_ushr v1 5))] dX4_isLucky_3 (Nat.le_of_ble_eq_true rfl) rfl ?_
  refine at_iload_n 2 dX4_isLucky_4 rfl ?_
  refine at_sipush 512 dX4_isLucky_5 sh_512 ?_
  refine at_icmp_ge 31 dX4_isLucky_8 (by decide) (fun c1 => ?_) (fun c1 => ?_)
  · rw [if_pos c1] at h
    refine at_iconst 0 dX4_isLucky_31 ic_0 ?_
    cases h; exact at_zret rfl rfl (Nat.le_refl _) (Nat.le_refl _) ⟨rfl, rfl⟩ dX4_isLucky_32
  · rw [if_neg c1] at h
    refine at_aload_n 0 dX4_isLucky_11 rfl ?_
    refine at_getf cl_X4 (by decide) fl_X4_11 hg_17 rfl dX4_isLucky_12 ?_
    refine at_iload_n 2 dX4_isLucky_15 rfl ?_
    obtain ⟨w2, hw2, h⟩ := sp_bind h
    refine at_iald hg_18 hw2 dX4_isLucky_16 ?_
    refine at_iload_n 1 dX4_isLucky_17 rfl ?_
    refine at_bipush 31 dX4_isLucky_18 bp_31 ?_
    refine at_iand dX4_isLucky_20 ?_
    obtain ⟨q3, hq3, h⟩ := sp_bind h
    refine at_callSi (st := []) hK mt_X11_has ml_X4_68 (t_X11_has hK hq3) rfl rfl (Nat.le_of_ble_eq_true rfl) ⟨Nat.le_of_ble_eq_true rfl, Nat.le_of_ble_eq_true rfl⟩ ⟨Nat.le_refl _, Nat.le_refl _⟩ dX4_isLucky_21 ?_
    refine at_zeq 31 dX4_isLucky_24 (by decide) (fun c4 => ?_) (fun c4 => ?_)
    · rw [if_neg c4] at h
      refine at_iconst 0 dX4_isLucky_31 ic_0 ?_
      cases h; exact at_zret rfl rfl (Nat.le_refl _) (Nat.le_refl _) ⟨rfl, rfl⟩ dX4_isLucky_32
    · rw [if_pos c4] at h
      refine at_iconst 1 dX4_isLucky_27 ic_1 ?_
      refine at_goto 32 dX4_isLucky_28 (by decide) ?_
      cases h; exact at_zret rfl rfl (Nat.le_refl _) (Nat.le_refl _) ⟨rfl, rfl⟩ dX4_isLucky_32
set_option maxRecDepth 100000 in
theorem t_X4_givesIt {D : va_G} {b : Nat} {K : State → Heap → Prop} {sa : Nat → Nat} (hK : sx_Kk b K sa) {uG uN uD uR uF uP uL uT uA uM uH xA xB xC xD xE xF xG xH xI xJ xK xL uO : sx_C} {G : sx_H} {v1 : Int32} {v2 : Int32} {res : Bool} (h : f_X4_givesIt uL v1 v2 = some res) : sx_Runs D b K yX4_givesIt YX4_givesIt (sx_rm 2) [.ref (b + 17), .int v1, .int v2] (sx_hp b uG uN uD uR uF uP uL uT uA uM uH xA xB xC xD xE xF xG xH xI xJ xK xL uO G) (sx_Ex (some (.int (sp_b res))) (sx_hp b uG uN uD uR uF uP uL uT uA uM uH xA xB xC xD xE xF xG xH xI xJ xK xL uO G)) := by
  rw [f_X4_givesIt] at h
  refine sx_run (by decide +kernel) rfl rfl (Nat.le_of_ble_eq_true rfl) ?_
  refine at_iload_n 1 dX4_givesIt_0 rfl ?_
  refine at_if_ne 12 dX4_givesIt_1 (by decide) (fun c1 => ?_) (fun c1 => ?_)
  · rw [if_neg c1] at h
    refine at_aload_n 0 dX4_givesIt_12 rfl ?_
    refine at_aload_n 0 dX4_givesIt_13 rfl ?_
    obtain ⟨q2, hq2, h⟩ := sp_bind h
    refine at_callVi (st := [.ref (b + 17)]) hK mt_X4_all ml_X4_103 cl_X4 hg_17 (t_X4_all hK hq2) rfl rfl (Nat.le_of_ble_eq_true rfl) ⟨Nat.le_of_ble_eq_true rfl, Nat.le_of_ble_eq_true rfl⟩ ⟨Nat.le_refl _, Nat.le_refl _⟩ dX4_givesIt_14 ?_
    refine at_iload_n 2 dX4_givesIt_17 rfl ?_
    refine at_iconst (-1) dX4_givesIt_18 ic_m1 ?_
    refine at_ixor dX4_givesIt_19 ?_
    refine at_iand dX4_givesIt_20 ?_
    obtain ⟨q3, hq3, h⟩ := sp_bind h
    refine at_callVi (st := []) hK mt_X4_isLucky ml_X4_100 cl_X4 hg_17 (t_X4_isLucky hK hq3) rfl rfl (Nat.le_of_ble_eq_true rfl) ⟨Nat.le_of_ble_eq_true rfl, Nat.le_of_ble_eq_true rfl⟩ ⟨Nat.le_refl _, Nat.le_refl _⟩ dX4_givesIt_21 ?_
    refine at_zne 31 dX4_givesIt_24 (by decide) (fun c4 => ?_) (fun c4 => ?_)
    · rw [if_pos c4] at h
      refine at_iconst 0 dX4_givesIt_31 ic_0 ?_
      cases h; exact at_zret rfl rfl (Nat.le_refl _) (Nat.le_refl _) ⟨rfl, rfl⟩ dX4_givesIt_32
    · rw [if_neg c4] at h
      refine at_iconst 1 dX4_givesIt_27 ic_1 ?_
      refine at_goto 32 dX4_givesIt_28 (by decide) ?_
      cases h; exact at_zret rfl rfl (Nat.le_refl _) (Nat.le_refl _) ⟨rfl, rfl⟩ dX4_givesIt_32
  · rw [if_pos c1] at h
    refine at_aload_n 0 dX4_givesIt_4 rfl ?_
    refine at_iload_n 2 dX4_givesIt_5 rfl ?_
    obtain ⟨q5, hq5, h⟩ := sp_bind h
    refine at_callVi (st := []) hK mt_X4_isLucky ml_X4_100 cl_X4 hg_17 (t_X4_isLucky hK hq5) rfl rfl (Nat.le_of_ble_eq_true rfl) ⟨Nat.le_of_ble_eq_true rfl, Nat.le_of_ble_eq_true rfl⟩ ⟨Nat.le_refl _, Nat.le_refl _⟩ dX4_givesIt_6 ?_
    refine at_goto 32 dX4_givesIt_9 (by decide) ?_
    cases h; exact at_zret rfl (sp_bz _) (Nat.le_refl _) (Nat.le_refl _) ⟨rfl, rfl⟩ dX4_givesIt_32
set_option maxRecDepth 100000 in
theorem t_X4_linesOf_37 {D : va_G} {b : Nat} {K : State → Heap → Prop} {sa : Nat → Nat} (hK : sx_Kk b K sa) (N : Nat) {k4 : Int32 → Int32 → Int32 → Option (Int32)} {uG uN uD uR uF uP uL uT uA uM uH xA xB xC xD xE xF xG xH xI xJ xK xL uO : sx_C} {G : sx_H} (res : Int32) (hk4 : ∀ (v1 : Int32) (v2 : Int32) (v3 : Int32), k4 v1 v2 v3 = some res → sx_At D b K YX4_linesOf (sx_rm 1) (sx_Ex (some (.int res)) (sx_hp b uG uN uD uR uF uP uL uT uA uM uH xA xB xC xD xE xF xG xH xI xJ xK xL uO G)) 4 [(0, .ref (b + 17)), (1, .int v1), (2, .int v2), (3, .int v3)] [] (sx_hp b uG uN uD uR uF uP uL uT uA uM uH xA xB xC xD xE xF xG xH xI xJ xK xL uO G) 0 0) : ∀ (v1 : Int32) (v2 : Int32) (v3 : Int32), f_X4_linesOf_37 N k4 uL v1 v2 v3 = some res → sx_At D b K YX4_linesOf (sx_rm 1) (sx_Ex (some (.int res)) (sx_hp b uG uN uD uR uF uP uL uT uA uM uH xA xB xC xD xE xF xG xH xI xJ xK xL uO G)) 37 [(0, .ref (b + 17)), (1, .int v1), (2, .int v2), (3, .int v3)] [] (sx_hp b uG uN uD uR uF uP uL uT uA uM uH xA xB xC xD xE xF xG xH xI xJ xK xL uO G) 0 0 := by
  intro v1 v2 v3 h
  rw [f_X4_linesOf_37] at h
  refine at_iinc 3 1 [(0, .ref (b + 17)), (1, .int v1), (2, .int v2), (3, .int (v3 + 1))] dX4_linesOf_37 rfl ic_1 (Nat.le_of_ble_eq_true rfl) rfl ?_
  refine at_goto 4 dX4_linesOf_40 (by decide) ?_
  exact hk4 _ _ _ h
set_option maxRecDepth 100000 in
theorem t_X4_linesOf_4 {D : va_G} {b : Nat} {K : State → Heap → Prop} {sa : Nat → Nat} (hK : sx_Kk b K sa) (N : Nat) {uG uN uD uR uF uP uL uT uA uM uH xA xB xC xD xE xF xG xH xI xJ xK xL uO : sx_C} {G : sx_H} (res : Int32) : ∀ (n0 : Nat) (v1 : Int32) (v2 : Int32) (v3 : Int32), f_X4_linesOf_4 N uL n0 v1 v2 v3 = some res → sx_At D b K YX4_linesOf (sx_rm 1) (sx_Ex (some (.int res)) (sx_hp b uG uN uD uR uF uP uL uT uA uM uH xA xB xC xD xE xF xG xH xI xJ xK xL uO G)) 4 [(0, .ref (b + 17)), (1, .int v1), (2, .int v2), (3, .int v3)] [] (sx_hp b uG uN uD uR uF uP uL uT uA uM uH xA xB xC xD xE xF xG xH xI xJ xK xL uO G) 0 0 := by
  intro n0
  induction n0 with
  | zero => intro _ _ _ h; cases h
  | succ n0 ih =>
    intro v1 v2 v3 h
    rw [f_X4_linesOf_4] at h
    refine at_iload_n 3 dX4_linesOf_4 rfl ?_
    refine at_aload_n 0 dX4_linesOf_5 rfl ?_
    refine at_getf cl_X4 (by decide) fl_X4_35 hg_17 rfl dX4_linesOf_6 ?_
    refine at_icmp_ge 43 dX4_linesOf_9 (by decide) (fun c1 => ?_) (fun c1 => ?_)
    · rw [if_pos c1] at h
      refine at_iload_n 2 dX4_linesOf_43 rfl ?_
      cases h; exact at_iret rfl (Nat.le_refl _) (Nat.le_refl _) ⟨rfl, rfl⟩ dX4_linesOf_44
    · rw [if_neg c1] at h
      refine at_iload_n 3 dX4_linesOf_12 rfl ?_
      refine at_bipush 14 dX4_linesOf_13 bp_14 ?_
      refine at_icmp_ge 43 dX4_linesOf_15 (by decide) (fun c2 => ?_) (fun c2 => ?_)
      · rw [if_pos c2] at h
        refine at_iload_n 2 dX4_linesOf_43 rfl ?_
        cases h; exact at_iret rfl (Nat.le_refl _) (Nat.le_refl _) ⟨rfl, rfl⟩ dX4_linesOf_44
      · rw [if_neg c2] at h
        refine at_iload_n 1 dX4_linesOf_18 rfl ?_
        refine at_iload_n 3 dX4_linesOf_19 rfl ?_
        obtain ⟨q3, hq3, h⟩ := sp_bind h
        refine at_callSi (st := []) hK mt_X11_has ml_X4_68 (t_X11_has hK hq3) rfl rfl (Nat.le_of_ble_eq_true rfl) ⟨Nat.le_of_ble_eq_true rfl, Nat.le_of_ble_eq_true rfl⟩ ⟨Nat.le_refl _, Nat.le_refl _⟩ dX4_linesOf_20 ?_
        refine at_zeq 37 dX4_linesOf_23 (by decide) (fun c4 => ?_) (fun c4 => ?_)
        · rw [if_neg c4] at h
          exact t_X4_linesOf_37 hK N _ ih _ _ _ h
        · rw [if_pos c4] at h
          refine at_iload_n 2 dX4_linesOf_26 rfl ?_
          refine at_iconst 1 dX4_linesOf_27 ic_1 ?_
          refine at_aload_n 0 dX4_linesOf_28 rfl ?_
          refine at_getf cl_X4 (by decide) fl_X4_18 hg_17 rfl dX4_linesOf_29 ?_
          refine at_iload_n 3 dX4_linesOf_32 rfl ?_
          obtain ⟨w5, hw5, h⟩ := sp_bind h
          refine at_iald hg_20 hw5 dX4_linesOf_33 ?_
          refine at_ishl dX4_linesOf_34 ?_
          refine at_ior dX4_linesOf_35 ?_
          refine at_istore_n [(0, .ref (b + 17)), (1, .int v1), (2, .int (v2 ||| (sp_shl 1 w5))), (3, .int v3)] dX4_linesOf_36 (Nat.le_of_ble_eq_true rfl) rfl ?_
          exact t_X4_linesOf_37 hK N _ ih _ _ _ h
set_option maxRecDepth 100000 in
theorem t_X4_linesOf {D : va_G} {b : Nat} {K : State → Heap → Prop} {sa : Nat → Nat} (hK : sx_Kk b K sa) {N : Nat} {uG uN uD uR uF uP uL uT uA uM uH xA xB xC xD xE xF xG xH xI xJ xK xL uO : sx_C} {G : sx_H} {v1 : Int32} {res : Int32} (h : f_X4_linesOf N uL v1 = some res) : sx_Runs D b K yX4_linesOf YX4_linesOf (sx_rm 1) [.ref (b + 17), .int v1] (sx_hp b uG uN uD uR uF uP uL uT uA uM uH xA xB xC xD xE xF xG xH xI xJ xK xL uO G) (sx_Ex (some (.int res)) (sx_hp b uG uN uD uR uF uP uL uT uA uM uH xA xB xC xD xE xF xG xH xI xJ xK xL uO G)) := by
  rw [f_X4_linesOf] at h
  refine sx_run (by decide +kernel) rfl rfl (Nat.le_of_ble_eq_true rfl) ?_
  refine at_iconst 0 dX4_linesOf_0 ic_0 ?_
  refine at_istore_n [(0, .ref (b + 17)), (1, .int v1), (2, .int 0)] dX4_linesOf_1 (Nat.le_of_ble_eq_true rfl) rfl ?_
  refine at_iconst 0 dX4_linesOf_2 ic_0 ?_
  refine at_istore_n [(0, .ref (b + 17)), (1, .int v1), (2, .int 0), (3, .int 0)] dX4_linesOf_3 (Nat.le_of_ble_eq_true rfl) rfl ?_
  exact t_X4_linesOf_4 hK N _ N _ _ _ h
set_option maxRecDepth 100000 in
theorem t_X4_leastOf_42 {D : va_G} {b : Nat} {K : State → Heap → Prop} {sa : Nat → Nat} (hK : sx_Kk b K sa) (N : Nat) {k10 : Int32 → Int32 → Int32 → Int32 → Option (Int32)} {uG uN uD uR uF uP uL uT uA uM uH xA xB xC xD xE xF xG xH xI xJ xK xL uO : sx_C} {G : sx_H} (res : Int32) (hk10 : ∀ (v1 : Int32) (v2 : Int32) (v3 : Int32) (v4 : Int32), k10 v1 v2 v3 v4 = some res → sx_At D b K YX4_leastOf (sx_rm 3) (sx_Ex (some (.int res)) (sx_hp b uG uN uD uR uF uP uL uT uA uM uH xA xB xC xD xE xF xG xH xI xJ xK xL uO G)) 10 [(0, .ref (b + 17)), (1, .int v1), (2, .int v2), (3, .int v3), (4, .int v4)] [] (sx_hp b uG uN uD uR uF uP uL uT uA uM uH xA xB xC xD xE xF xG xH xI xJ xK xL uO G) 0 0) : ∀ (v1 : Int32) (v2 : Int32) (v3 : Int32) (v4 : Int32), f_X4_leastOf_42 N k10 uL v1 v2 v3 v4 = some res → sx_At D b K YX4_leastOf (sx_rm 3) (sx_Ex (some (.int res)) (sx_hp b uG uN uD uR uF uP uL uT uA uM uH xA xB xC xD xE xF xG xH xI xJ xK xL uO G)) 42 [(0, .ref (b + 17)), (1, .int v1), (2, .int v2), (3, .int v3), (4, .int v4)] [] (sx_hp b uG uN uD uR uF uP uL uT uA uM uH xA xB xC xD xE xF xG xH xI xJ xK xL uO G) 0 0 := by
  intro v1 v2 v3 v4 h
  rw [f_X4_leastOf_42] at h
  refine at_iinc 4 1 [(0, .ref (b + 17)), (1, .int v1), (2, .int v2), (3, .int v3), (4, .int (v4 + 1))] dX4_leastOf_42 rfl ic_1 (Nat.le_of_ble_eq_true rfl) rfl ?_
  refine at_goto 10 dX4_leastOf_45 (by decide) ?_
  exact hk10 _ _ _ _ h
set_option maxRecDepth 100000 in
theorem t_X4_leastOf_10 {D : va_G} {b : Nat} {K : State → Heap → Prop} {sa : Nat → Nat} (hK : sx_Kk b K sa) (N : Nat) {uG uN uD uR uF uP uL uT uA uM uH xA xB xC xD xE xF xG xH xI xJ xK xL uO : sx_C} {G : sx_H} (res : Int32) : ∀ (n0 : Nat) (v1 : Int32) (v2 : Int32) (v3 : Int32) (v4 : Int32), f_X4_leastOf_10 N uL n0 v1 v2 v3 v4 = some res → sx_At D b K YX4_leastOf (sx_rm 3) (sx_Ex (some (.int res)) (sx_hp b uG uN uD uR uF uP uL uT uA uM uH xA xB xC xD xE xF xG xH xI xJ xK xL uO G)) 10 [(0, .ref (b + 17)), (1, .int v1), (2, .int v2), (3, .int v3), (4, .int v4)] [] (sx_hp b uG uN uD uR uF uP uL uT uA uM uH xA xB xC xD xE xF xG xH xI xJ xK xL uO G) 0 0 := by
  intro n0
  induction n0 with
  | zero => intro _ _ _ _ h; cases h
  | succ n0 ih =>
    intro v1 v2 v3 v4 h
    rw [f_X4_leastOf_10] at h
    refine at_iload 4 dX4_leastOf_10 rfl ?_
    refine at_iload_n 3 dX4_leastOf_12 rfl ?_
    refine at_icmp_ge 48 dX4_leastOf_13 (by decide) (fun c1 => ?_) (fun c1 => ?_)
    · rw [if_pos c1] at h
      refine at_iconst 0 dX4_leastOf_48 ic_0 ?_
      cases h; exact at_iret rfl (Nat.le_refl _) (Nat.le_refl _) ⟨rfl, rfl⟩ dX4_leastOf_49
    · rw [if_neg c1] at h
      refine at_iload 4 dX4_leastOf_16 rfl ?_
      obtain ⟨q2, hq2, h⟩ := sp_bind h
      refine at_callSi (st := []) hK mt_J6_bitCount_0f7a4 ml_X4_92 (t_J6_bitCount_0f7a4 hK hq2) rfl rfl (Nat.le_of_ble_eq_true rfl) ⟨Nat.le_of_ble_eq_true rfl, Nat.le_of_ble_eq_true rfl⟩ ⟨Nat.le_refl _, Nat.le_refl _⟩ dX4_leastOf_18 ?_
      refine at_iload_n 2 dX4_leastOf_21 rfl ?_
      refine at_icmp_ne 42 dX4_leastOf_22 (by decide) (fun c3 => ?_) (fun c3 => ?_)
      · rw [if_neg c3] at h
        exact t_X4_leastOf_42 hK N _ ih _ _ _ _ h
      · rw [if_pos c3] at h
        refine at_aload_n 0 dX4_leastOf_25 rfl ?_
        refine at_iload_n 1 dX4_leastOf_26 rfl ?_
        refine at_iload 4 dX4_leastOf_27 rfl ?_
        obtain ⟨q4, hq4, h⟩ := sp_bind h
        refine at_callVi (st := []) hK mt_X4_givesIt ml_X4_121 cl_X4 hg_17 (t_X4_givesIt hK hq4) rfl rfl (Nat.le_of_ble_eq_true rfl) ⟨Nat.le_of_ble_eq_true rfl, Nat.le_of_ble_eq_true rfl⟩ ⟨Nat.le_refl _, Nat.le_refl _⟩ dX4_leastOf_29 ?_
        refine at_zeq 42 dX4_leastOf_32 (by decide) (fun c5 => ?_) (fun c5 => ?_)
        · rw [if_neg c5] at h
          exact t_X4_leastOf_42 hK N _ ih _ _ _ _ h
        · rw [if_pos c5] at h
          refine at_aload_n 0 dX4_leastOf_35 rfl ?_
          refine at_iload 4 dX4_leastOf_36 rfl ?_
          obtain ⟨q6, hq6, h⟩ := sp_bind h
          refine at_callVi (st := []) hK mt_X4_linesOf ml_X4_124 cl_X4 hg_17 (t_X4_linesOf hK hq6) rfl rfl (Nat.le_of_ble_eq_true rfl) ⟨Nat.le_of_ble_eq_true rfl, Nat.le_of_ble_eq_true rfl⟩ ⟨Nat.le_refl _, Nat.le_refl _⟩ dX4_leastOf_38 ?_
          cases h; exact at_iret rfl (Nat.le_refl _) (Nat.le_refl _) ⟨rfl, rfl⟩ dX4_leastOf_41
set_option maxRecDepth 100000 in
theorem t_X4_leastOf {D : va_G} {b : Nat} {K : State → Heap → Prop} {sa : Nat → Nat} (hK : sx_Kk b K sa) {N : Nat} {uG uN uD uR uF uP uL uT uA uM uH xA xB xC xD xE xF xG xH xI xJ xK xL uO : sx_C} {G : sx_H} {v1 : Int32} {v2 : Int32} {res : Int32} (h : f_X4_leastOf N uL v1 v2 = some res) : sx_Runs D b K yX4_leastOf YX4_leastOf (sx_rm 3) [.ref (b + 17), .int v1, .int v2] (sx_hp b uG uN uD uR uF uP uL uT uA uM uH xA xB xC xD xE xF xG xH xI xJ xK xL uO G) (sx_Ex (some (.int res)) (sx_hp b uG uN uD uR uF uP uL uT uA uM uH xA xB xC xD xE xF xG xH xI xJ xK xL uO G)) := by
  rw [f_X4_leastOf] at h
  refine sx_run (by decide +kernel) rfl rfl (Nat.le_of_ble_eq_true rfl) ?_
  refine at_iconst 1 dX4_leastOf_0 ic_1 ?_
  refine at_aload_n 0 dX4_leastOf_1 rfl ?_
  refine at_getf cl_X4 (by decide) fl_X4_35 hg_17 rfl dX4_leastOf_2 ?_
  refine at_ishl dX4_leastOf_5 ?_
  refine at_istore_n [(0, .ref (b + 17)), (1, .int v1), (2, .int v2), (3, .int (sp_shl 1 (gi uL 8)))] dX4_leastOf_6 (Nat.le_of_ble_eq_true rfl) rfl ?_
  refine at_iconst 0 dX4_leastOf_7 ic_0 ?_
  refine at_istore [(0, .ref (b + 17)), (1, .int v1), (2, .int v2), (3, .int (sp_shl 1 (gi uL 8))), (4, .int 0)] dX4_leastOf_8 (Nat.le_of_ble_eq_true rfl) rfl ?_
  exact t_X4_leastOf_10 hK N _ N _ _ _ _ h
set_option maxRecDepth 100000 in
theorem t_X4_least_2 {D : va_G} {b : Nat} {K : State → Heap → Prop} {sa : Nat → Nat} (hK : sx_Kk b K sa) (N : Nat) {uG uN uD uR uF uP uL uT uA uM uH xA xB xC xD xE xF xG xH xI xJ xK xL uO : sx_C} {G : sx_H} (res : Int32) : ∀ (n0 : Nat) (v1 : Int32) (v2 : Int32), f_X4_least_2 N uL n0 v1 v2 = some res → sx_At D b K YX4_least (sx_rm 4) (sx_Ex (some (.int res)) (sx_hp b uG uN uD uR uF uP uL uT uA uM uH xA xB xC xD xE xF xG xH xI xJ xK xL uO G)) 2 [(0, .ref (b + 17)), (1, .int v1), (2, .int v2)] [] (sx_hp b uG uN uD uR uF uP uL uT uA uM uH xA xB xC xD xE xF xG xH xI xJ xK xL uO G) 0 0 := by
  intro n0
  induction n0 with
  | zero => intro _ _ h; cases h
  | succ n0 ih =>
    intro v1 v2 h
    rw [f_X4_least_2] at h
    refine at_iload_n 2 dX4_least_2 rfl ?_
    refine at_aload_n 0 dX4_least_3 rfl ?_
    refine at_getf cl_X4 (by decide) fl_X4_35 hg_17 rfl dX4_least_4 ?_
    refine at_icmp_gt 32 dX4_least_7 (by decide) (fun c1 => ?_) (fun c1 => ?_)
    · rw [if_pos c1] at h
      refine at_iconst 0 dX4_least_32 ic_0 ?_
      cases h; exact at_iret rfl (Nat.le_refl _) (Nat.le_refl _) ⟨rfl, rfl⟩ dX4_least_33
    · rw [if_neg c1] at h
      refine at_aload_n 0 dX4_least_10 rfl ?_
      refine at_iload_n 1 dX4_least_11 rfl ?_
      refine at_iload_n 2 dX4_least_12 rfl ?_
      obtain ⟨q2, hq2, h⟩ := sp_bind h
      refine at_callVi (st := []) hK mt_X4_sized ml_X4_109 cl_X4 hg_17 (t_X4_sized hK hq2) rfl rfl (Nat.le_of_ble_eq_true rfl) ⟨Nat.le_of_ble_eq_true rfl, Nat.le_of_ble_eq_true rfl⟩ ⟨Nat.le_refl _, Nat.le_refl _⟩ dX4_least_13 ?_
      refine at_if_le 26 dX4_least_16 (by decide) (fun c3 => ?_) (fun c3 => ?_)
      · rw [if_pos c3] at h
        refine at_iinc 2 1 [(0, .ref (b + 17)), (1, .int v1), (2, .int (v2 + 1))] dX4_least_26 rfl ic_1 (Nat.le_of_ble_eq_true rfl) rfl ?_
        refine at_goto 2 dX4_least_29 (by decide) ?_
        exact ih _ _ h
      · rw [if_neg c3] at h
        refine at_aload_n 0 dX4_least_19 rfl ?_
        refine at_iload_n 1 dX4_least_20 rfl ?_
        refine at_iload_n 2 dX4_least_21 rfl ?_
        obtain ⟨q4, hq4, h⟩ := sp_bind h
        refine at_callVi (st := []) hK mt_X4_leastOf ml_X4_118 cl_X4 hg_17 (t_X4_leastOf hK hq4) rfl rfl (Nat.le_of_ble_eq_true rfl) ⟨Nat.le_of_ble_eq_true rfl, Nat.le_of_ble_eq_true rfl⟩ ⟨Nat.le_refl _, Nat.le_refl _⟩ dX4_least_22 ?_
        cases h; exact at_iret rfl (Nat.le_refl _) (Nat.le_refl _) ⟨rfl, rfl⟩ dX4_least_25
set_option maxRecDepth 100000 in
theorem t_X4_least {D : va_G} {b : Nat} {K : State → Heap → Prop} {sa : Nat → Nat} (hK : sx_Kk b K sa) {N : Nat} {uG uN uD uR uF uP uL uT uA uM uH xA xB xC xD xE xF xG xH xI xJ xK xL uO : sx_C} {G : sx_H} {v1 : Int32} {res : Int32} (h : f_X4_least N uL v1 = some res) : sx_Runs D b K yX4_least YX4_least (sx_rm 4) [.ref (b + 17), .int v1] (sx_hp b uG uN uD uR uF uP uL uT uA uM uH xA xB xC xD xE xF xG xH xI xJ xK xL uO G) (sx_Ex (some (.int res)) (sx_hp b uG uN uD uR uF uP uL uT uA uM uH xA xB xC xD xE xF xG xH xI xJ xK xL uO G)) := by
  rw [f_X4_least] at h
  refine sx_run (by decide +kernel) rfl rfl (Nat.le_of_ble_eq_true rfl) ?_
  refine at_iconst 0 dX4_least_0 ic_0 ?_
  refine at_istore_n [(0, .ref (b + 17)), (1, .int v1), (2, .int 0)] dX4_least_1 (Nat.le_of_ble_eq_true rfl) rfl ?_
  exact t_X4_least_2 hK N _ N _ _ h
set_option maxRecDepth 100000 in
theorem t_X11_wall {D : va_G} {b : Nat} {K : State → Heap → Prop} {sa : Nat → Nat} (hK : sx_Kk b K sa) {N : Nat} {uG uN uD uR uF uP uT uA uM uH xA xB xC xD xE xF xG xH xI xJ xK xL uO : sx_C} {G : sx_H} {v1 : Int32} {uL : sx_C} {res : Int32 × sx_C} (h : f_X11_wall N uG uN v1 uL = some res) : sx_Runs D b K yX11_wall YX11_wall (sx_rm 45) [.ref (b + 0), .int v1] (sx_hp b uG uN uD uR uF uP uL uT uA uM uH xA xB xC xD xE xF xG xH xI xJ xK xL uO G) (sx_Ex (some (.int res.1)) (sx_hp b uG uN uD uR uF uP (res.2) uT uA uM uH xA xB xC xD xE xF xG xH xI xJ xK xL uO G)) := by
  rw [f_X11_wall] at h
  refine sx_run (by decide +kernel) rfl rfl (Nat.le_of_ble_eq_true rfl) ?_
  refine at_iload_n 1 dX11_wall_0 rfl ?_
  refine at_if_lt 9 dX11_wall_1 (by decide) (fun c1 => ?_) (fun c1 => ?_)
  · rw [if_pos c1] at h
    refine at_iconst (-1) dX11_wall_9 ic_m1 ?_
    cases h; exact at_iret rfl (Nat.le_refl _) (Nat.le_refl _) ⟨rfl, rfl⟩ dX11_wall_10
  · rw [if_neg c1] at h
    refine at_iload_n 1 dX11_wall_4 rfl ?_
    refine at_iconst 1 dX11_wall_5 ic_1 ?_
    refine at_icmp_le 11 dX11_wall_6 (by decide) (fun c2 => ?_) (fun c2 => ?_)
    · rw [if_pos c2] at h
      refine at_aload_n 0 dX11_wall_11 rfl ?_
      refine at_getf cl_X11 (by decide) fl_X11_16 hg_0 rfl dX11_wall_12 ?_
      refine at_aload_n 0 dX11_wall_15 rfl ?_
      refine at_getf cl_X11 (by decide) fl_X11_91 hg_0 rfl dX11_wall_16 ?_
      refine at_aload_n 0 dX11_wall_19 rfl ?_
      refine at_getf cl_X11 (by decide) fl_X11_94 hg_0 rfl dX11_wall_20 ?_
      obtain ⟨q3, hq3, h⟩ := sp_bind h
      refine at_callVi (st := []) hK mt_X6_holder ml_X11_181 cl_X6 hg_2 (t_X6_holder hK hq3) rfl rfl (Nat.le_of_ble_eq_true rfl) ⟨Nat.le_of_ble_eq_true rfl, Nat.le_of_ble_eq_true rfl⟩ ⟨Nat.le_refl _, Nat.le_refl _⟩ dX11_wall_23 ?_
      refine at_if_ne 32 dX11_wall_26 (by decide) (fun c4 => ?_) (fun c4 => ?_)
      · rw [if_neg c4] at h
        refine at_aload_n 0 dX11_wall_32 rfl ?_
        refine at_getf cl_X11 (by decide) fl_X11_60 hg_0 rfl dX11_wall_33 ?_
        refine at_aload_n 0 dX11_wall_36 rfl ?_
        refine at_getf cl_X11 (by decide) fl_X11_91 hg_0 rfl dX11_wall_37 ?_
        refine at_aload_n 0 dX11_wall_40 rfl ?_
        refine at_getf cl_X11 (by decide) fl_X11_94 hg_0 rfl dX11_wall_41 ?_
        obtain ⟨q5, hq5, h⟩ := sp_bind h
        refine at_callVv (st := []) hK mt_X4_lookAt ml_X11_242 cl_X4 hg_17 (t_X4_lookAt hK hq5) rfl rfl (Nat.le_of_ble_eq_true rfl) ⟨Nat.le_of_ble_eq_true rfl, Nat.le_of_ble_eq_true rfl⟩ ⟨Nat.le_refl _, Nat.le_refl _⟩ dX11_wall_44 ?_
        refine at_aload_n 0 dX11_wall_47 rfl ?_
        refine at_getf cl_X11 (by decide) fl_X11_60 hg_0 rfl dX11_wall_48 ?_
        refine at_iconst 1 dX11_wall_51 ic_1 ?_
        obtain ⟨q6, hq6, h⟩ := sp_bind h
        refine at_callVi (st := []) hK mt_X4_least ml_X11_255 cl_X4 hg_17 (t_X4_least hK hq6) rfl rfl (Nat.le_of_ble_eq_true rfl) ⟨Nat.le_of_ble_eq_true rfl, Nat.le_of_ble_eq_true rfl⟩ ⟨Nat.le_refl _, Nat.le_refl _⟩ dX11_wall_52 ?_
        refine at_istore_n [(0, .ref (b + 0)), (1, .int v1), (2, .int q6)] dX11_wall_55 (Nat.le_of_ble_eq_true rfl) rfl ?_
        refine at_iload_n 1 dX11_wall_56 rfl ?_
        refine at_if_ne 67 dX11_wall_57 (by decide) (fun c7 => ?_) (fun c7 => ?_)
        · rw [if_neg c7] at h
          refine at_iload_n 2 dX11_wall_67 rfl ?_
          cases h; exact at_iret rfl (Nat.le_refl _) (Nat.le_refl _) ⟨rfl, rfl⟩ dX11_wall_68
        · rw [if_pos c7] at h
          refine at_iload_n 2 dX11_wall_60 rfl ?_
          obtain ⟨q8, hq8, h⟩ := sp_bind h
          refine at_callSi (st := []) hK mt_J6_bitCount_0f7a4 ml_X11_196 (t_J6_bitCount_0f7a4 hK hq8) rfl rfl (Nat.le_of_ble_eq_true rfl) ⟨Nat.le_of_ble_eq_true rfl, Nat.le_of_ble_eq_true rfl⟩ ⟨Nat.le_refl _, Nat.le_refl _⟩ dX11_wall_61 ?_
          refine at_goto 68 dX11_wall_64 (by decide) ?_
          cases h; exact at_iret rfl (Nat.le_refl _) (Nat.le_refl _) ⟨rfl, rfl⟩ dX11_wall_68
      · rw [if_pos c4] at h
        refine at_bipush (-2) dX11_wall_29 bp_m2 ?_
        cases h; exact at_iret rfl (Nat.le_refl _) (Nat.le_refl _) ⟨rfl, rfl⟩ dX11_wall_31
    · rw [if_neg c2] at h
      refine at_iconst (-1) dX11_wall_9 ic_m1 ?_
      cases h; exact at_iret rfl (Nat.le_refl _) (Nat.le_refl _) ⟨rfl, rfl⟩ dX11_wall_10
set_option maxRecDepth 100000 in
theorem t_X11_road {D : va_G} {b : Nat} {K : State → Heap → Prop} {sa : Nat → Nat} (hK : sx_Kk b K sa) {N : Nat} {uG uN uD uR uF uP uT uA uM uH xA xB xC xD xE xF xG xH xI xJ xK xL uO : sx_C} {G : sx_H} {v1 : Int32} {uL : sx_C} {res : Int32 × sx_C} (h : f_X11_road N uG uN v1 uL = some res) : sx_Runs D b K yX11_road YX11_road (sx_rm 45) [.ref (b + 0), .int v1] (sx_hp b uG uN uD uR uF uP uL uT uA uM uH xA xB xC xD xE xF xG xH xI xJ xK xL uO G) (sx_Ex (some (.int res.1)) (sx_hp b uG uN uD uR uF uP (res.2) uT uA uM uH xA xB xC xD xE xF xG xH xI xJ xK xL uO G)) := by
  rw [f_X11_road] at h
  refine sx_run (by decide +kernel) rfl rfl (Nat.le_of_ble_eq_true rfl) ?_
  refine at_iload_n 1 dX11_road_0 rfl ?_
  refine at_if_lt 9 dX11_road_1 (by decide) (fun c1 => ?_) (fun c1 => ?_)
  · rw [if_pos c1] at h
    refine at_iconst (-1) dX11_road_9 ic_m1 ?_
    cases h; exact at_iret rfl (Nat.le_refl _) (Nat.le_refl _) ⟨rfl, rfl⟩ dX11_road_10
  · rw [if_neg c1] at h
    refine at_iload_n 1 dX11_road_4 rfl ?_
    refine at_iconst 1 dX11_road_5 ic_1 ?_
    refine at_icmp_le 11 dX11_road_6 (by decide) (fun c2 => ?_) (fun c2 => ?_)
    · rw [if_pos c2] at h
      refine at_aload_n 0 dX11_road_11 rfl ?_
      refine at_getf cl_X11 (by decide) fl_X11_16 hg_0 rfl dX11_road_12 ?_
      refine at_aload_n 0 dX11_road_15 rfl ?_
      refine at_getf cl_X11 (by decide) fl_X11_91 hg_0 rfl dX11_road_16 ?_
      refine at_aload_n 0 dX11_road_19 rfl ?_
      refine at_getf cl_X11 (by decide) fl_X11_94 hg_0 rfl dX11_road_20 ?_
      obtain ⟨q3, hq3, h⟩ := sp_bind h
      refine at_callVi (st := []) hK mt_X6_holder ml_X11_181 cl_X6 hg_2 (t_X6_holder hK hq3) rfl rfl (Nat.le_of_ble_eq_true rfl) ⟨Nat.le_of_ble_eq_true rfl, Nat.le_of_ble_eq_true rfl⟩ ⟨Nat.le_refl _, Nat.le_refl _⟩ dX11_road_23 ?_
      refine at_iconst 1 dX11_road_26 ic_1 ?_
      refine at_icmp_ne 33 dX11_road_27 (by decide) (fun c4 => ?_) (fun c4 => ?_)
      · rw [if_neg c4] at h
        refine at_aload_n 0 dX11_road_33 rfl ?_
        refine at_getf cl_X11 (by decide) fl_X11_60 hg_0 rfl dX11_road_34 ?_
        refine at_aload_n 0 dX11_road_37 rfl ?_
        refine at_getf cl_X11 (by decide) fl_X11_91 hg_0 rfl dX11_road_38 ?_
        refine at_aload_n 0 dX11_road_41 rfl ?_
        refine at_getf cl_X11 (by decide) fl_X11_94 hg_0 rfl dX11_road_42 ?_
        obtain ⟨q5, hq5, h⟩ := sp_bind h
        refine at_callVv (st := []) hK mt_X4_lookAt ml_X11_242 cl_X4 hg_17 (t_X4_lookAt hK hq5) rfl rfl (Nat.le_of_ble_eq_true rfl) ⟨Nat.le_of_ble_eq_true rfl, Nat.le_of_ble_eq_true rfl⟩ ⟨Nat.le_refl _, Nat.le_refl _⟩ dX11_road_45 ?_
        refine at_aload_n 0 dX11_road_48 rfl ?_
        refine at_getf cl_X11 (by decide) fl_X11_60 hg_0 rfl dX11_road_49 ?_
        refine at_iconst 0 dX11_road_52 ic_0 ?_
        obtain ⟨q6, hq6, h⟩ := sp_bind h
        refine at_callVi (st := []) hK mt_X4_least ml_X11_255 cl_X4 hg_17 (t_X4_least hK hq6) rfl rfl (Nat.le_of_ble_eq_true rfl) ⟨Nat.le_of_ble_eq_true rfl, Nat.le_of_ble_eq_true rfl⟩ ⟨Nat.le_refl _, Nat.le_refl _⟩ dX11_road_53 ?_
        refine at_istore_n [(0, .ref (b + 0)), (1, .int v1), (2, .int q6)] dX11_road_56 (Nat.le_of_ble_eq_true rfl) rfl ?_
        refine at_iload_n 1 dX11_road_57 rfl ?_
        refine at_if_ne 68 dX11_road_58 (by decide) (fun c7 => ?_) (fun c7 => ?_)
        · rw [if_neg c7] at h
          refine at_iload_n 2 dX11_road_68 rfl ?_
          cases h; exact at_iret rfl (Nat.le_refl _) (Nat.le_refl _) ⟨rfl, rfl⟩ dX11_road_69
        · rw [if_pos c7] at h
          refine at_iload_n 2 dX11_road_61 rfl ?_
          obtain ⟨q8, hq8, h⟩ := sp_bind h
          refine at_callSi (st := []) hK mt_J6_bitCount_0f7a4 ml_X11_196 (t_J6_bitCount_0f7a4 hK hq8) rfl rfl (Nat.le_of_ble_eq_true rfl) ⟨Nat.le_of_ble_eq_true rfl, Nat.le_of_ble_eq_true rfl⟩ ⟨Nat.le_refl _, Nat.le_refl _⟩ dX11_road_62 ?_
          refine at_goto 69 dX11_road_65 (by decide) ?_
          cases h; exact at_iret rfl (Nat.le_refl _) (Nat.le_refl _) ⟨rfl, rfl⟩ dX11_road_69
      · rw [if_pos c4] at h
        refine at_bipush (-2) dX11_road_30 bp_m2 ?_
        cases h; exact at_iret rfl (Nat.le_refl _) (Nat.le_refl _) ⟨rfl, rfl⟩ dX11_road_32
    · rw [if_neg c2] at h
      refine at_iconst (-1) dX11_road_9 ic_m1 ?_
      cases h; exact at_iret rfl (Nat.le_refl _) (Nat.le_refl _) ⟨rfl, rfl⟩ dX11_road_10
set_option maxRecDepth 100000 in
theorem t_X4_total_4 {D : va_G} {b : Nat} {K : State → Heap → Prop} {sa : Nat → Nat} (hK : sx_Kk b K sa) (N : Nat) {uG uN uD uR uF uP uL uT uA uM uH xA xB xC xD xE xF xG xH xI xJ xK xL uO : sx_C} {G : sx_H} (res : Int32) : ∀ (n0 : Nat) (v1 : Int32) (v2 : Int32) (v3 : Int32), f_X4_total_4 N uL n0 v1 v2 v3 = some res → sx_At D b K YX4_total (sx_rm 2) (sx_Ex (some (.int res)) (sx_hp b uG uN uD uR uF uP uL uT uA uM uH xA xB xC xD xE xF xG xH xI xJ xK xL uO G)) 4 [(0, .ref (b + 17)), (1, .int v1), (2, .int v2), (3, .int v3)] [] (sx_hp b uG uN uD uR uF uP uL uT uA uM uH xA xB xC xD xE xF xG xH xI xJ xK xL uO G) 0 0 := by
  intro n0
  induction n0 with
  | zero => intro _ _ _ h; cases h
  | succ n0 ih =>
    intro v1 v2 v3 h
    rw [f_X4_total_4] at h
    refine at_iload_n 3 dX4_total_4 rfl ?_
    refine at_aload_n 0 dX4_total_5 rfl ?_
    refine at_getf cl_X4 (by decide) fl_X4_35 hg_17 rfl dX4_total_6 ?_
    refine at_icmp_gt 27 dX4_total_9 (by decide) (fun c1 => ?_) (fun c1 => ?_)
    · rw [if_pos c1] at h
      refine at_iload_n 2 dX4_total_27 rfl ?_
      cases h; exact at_iret rfl (Nat.le_refl _) (Nat.le_refl _) ⟨rfl, rfl⟩ dX4_total_28
    · rw [if_neg c1] at h
      refine at_iload_n 2 dX4_total_12 rfl ?_
      refine at_aload_n 0 dX4_total_13 rfl ?_
      refine at_iload_n 1 dX4_total_14 rfl ?_
      refine at_iload_n 3 dX4_total_15 rfl ?_
      obtain ⟨q2, hq2, h⟩ := sp_bind h
      refine at_callVi (st := [.int v2]) hK mt_X4_sized ml_X4_109 cl_X4 hg_17 (t_X4_sized hK hq2) rfl rfl (Nat.le_of_ble_eq_true rfl) ⟨Nat.le_of_ble_eq_true rfl, Nat.le_of_ble_eq_true rfl⟩ ⟨Nat.le_refl _, Nat.le_refl _⟩ dX4_total_16 ?_
      refine at_iadd dX4_total_19 ?_
      refine at_istore_n [(0, .ref (b + 17)), (1, .int v1), (2, .int (v2 + q2)), (3, .int v3)] dX4_total_20 (Nat.le_of_ble_eq_true rfl) rfl ?_
      refine at_iinc 3 1 [(0, .ref (b + 17)), (1, .int v1), (2, .int (v2 + q2)), (3, .int (v3 + 1))] dX4_total_21 rfl ic_1 (Nat.le_of_ble_eq_true rfl) rfl ?_
      refine at_goto 4 dX4_total_24 (by decide) ?_
      exact ih _ _ _ h
set_option maxRecDepth 100000 in
theorem t_X4_total {D : va_G} {b : Nat} {K : State → Heap → Prop} {sa : Nat → Nat} (hK : sx_Kk b K sa) {N : Nat} {uG uN uD uR uF uP uL uT uA uM uH xA xB xC xD xE xF xG xH xI xJ xK xL uO : sx_C} {G : sx_H} {v1 : Int32} {res : Int32} (h : f_X4_total N uL v1 = some res) : sx_Runs D b K yX4_total YX4_total (sx_rm 2) [.ref (b + 17), .int v1] (sx_hp b uG uN uD uR uF uP uL uT uA uM uH xA xB xC xD xE xF xG xH xI xJ xK xL uO G) (sx_Ex (some (.int res)) (sx_hp b uG uN uD uR uF uP uL uT uA uM uH xA xB xC xD xE xF xG xH xI xJ xK xL uO G)) := by
  rw [f_X4_total] at h
  refine sx_run (by decide +kernel) rfl rfl (Nat.le_of_ble_eq_true rfl) ?_
  refine at_iconst 0 dX4_total_0 ic_0 ?_
  refine at_istore_n [(0, .ref (b + 17)), (1, .int v1), (2, .int 0)] dX4_total_1 (Nat.le_of_ble_eq_true rfl) rfl ?_
  refine at_iconst 0 dX4_total_2 ic_0 ?_
  refine at_istore_n [(0, .ref (b + 17)), (1, .int v1), (2, .int 0), (3, .int 0)] dX4_total_3 (Nat.le_of_ble_eq_true rfl) rfl ?_
  exact t_X4_total_4 hK N _ N _ _ _ h
set_option maxRecDepth 100000 in
theorem t_X11_setsOf {D : va_G} {b : Nat} {K : State → Heap → Prop} {sa : Nat → Nat} (hK : sx_Kk b K sa) {N : Nat} {uG uN uD uR uF uP uT uA uM uH xA xB xC xD xE xF xG xH xI xJ xK xL uO : sx_C} {G : sx_H} {v1 : Int32} {v2 : Int32} {uL : sx_C} {res : Int32 × sx_C} (h : f_X11_setsOf N uG uN v1 v2 uL = some res) : sx_Runs D b K yX11_setsOf YX11_setsOf (sx_rm 45) [.ref (b + 0), .int v1, .int v2] (sx_hp b uG uN uD uR uF uP uL uT uA uM uH xA xB xC xD xE xF xG xH xI xJ xK xL uO G) (sx_Ex (some (.int res.1)) (sx_hp b uG uN uD uR uF uP (res.2) uT uA uM uH xA xB xC xD xE xF xG xH xI xJ xK xL uO G)) := by
  rw [f_X11_setsOf] at h
  refine sx_run (by decide +kernel) rfl rfl (Nat.le_of_ble_eq_true rfl) ?_
  refine at_aload_n 0 dX11_setsOf_0 rfl ?_
  refine at_getf cl_X11 (by decide) fl_X11_60 hg_0 rfl dX11_setsOf_1 ?_
  refine at_aload_n 0 dX11_setsOf_4 rfl ?_
  refine at_getf cl_X11 (by decide) fl_X11_91 hg_0 rfl dX11_setsOf_5 ?_
  refine at_aload_n 0 dX11_setsOf_8 rfl ?_
  refine at_getf cl_X11 (by decide) fl_X11_94 hg_0 rfl dX11_setsOf_9 ?_
  obtain ⟨q1, hq1, h⟩ := sp_bind h
  refine at_callVv (st := []) hK mt_X4_lookAt ml_X11_242 cl_X4 hg_17 (t_X4_lookAt hK hq1) rfl rfl (Nat.le_of_ble_eq_true rfl) ⟨Nat.le_of_ble_eq_true rfl, Nat.le_of_ble_eq_true rfl⟩ ⟨Nat.le_refl _, Nat.le_refl _⟩ dX11_setsOf_12 ?_
  refine at_iload_n 2 dX11_setsOf_15 rfl ?_
  refine at_iconst (-1) dX11_setsOf_16 ic_m1 ?_
  refine at_icmp_lt 31 dX11_setsOf_17 (by decide) (fun c2 => ?_) (fun c2 => ?_)
  · rw [if_pos c2] at h
    refine at_bipush (-2) dX11_setsOf_31 bp_m2 ?_
    cases h; exact at_iret rfl (Nat.le_refl _) (Nat.le_refl _) ⟨rfl, rfl⟩ dX11_setsOf_33
  · rw [if_neg c2] at h
    refine at_iload_n 2 dX11_setsOf_20 rfl ?_
    refine at_aload_n 0 dX11_setsOf_21 rfl ?_
    refine at_getf cl_X11 (by decide) fl_X11_60 hg_0 rfl dX11_setsOf_22 ?_
    refine at_getf cl_X4 (by decide) fl_X11_355 hg_17 rfl dX11_setsOf_25 ?_
    refine at_icmp_le 34 dX11_setsOf_28 (by decide) (fun c3 => ?_) (fun c3 => ?_)
    · rw [if_pos c3] at h
      refine at_iload_n 2 dX11_setsOf_34 rfl ?_
      refine at_iconst (-1) dX11_setsOf_35 ic_m1 ?_
      refine at_icmp_ne 50 dX11_setsOf_36 (by decide) (fun c4 => ?_) (fun c4 => ?_)
      · rw [if_neg c4] at h
        refine at_aload_n 0 dX11_setsOf_50 rfl ?_
        refine at_getf cl_X11 (by decide) fl_X11_60 hg_0 rfl dX11_setsOf_51 ?_
        refine at_iload_n 1 dX11_setsOf_54 rfl ?_
        refine at_iload_n 2 dX11_setsOf_55 rfl ?_
        obtain ⟨q5, hq5, h⟩ := sp_bind h
        refine at_callVi (st := []) hK mt_X4_sized ml_X11_358 cl_X4 hg_17 (t_X4_sized hK hq5) rfl rfl (Nat.le_of_ble_eq_true rfl) ⟨Nat.le_of_ble_eq_true rfl, Nat.le_of_ble_eq_true rfl⟩ ⟨Nat.le_refl _, Nat.le_refl _⟩ dX11_setsOf_56 ?_
        cases h; exact at_iret rfl (Nat.le_refl _) (Nat.le_refl _) ⟨rfl, rfl⟩ dX11_setsOf_59
      · rw [if_pos c4] at h
        refine at_aload_n 0 dX11_setsOf_39 rfl ?_
        refine at_getf cl_X11 (by decide) fl_X11_60 hg_0 rfl dX11_setsOf_40 ?_
        refine at_iload_n 1 dX11_setsOf_43 rfl ?_
        obtain ⟨q6, hq6, h⟩ := sp_bind h
        refine at_callVi (st := []) hK mt_X4_total ml_X11_356 cl_X4 hg_17 (t_X4_total hK hq6) rfl rfl (Nat.le_of_ble_eq_true rfl) ⟨Nat.le_of_ble_eq_true rfl, Nat.le_of_ble_eq_true rfl⟩ ⟨Nat.le_refl _, Nat.le_refl _⟩ dX11_setsOf_44 ?_
        refine at_goto 59 dX11_setsOf_47 (by decide) ?_
        cases h; exact at_iret rfl (Nat.le_refl _) (Nat.le_refl _) ⟨rfl, rfl⟩ dX11_setsOf_59
    · rw [if_neg c3] at h
      refine at_bipush (-2) dX11_setsOf_31 bp_m2 ?_
      cases h; exact at_iret rfl (Nat.le_refl _) (Nat.le_refl _) ⟨rfl, rfl⟩ dX11_setsOf_33
set_option maxRecDepth 100000 in
theorem t_X11_lucky {D : va_G} {b : Nat} {K : State → Heap → Prop} {sa : Nat → Nat} (hK : sx_Kk b K sa) {N : Nat} {uG uN uD uR uF uP uT uA uM uH xA xB xC xD xE xF xG xH xI xJ xK xL uO : sx_C} {G : sx_H} {v1 : Int32} {uL : sx_C} {res : Int32 × sx_C} (h : f_X11_lucky N uG uN v1 uL = some res) : sx_Runs D b K yX11_lucky YX11_lucky (sx_rm 46) [.ref (b + 0), .int v1] (sx_hp b uG uN uD uR uF uP uL uT uA uM uH xA xB xC xD xE xF xG xH xI xJ xK xL uO G) (sx_Ex (some (.int res.1)) (sx_hp b uG uN uD uR uF uP (res.2) uT uA uM uH xA xB xC xD xE xF xG xH xI xJ xK xL uO G)) := by
  rw [f_X11_lucky] at h
  refine sx_run (by decide +kernel) rfl rfl (Nat.le_of_ble_eq_true rfl) ?_
  refine at_aload_n 0 dX11_lucky_0 rfl ?_
  refine at_iconst 0 dX11_lucky_1 ic_0 ?_
  refine at_iload_n 1 dX11_lucky_2 rfl ?_
  obtain ⟨q1, hq1, h⟩ := sp_bind h
  refine at_callVi (st := []) hK mt_X11_setsOf ml_X11_258 cl_X11 hg_0 (t_X11_setsOf hK hq1) rfl rfl (Nat.le_of_ble_eq_true rfl) ⟨Nat.le_of_ble_eq_true rfl, Nat.le_of_ble_eq_true rfl⟩ ⟨Nat.le_refl _, Nat.le_refl _⟩ dX11_lucky_3 ?_
  cases h; exact at_iret rfl (Nat.le_refl _) (Nat.le_refl _) ⟨rfl, rfl⟩ dX11_lucky_6
set_option maxRecDepth 100000 in
theorem t_X4_bitOf_32 {D : va_G} {b : Nat} {K : State → Heap → Prop} {sa : Nat → Nat} (hK : sx_Kk b K sa) (N : Nat) {k4 : Int32 → Int32 → Int32 → Option (Int32)} {uG uN uD uR uF uP uL uT uA uM uH xA xB xC xD xE xF xG xH xI xJ xK xL uO : sx_C} {G : sx_H} (res : Int32) (hk4 : ∀ (v1 : Int32) (v2 : Int32) (v3 : Int32), k4 v1 v2 v3 = some res → sx_At D b K YX4_bitOf (sx_rm 0) (sx_Ex (some (.int res)) (sx_hp b uG uN uD uR uF uP uL uT uA uM uH xA xB xC xD xE xF xG xH xI xJ xK xL uO G)) 4 [(0, .ref (b + 17)), (1, .int v1), (2, .int v2), (3, .int v3)] [] (sx_hp b uG uN uD uR uF uP uL uT uA uM uH xA xB xC xD xE xF xG xH xI xJ xK xL uO G) 0 0) : ∀ (v1 : Int32) (v2 : Int32) (v3 : Int32), f_X4_bitOf_32 N k4 uL v1 v2 v3 = some res → sx_At D b K YX4_bitOf (sx_rm 0) (sx_Ex (some (.int res)) (sx_hp b uG uN uD uR uF uP uL uT uA uM uH xA xB xC xD xE xF xG xH xI xJ xK xL uO G)) 32 [(0, .ref (b + 17)), (1, .int v1), (2, .int v2), (3, .int v3)] [] (sx_hp b uG uN uD uR uF uP uL uT uA uM uH xA xB xC xD xE xF xG xH xI xJ xK xL uO G) 0 0 := by
  intro v1 v2 v3 h
  rw [f_X4_bitOf_32] at h
  refine at_iinc 3 1 [(0, .ref (b + 17)), (1, .int v1), (2, .int v2), (3, .int (v3 + 1))] dX4_bitOf_32 rfl ic_1 (Nat.le_of_ble_eq_true rfl) rfl ?_
  refine at_goto 4 dX4_bitOf_35 (by decide) ?_
  exact hk4 _ _ _ h
set_option maxRecDepth 100000 in
theorem t_X4_bitOf_4 {D : va_G} {b : Nat} {K : State → Heap → Prop} {sa : Nat → Nat} (hK : sx_Kk b K sa) (N : Nat) {uG uN uD uR uF uP uL uT uA uM uH xA xB xC xD xE xF xG xH xI xJ xK xL uO : sx_C} {G : sx_H} (res : Int32) : ∀ (n0 : Nat) (v1 : Int32) (v2 : Int32) (v3 : Int32), f_X4_bitOf_4 N uL n0 v1 v2 v3 = some res → sx_At D b K YX4_bitOf (sx_rm 0) (sx_Ex (some (.int res)) (sx_hp b uG uN uD uR uF uP uL uT uA uM uH xA xB xC xD xE xF xG xH xI xJ xK xL uO G)) 4 [(0, .ref (b + 17)), (1, .int v1), (2, .int v2), (3, .int v3)] [] (sx_hp b uG uN uD uR uF uP uL uT uA uM uH xA xB xC xD xE xF xG xH xI xJ xK xL uO G) 0 0 := by
  intro n0
  induction n0 with
  | zero => intro _ _ _ h; cases h
  | succ n0 ih =>
    intro v1 v2 v3 h
    rw [f_X4_bitOf_4] at h
    refine at_iload_n 3 dX4_bitOf_4 rfl ?_
    refine at_aload_n 0 dX4_bitOf_5 rfl ?_
    refine at_getf cl_X4 (by decide) fl_X4_35 hg_17 rfl dX4_bitOf_6 ?_
    refine at_icmp_ge 38 dX4_bitOf_9 (by decide) (fun c1 => ?_) (fun c1 => ?_)
    · rw [if_pos c1] at h
      refine at_iload_n 2 dX4_bitOf_38 rfl ?_
      cases h; exact at_iret rfl (Nat.le_refl _) (Nat.le_refl _) ⟨rfl, rfl⟩ dX4_bitOf_39
    · rw [if_neg c1] at h
      refine at_iload_n 3 dX4_bitOf_12 rfl ?_
      refine at_bipush 14 dX4_bitOf_13 bp_14 ?_
      refine at_icmp_ge 38 dX4_bitOf_15 (by decide) (fun c2 => ?_) (fun c2 => ?_)
      · rw [if_pos c2] at h
        refine at_iload_n 2 dX4_bitOf_38 rfl ?_
        cases h; exact at_iret rfl (Nat.le_refl _) (Nat.le_refl _) ⟨rfl, rfl⟩ dX4_bitOf_39
      · rw [if_neg c2] at h
        refine at_aload_n 0 dX4_bitOf_18 rfl ?_
        refine at_getf cl_X4 (by decide) fl_X4_18 hg_17 rfl dX4_bitOf_19 ?_
        refine at_iload_n 3 dX4_bitOf_22 rfl ?_
        obtain ⟨w3, hw3, h⟩ := sp_bind h
        refine at_iald hg_20 hw3 dX4_bitOf_23 ?_
        refine at_iload_n 1 dX4_bitOf_24 rfl ?_
        refine at_icmp_ne 32 dX4_bitOf_25 (by decide) (fun c4 => ?_) (fun c4 => ?_)
        · rw [if_neg c4] at h
          exact t_X4_bitOf_32 hK N _ ih _ _ _ h
        · rw [if_pos c4] at h
          refine at_iconst 1 dX4_bitOf_28 ic_1 ?_
          refine at_iload_n 3 dX4_bitOf_29 rfl ?_
          refine at_ishl dX4_bitOf_30 ?_
          refine at_istore_n [(0, .ref (b + 17)), (1, .int v1), (2, .int (sp_shl 1 v3)), (3, .int v3)] dX4_bitOf_31 (Nat.le_of_ble_eq_true rfl) rfl ?_
          exact t_X4_bitOf_32 hK N _ ih _ _ _ h
set_option maxRecDepth 100000 in
theorem t_X4_bitOf {D : va_G} {b : Nat} {K : State → Heap → Prop} {sa : Nat → Nat} (hK : sx_Kk b K sa) {N : Nat} {uG uN uD uR uF uP uL uT uA uM uH xA xB xC xD xE xF xG xH xI xJ xK xL uO : sx_C} {G : sx_H} {v1 : Int32} {res : Int32} (h : f_X4_bitOf N uL v1 = some res) : sx_Runs D b K yX4_bitOf YX4_bitOf (sx_rm 0) [.ref (b + 17), .int v1] (sx_hp b uG uN uD uR uF uP uL uT uA uM uH xA xB xC xD xE xF xG xH xI xJ xK xL uO G) (sx_Ex (some (.int res)) (sx_hp b uG uN uD uR uF uP uL uT uA uM uH xA xB xC xD xE xF xG xH xI xJ xK xL uO G)) := by
  rw [f_X4_bitOf] at h
  refine sx_run (by decide +kernel) rfl rfl (Nat.le_of_ble_eq_true rfl) ?_
  refine at_iconst 0 dX4_bitOf_0 ic_0 ?_
  refine at_istore_n [(0, .ref (b + 17)), (1, .int v1), (2, .int 0)] dX4_bitOf_1 (Nat.le_of_ble_eq_true rfl) rfl ?_
  refine at_iconst 0 dX4_bitOf_2 ic_0 ?_
  refine at_istore_n [(0, .ref (b + 17)), (1, .int v1), (2, .int 0), (3, .int 0)] dX4_bitOf_3 (Nat.le_of_ble_eq_true rfl) rfl ?_
  exact t_X4_bitOf_4 hK N _ N _ _ _ h
set_option maxRecDepth 100000 in
theorem t_X4_withBit {D : va_G} {b : Nat} {K : State → Heap → Prop} {sa : Nat → Nat} (hK : sx_Kk b K sa) {σ : sx_H} {v0 : Int32} {v1 : Int32} {res : Int32} (h : f_X4_withBit v0 v1 = some res) : sx_Runs D b K yX4_withBit YX4_withBit (sx_rm 0) [.int v0, .int v1] σ (sx_Ex (some (.int res)) σ) := by
  rw [f_X4_withBit] at h
  refine sx_run (by decide +kernel) rfl rfl (Nat.le_of_ble_eq_true rfl) ?_
  refine at_iload_n 0 dX4_withBit_0 rfl ?_
  by_cases c1 : v0 = 1
  · rw [if_pos c1] at h
    refine at_lkC c1 52 dX4_withBit_1 (by decide) rfl (by decide) ?_
    refine at_ldc kn_X4_133 dX4_withBit_52 ?_
    cases h; exact at_iret rfl (Nat.le_refl _) (Nat.le_refl _) ⟨rfl, rfl⟩ dX4_withBit_54
  · rw [if_neg c1] at h
    by_cases c2 : v0 = 2
    · rw [if_pos c2] at h
      refine at_lkC c2 55 dX4_withBit_1 (by decide) rfl (by decide) ?_
      refine at_ldc kn_X4_134 dX4_withBit_55 ?_
      cases h; exact at_iret rfl (Nat.le_refl _) (Nat.le_refl _) ⟨rfl, rfl⟩ dX4_withBit_57
    · rw [if_neg c2] at h
      by_cases c3 : v0 = 4
      · rw [if_pos c3] at h
        refine at_lkC c3 58 dX4_withBit_1 (by decide) rfl (by decide) ?_
        refine at_ldc kn_X4_135 dX4_withBit_58 ?_
        cases h; exact at_iret rfl (Nat.le_refl _) (Nat.le_refl _) ⟨rfl, rfl⟩ dX4_withBit_60
      · rw [if_neg c3] at h
        by_cases c4 : v0 = 8
        · rw [if_pos c4] at h
          refine at_lkC c4 61 dX4_withBit_1 (by decide) rfl (by decide) ?_
          refine at_ldc kn_X4_136 dX4_withBit_61 ?_
          cases h; exact at_iret rfl (Nat.le_refl _) (Nat.le_refl _) ⟨rfl, rfl⟩ dX4_withBit_63
        · rw [if_neg c4] at h
          by_cases c5 : v0 = 16
          · rw [if_pos c5] at h
            refine at_lkC c5 64 dX4_withBit_1 (by decide) rfl (by decide) ?_
            refine at_ldc kn_X4_137 dX4_withBit_64 ?_
            cases h; exact at_iret rfl (Nat.le_refl _) (Nat.le_refl _) ⟨rfl, rfl⟩ dX4_withBit_66
          · rw [if_neg c5] at h
            refine at_lookup 67 dX4_withBit_1 (by decide) (show Op.lookupswitch.offset [(1, 51), (2, 54), (4, 57), (8, 60), (16, 63)] 66 _ = 66 by rw [Op.lookupswitch.offset_cons, if_neg (sp_ne2 (1) (by decide) c1), Op.lookupswitch.offset_cons, if_neg (sp_ne2 (2) (by decide) c2), Op.lookupswitch.offset_cons, if_neg (sp_ne2 (4) (by decide) c3), Op.lookupswitch.offset_cons, if_neg (sp_ne2 (8) (by decide) c4), Op.lookupswitch.offset_cons, if_neg (sp_ne2 (16) (by decide) c5), Op.lookupswitch.offset_nil]) (by decide) ?_
            refine at_iload_n 1 dX4_withBit_67 rfl ?_
            refine at_iconst 5 dX4_withBit_68 ic_5 ?_
            refine at_ishl dX4_withBit_69 ?_
            refine at_iload_n 0 dX4_withBit_70 rfl ?_
            refine at_iand dX4_withBit_71 ?_
            refine at_if_eq 79 dX4_withBit_72 (by decide) (fun c6 => ?_) (fun c6 => ?_)
            · rw [if_pos c6] at h
              refine at_iconst 0 dX4_withBit_79 ic_0 ?_
              cases h; exact at_iret rfl (Nat.le_refl _) (Nat.le_refl _) ⟨rfl, rfl⟩ dX4_withBit_80
            · rw [if_neg c6] at h
              refine at_iconst (-1) dX4_withBit_75 ic_m1 ?_
              refine at_goto 80 dX4_withBit_76 (by decide) ?_
              cases h; exact at_iret rfl (Nat.le_refl _) (Nat.le_refl _) ⟨rfl, rfl⟩ dX4_withBit_80
set_option maxRecDepth 100000 in
theorem t_X4_having_17 {D : va_G} {b : Nat} {K : State → Heap → Prop} {sa : Nat → Nat} (hK : sx_Kk b K sa) (N : Nat) {uG uN uD uR uF uP uL uT uA uM uH xA xB xC xD xE xF xG xH xI xJ xK xL uO : sx_C} {G : sx_H} (res : Int32) : ∀ (n0 : Nat) (v2 : Int32) (v3 : Int32) (v4 : Int32) (v5 : Int32), f_X4_having_17 N uL n0 v2 v3 v4 v5 = some res → sx_At D b K YX4_having (sx_rm 2) (sx_Ex (some (.int res)) (sx_hp b uG uN uD uR uF uP uL uT uA uM uH xA xB xC xD xE xF xG xH xI xJ xK xL uO G)) 17 [(0, .ref (b + 17)), (2, .int v2), (3, .int v3), (4, .int v4), (5, .int v5)] [] (sx_hp b uG uN uD uR uF uP uL uT uA uM uH xA xB xC xD xE xF xG xH xI xJ xK xL uO G) 0 0 := by
  intro n0
  induction n0 with
  | zero => intro _ _ _ _ h; cases h
  | succ n0 ih =>
    intro v2 v3 v4 v5 h
    rw [f_X4_having_17] at h
    refine at_iload 4 dX4_having_17 rfl ?_
    refine at_iload 3 dX4_having_19 rfl ?_
    refine at_icmp_ge 50 dX4_having_21 (by decide) (fun c1 => ?_) (fun c1 => ?_)
    · rw [if_pos c1] at h
      refine at_iload_n 2 dX4_having_50 rfl ?_
      cases h; exact at_iret rfl (Nat.le_refl _) (Nat.le_refl _) ⟨rfl, rfl⟩ dX4_having_51
    · rw [if_neg c1] at h
      refine at_iload_n 2 dX4_having_24 rfl ?_
      refine at_aload_n 0 dX4_having_25 rfl ?_
      refine at_getf cl_X4 (by decide) fl_X4_11 hg_17 rfl dX4_having_26 ?_
      refine at_iload 4 dX4_having_29 rfl ?_
      obtain ⟨w2, hw2, h⟩ := sp_bind h
      refine at_iald hg_18 hw2 dX4_having_31 ?_
      refine at_iload_n 1 dX4_having_32 rfl ?_
      refine at_iload 4 dX4_having_33 rfl ?_
      obtain ⟨q3, hq3, h⟩ := sp_bind h
      refine at_callSi (st := [.int w2, .int v3]) hK mt_X4_withBit ml_X4_130 (t_X4_withBit hK hq3) rfl rfl (Nat.le_of_ble_eq_true rfl) ⟨Nat.le_of_ble_eq_true rfl, Nat.le_of_ble_eq_true rfl⟩ ⟨Nat.le_refl _, Nat.le_refl _⟩ dX4_having_35 ?_
      refine at_iand dX4_having_38 ?_
      obtain ⟨q4, hq4, h⟩ := sp_bind h
      refine at_callSi (st := [.int v3]) hK mt_J6_bitCount_0f7a4 ml_X4_92 (t_J6_bitCount_0f7a4 hK hq4) rfl rfl (Nat.le_of_ble_eq_true rfl) ⟨Nat.le_of_ble_eq_true rfl, Nat.le_of_ble_eq_true rfl⟩ ⟨Nat.le_refl _, Nat.le_refl _⟩ dX4_having_39 ?_
      refine at_iadd dX4_having_42 ?_
      refine at_istore_n [(0, .ref (b + 17)), (2, .int v2), (3, .int (v3 + q4)), (4, .int v4), (5, .int v5)] dX4_having_43 (Nat.le_of_ble_eq_true rfl) rfl ?_
      refine at_iinc 4 1 [(0, .ref (b + 17)), (2, .int v2), (3, .int (v3 + q4)), (4, .int v4), (5, .int (v5 + 1))] dX4_having_44 rfl ic_1 (Nat.le_of_ble_eq_true rfl) rfl ?_
      refine at_goto 17 dX4_having_47 (by decide) ?_
      exact ih _ _ _ _ h
set_option maxRecDepth 100000 in
theorem t_X4_having {D : va_G} {b : Nat} {K : State → Heap → Prop} {sa : Nat → Nat} (hK : sx_Kk b K sa) {N : Nat} {uG uN uD uR uF uP uL uT uA uM uH xA xB xC xD xE xF xG xH xI xJ xK xL uO : sx_C} {G : sx_H} {v1 : Int32} {res : Int32} (h : f_X4_having N uL v1 = some res) : sx_Runs D b K yX4_having YX4_having (sx_rm 2) [.ref (b + 17), .int v1] (sx_hp b uG uN uD uR uF uP uL uT uA uM uH xA xB xC xD xE xF xG xH xI xJ xK xL uO G) (sx_Ex (some (.int res)) (sx_hp b uG uN uD uR uF uP uL uT uA uM uH xA xB xC xD xE xF xG xH xI xJ xK xL uO G)) := by
  rw [f_X4_having] at h
  refine sx_run (by decide +kernel) rfl rfl (Nat.le_of_ble_eq_true rfl) ?_
  refine at_aload_n 0 dX4_having_0 rfl ?_
  refine at_iload_n 1 dX4_having_1 rfl ?_
  obtain ⟨q5, hq5, h⟩ := sp_bind h
  refine at_callVi (st := []) hK mt_X4_bitOf ml_X4_127 cl_X4 hg_17 (t_X4_bitOf hK hq5) rfl rfl (Nat.le_of_ble_eq_true rfl) ⟨Nat.le_of_ble_eq_true rfl, Nat.le_of_ble_eq_true rfl⟩ ⟨Nat.le_refl _, Nat.le_refl _⟩ dX4_having_2 ?_
  refine at_istore_n [(0, .ref (b + 17)), (1, .int v1), (2, .int q5)] dX4_having_5 (Nat.le_of_ble_eq_true rfl) rfl ?_
  refine at_iconst 0 dX4_having_6 ic_0 ?_
  refine at_istore_n [(0, .ref (b + 17)), (1, .int v1), (2, .int q5), (3, .int 0)] dX4_having_7 (Nat.le_of_ble_eq_true rfl) rfl ?_
  refine at_aload_n 0 dX4_having_8 rfl ?_
  obtain ⟨q6, hq6, h⟩ := sp_bind h
  refine at_callVi (st := []) hK mt_X4_wordsUsed ml_X4_88 cl_X4 hg_17 (t_X4_wordsUsed hK hq6) rfl rfl (Nat.le_of_ble_eq_true rfl) ⟨Nat.le_of_ble_eq_true rfl, Nat.le_of_ble_eq_true rfl⟩ ⟨Nat.le_refl _, Nat.le_refl _⟩ dX4_having_9 ?_
  refine at_istore [(0, .ref (b + 17)), (1, .int v1), (2, .int q5), (3, .int 0), (4, .int q6)] dX4_having_12 (Nat.le_of_ble_eq_true rfl) rfl ?_
  refine at_iconst 0 dX4_having_14 ic_0 ?_
  refine at_istore [(0, .ref (b + 17)), (1, .int v1), (2, .int q5), (3, .int 0), (4, .int q6), (5, .int 0)] dX4_having_15 (Nat.le_of_ble_eq_true rfl) rfl ?_
  refine at_sub [0, 2, 3, 4, 5] [(0, .ref (b + 17)), (2, .int q5), (3, .int 0), (4, .int q6), (5, .int 0)] rfl ?_
  exact t_X4_having_17 hK N _ N _ _ _ _ h
set_option maxRecDepth 100000 in
theorem t_X11_luckyWith {D : va_G} {b : Nat} {K : State → Heap → Prop} {sa : Nat → Nat} (hK : sx_Kk b K sa) {N : Nat} {uG uN uD uR uF uP uT uA uM uH xA xB xC xD xE xF xG xH xI xJ xK xL uO : sx_C} {G : sx_H} {v1 : Int32} {uL : sx_C} {res : Int32 × sx_C} (h : f_X11_luckyWith N uG uN v1 uL = some res) : sx_Runs D b K yX11_luckyWith YX11_luckyWith (sx_rm 45) [.ref (b + 0), .int v1] (sx_hp b uG uN uD uR uF uP uL uT uA uM uH xA xB xC xD xE xF xG xH xI xJ xK xL uO G) (sx_Ex (some (.int res.1)) (sx_hp b uG uN uD uR uF uP (res.2) uT uA uM uH xA xB xC xD xE xF xG xH xI xJ xK xL uO G)) := by
  rw [f_X11_luckyWith] at h
  refine sx_run (by decide +kernel) rfl rfl (Nat.le_of_ble_eq_true rfl) ?_
  refine at_aload_n 0 dX11_luckyWith_0 rfl ?_
  refine at_getf cl_X11 (by decide) fl_X11_16 hg_0 rfl dX11_luckyWith_1 ?_
  refine at_iload_n 1 dX11_luckyWith_4 rfl ?_
  obtain ⟨q1, hq1, h⟩ := sp_bind h
  refine at_callVi (st := []) hK mt_X6_isLine ml_X11_122 cl_X6 hg_2 (t_X6_isLine hK hq1) rfl rfl (Nat.le_of_ble_eq_true rfl) ⟨Nat.le_of_ble_eq_true rfl, Nat.le_of_ble_eq_true rfl⟩ ⟨Nat.le_refl _, Nat.le_refl _⟩ dX11_luckyWith_5 ?_
  refine at_zne 13 dX11_luckyWith_8 (by decide) (fun c2 => ?_) (fun c2 => ?_)
  · rw [if_pos c2] at h
    refine at_aload_n 0 dX11_luckyWith_13 rfl ?_
    refine at_iload_n 1 dX11_luckyWith_14 rfl ?_
    obtain ⟨q3, hq3, h⟩ := sp_bind h
    refine at_callVi (st := []) hK mt_X11_isOpen ml_X11_171 cl_X11 hg_0 (t_X11_isOpen hK hq3) rfl rfl (Nat.le_of_ble_eq_true rfl) ⟨Nat.le_of_ble_eq_true rfl, Nat.le_of_ble_eq_true rfl⟩ ⟨Nat.le_refl _, Nat.le_refl _⟩ dX11_luckyWith_15 ?_
    refine at_zne 24 dX11_luckyWith_18 (by decide) (fun c4 => ?_) (fun c4 => ?_)
    · rw [if_pos c4] at h
      refine at_aload_n 0 dX11_luckyWith_24 rfl ?_
      refine at_getf cl_X11 (by decide) fl_X11_60 hg_0 rfl dX11_luckyWith_25 ?_
      refine at_aload_n 0 dX11_luckyWith_28 rfl ?_
      refine at_getf cl_X11 (by decide) fl_X11_91 hg_0 rfl dX11_luckyWith_29 ?_
      refine at_aload_n 0 dX11_luckyWith_32 rfl ?_
      refine at_getf cl_X11 (by decide) fl_X11_94 hg_0 rfl dX11_luckyWith_33 ?_
      obtain ⟨q5, hq5, h⟩ := sp_bind h
      refine at_callVv (st := []) hK mt_X4_lookAt ml_X11_242 cl_X4 hg_17 (t_X4_lookAt hK hq5) rfl rfl (Nat.le_of_ble_eq_true rfl) ⟨Nat.le_of_ble_eq_true rfl, Nat.le_of_ble_eq_true rfl⟩ ⟨Nat.le_refl _, Nat.le_refl _⟩ dX11_luckyWith_36 ?_
      refine at_aload_n 0 dX11_luckyWith_39 rfl ?_
      refine at_getf cl_X11 (by decide) fl_X11_60 hg_0 rfl dX11_luckyWith_40 ?_
      refine at_iload_n 1 dX11_luckyWith_43 rfl ?_
      obtain ⟨q6, hq6, h⟩ := sp_bind h
      refine at_callVi (st := []) hK mt_X4_having ml_X11_261 cl_X4 hg_17 (t_X4_having hK hq6) rfl rfl (Nat.le_of_ble_eq_true rfl) ⟨Nat.le_of_ble_eq_true rfl, Nat.le_of_ble_eq_true rfl⟩ ⟨Nat.le_refl _, Nat.le_refl _⟩ dX11_luckyWith_44 ?_
      cases h; exact at_iret rfl (Nat.le_refl _) (Nat.le_refl _) ⟨rfl, rfl⟩ dX11_luckyWith_47
    · rw [if_neg c4] at h
      refine at_bipush (-2) dX11_luckyWith_21 bp_m2 ?_
      cases h; exact at_iret rfl (Nat.le_refl _) (Nat.le_refl _) ⟨rfl, rfl⟩ dX11_luckyWith_23
  · rw [if_neg c2] at h
    refine at_iconst (-1) dX11_luckyWith_11 ic_m1 ?_
    cases h; exact at_iret rfl (Nat.le_refl _) (Nat.le_refl _) ⟨rfl, rfl⟩ dX11_luckyWith_12
set_option maxRecDepth 100000 in
theorem t_X10_clear_60 {D : va_G} {b : Nat} {K : State → Heap → Prop} {sa : Nat → Nat} (hK : sx_Kk b K sa) (N : Nat) {uG uN uD uR uF uP uL uA uM uH xA xB xC xD xE xF xG xH xI xJ xK xL uO : sx_C} {G : sx_H} (res : sx_C) : ∀ (n0 : Nat) (v2 : Int32) (uT : sx_C), f_X10_clear_60 N n0 v2 uT = some res → sx_At D b K YX10_clear (sx_rm 1) (sx_Ex none (sx_hp b uG uN uD uR uF uP uL res uA uM uH xA xB xC xD xE xF xG xH xI xJ xK xL uO G)) 60 [(0, .ref (b + 22)), (2, .int v2)] [] (sx_hp b uG uN uD uR uF uP uL uT uA uM uH xA xB xC xD xE xF xG xH xI xJ xK xL uO G) 0 0 := by
  intro n0
  induction n0 with
  | zero => intro _ _ h; cases h
  | succ n0 ih =>
    intro v2 uT h
    rw [f_X10_clear_60] at h
    refine at_iload_n 1 dX10_clear_60 rfl ?_
    refine at_bipush 7 dX10_clear_61 bp_7 ?_
    refine at_icmp_ge 82 dX10_clear_63 (by decide) (fun c7 => ?_) (fun c7 => ?_)
    · rw [if_pos c7] at h
      cases h; exact at_vret rfl (Nat.le_refl _) (Nat.le_refl _) ⟨rfl, rfl⟩ dX10_clear_82
    · rw [if_neg c7] at h
      refine at_aload_n 0 dX10_clear_66 rfl ?_
      refine at_getf cl_X10 (by decide) fl_X10_13 hg_22 rfl dX10_clear_67 ?_
      refine at_iload_n 1 dX10_clear_70 rfl ?_
      obtain ⟨hi8, h⟩ := sp_chk h
      refine at_row hi8 dX10_clear_71 ?_
      refine at_lconst 0 dX10_clear_72 lc_0 ?_
      refine at_fillJ hK (hg_row (sp_in_lt hi8)) (hw_row (sp_in_lt hi8)) (by decide) ml_X10_75 (Nat.le_of_ble_eq_true rfl) ⟨Nat.le_of_ble_eq_true rfl, Nat.le_of_ble_eq_true rfl⟩ ⟨Nat.le_refl _, Nat.le_refl _⟩ dX10_clear_73 ?_
      refine at_iinc 1 1 [(0, .ref (b + 22)), (2, .int (v2 + 1))] dX10_clear_76 rfl ic_1 (Nat.le_of_ble_eq_true rfl) rfl ?_
      refine at_goto 60 dX10_clear_79 (by decide) ?_
      exact ih _ _ h
set_option maxRecDepth 100000 in
theorem t_X10_clear_52 {D : va_G} {b : Nat} {K : State → Heap → Prop} {sa : Nat → Nat} (hK : sx_Kk b K sa) (N : Nat) {k7 : Int32 → Int32 → sx_C → Option (sx_C)} {uG uN uD uR uF uP uL uA uM uH xA xB xC xD xE xF xG xH xI xJ xK xL uO : sx_C} {G : sx_H} (res : sx_C) (hk7 : ∀ (v1 : Int32) (v2 : Int32) (uT : sx_C), k7 v1 v2 uT = some res → sx_At D b K YX10_clear (sx_rm 1) (sx_Ex none (sx_hp b uG uN uD uR uF uP uL res uA uM uH xA xB xC xD xE xF xG xH xI xJ xK xL uO G)) 7 [(0, .ref (b + 22)), (1, .int v1), (2, .int v2)] [] (sx_hp b uG uN uD uR uF uP uL uT uA uM uH xA xB xC xD xE xF xG xH xI xJ xK xL uO G) 0 0) : ∀ (v1 : Int32) (v2 : Int32) (uT : sx_C), f_X10_clear_52 N k7 v1 v2 uT = some res → sx_At D b K YX10_clear (sx_rm 1) (sx_Ex none (sx_hp b uG uN uD uR uF uP uL res uA uM uH xA xB xC xD xE xF xG xH xI xJ xK xL uO G)) 52 [(0, .ref (b + 22)), (1, .int v1), (2, .int v2)] [] (sx_hp b uG uN uD uR uF uP uL uT uA uM uH xA xB xC xD xE xF xG xH xI xJ xK xL uO G) 0 0 := by
  intro v1 v2 uT h
  rw [f_X10_clear_52] at h
  refine at_iinc 2 1 [(0, .ref (b + 22)), (1, .int v1), (2, .int (v2 + 1))] dX10_clear_52 rfl ic_1 (Nat.le_of_ble_eq_true rfl) rfl ?_
  refine at_goto 7 dX10_clear_55 (by decide) ?_
  exact hk7 _ _ _ h
set_option maxRecDepth 100000 in
theorem t_X10_clear_7 {D : va_G} {b : Nat} {K : State → Heap → Prop} {sa : Nat → Nat} (hK : sx_Kk b K sa) (N : Nat) {uG uN uD uR uF uP uL uA uM uH xA xB xC xD xE xF xG xH xI xJ xK xL uO : sx_C} {G : sx_H} (res : sx_C) : ∀ (n0 : Nat) (v1 : Int32) (v2 : Int32) (uT : sx_C), f_X10_clear_7 N n0 v1 v2 uT = some res → sx_At D b K YX10_clear (sx_rm 1) (sx_Ex none (sx_hp b uG uN uD uR uF uP uL res uA uM uH xA xB xC xD xE xF xG xH xI xJ xK xL uO G)) 7 [(0, .ref (b + 22)), (1, .int v1), (2, .int v2)] [] (sx_hp b uG uN uD uR uF uP uL uT uA uM uH xA xB xC xD xE xF xG xH xI xJ xK xL uO G) 0 0 := by
  intro n0
  induction n0 with
  | zero => intro _ _ _ h; cases h
  | succ n0 ih =>
    intro v1 v2 uT h
    rw [f_X10_clear_7] at h
    refine at_iload_n 2 dX10_clear_7 rfl ?_
    refine at_bipush 8 dX10_clear_8 bp_8 ?_
    refine at_icmp_ge 58 dX10_clear_10 (by decide) (fun c1 => ?_) (fun c1 => ?_)
    · rw [if_pos c1] at h
      refine at_iconst 0 dX10_clear_58 ic_0 ?_
      refine at_istore_n [(0, .ref (b + 22)), (1, .int v1), (2, .int 0)] dX10_clear_59 (Nat.le_of_ble_eq_true rfl) rfl ?_
      refine at_sub [0, 2] [(0, .ref (b + 22)), (2, .int 0)] rfl ?_
      exact t_X10_clear_60 hK N _ N _ _ h
    · rw [if_neg c1] at h
      refine at_aload_n 0 dX10_clear_13 rfl ?_
      refine at_getf cl_X10 (by decide) fl_X10_16 hg_22 rfl dX10_clear_14 ?_
      refine at_iload_n 2 dX10_clear_17 rfl ?_
      refine at_iconst (-1) dX10_clear_18 ic_m1 ?_
      obtain ⟨hi2, h⟩ := sp_chk h
      refine at_iast hg_31 hi2 hs_31 dX10_clear_19 ?_
      refine at_iload_n 2 dX10_clear_20 rfl ?_
      refine at_if_le 52 dX10_clear_21 (by decide) (fun c3 => ?_) (fun c3 => ?_)
      · rw [if_pos c3] at h
        exact t_X10_clear_52 hK N _ ih _ _ _ h
      · rw [if_neg c3] at h
        refine at_iload_n 1 dX10_clear_24 rfl ?_
        refine at_iload_n 2 dX10_clear_25 rfl ?_
        obtain ⟨q4, hq4, h⟩ := sp_bind h
        refine at_callSi (st := []) hK mt_X11_has ml_X10_50 (t_X11_has hK hq4) rfl rfl (Nat.le_of_ble_eq_true rfl) ⟨Nat.le_of_ble_eq_true rfl, Nat.le_of_ble_eq_true rfl⟩ ⟨Nat.le_refl _, Nat.le_refl _⟩ dX10_clear_26 ?_
        refine at_zeq 52 dX10_clear_29 (by decide) (fun c5 => ?_) (fun c5 => ?_)
        · rw [if_neg c5] at h
          exact t_X10_clear_52 hK N _ ih _ _ _ h
        · rw [if_pos c5] at h
          refine at_aload_n 0 dX10_clear_32 rfl ?_
          refine at_getf cl_X10 (by decide) fl_X10_16 hg_22 rfl dX10_clear_33 ?_
          refine at_iload_n 2 dX10_clear_36 rfl ?_
          refine at_aload_n 0 dX10_clear_37 rfl ?_
          refine at_getf cl_X10 (by decide) fl_X10_20 hg_22 rfl dX10_clear_38 ?_
          obtain ⟨hi6, h⟩ := sp_chk h
          refine at_iast hg_31 hi6 hs_31 dX10_clear_41 ?_
          refine at_aload_n 0 dX10_clear_42 rfl ?_
          refine at_dup dX10_clear_43 rfl ?_
          refine at_getf cl_X10 (by decide) fl_X10_20 hg_22 rfl dX10_clear_44 ?_
          refine at_iconst 1 dX10_clear_47 ic_1 ?_
          refine at_iadd dX10_clear_48 ?_
          refine at_putf cl_X10 (by decide) fl_X10_20 rfl hg_22 rfl rfl (Nat.le_of_ble_eq_true rfl) hs_22_3 dX10_clear_49 ?_
          exact t_X10_clear_52 hK N _ ih _ _ _ h
set_option maxRecDepth 100000 in
theorem t_X10_clear {D : va_G} {b : Nat} {K : State → Heap → Prop} {sa : Nat → Nat} (hK : sx_Kk b K sa) {N : Nat} {uG uN uD uR uF uP uL uA uM uH xA xB xC xD xE xF xG xH xI xJ xK xL uO : sx_C} {G : sx_H} {v1 : Int32} {uT : sx_C} {res : sx_C} (h : f_X10_clear N v1 uT = some res) : sx_Runs D b K yX10_clear YX10_clear (sx_rm 1) [.ref (b + 22), .int v1] (sx_hp b uG uN uD uR uF uP uL uT uA uM uH xA xB xC xD xE xF xG xH xI xJ xK xL uO G) (sx_Ex none (sx_hp b uG uN uD uR uF uP uL res uA uM uH xA xB xC xD xE xF xG xH xI xJ xK xL uO G)) := by
  rw [f_X10_clear] at h
  refine sx_run (by decide +kernel) rfl rfl (Nat.le_of_ble_eq_true rfl) ?_
  refine at_aload_n 0 dX10_clear_0 rfl ?_
  refine at_iconst 0 dX10_clear_1 ic_0 ?_
  refine at_putf cl_X10 (by decide) fl_X10_20 rfl hg_22 rfl rfl (Nat.le_of_ble_eq_true rfl) hs_22_3 dX10_clear_2 ?_
  refine at_iconst 0 dX10_clear_5 ic_0 ?_
  refine at_istore_n [(0, .ref (b + 22)), (1, .int v1), (2, .int 0)] dX10_clear_6 (Nat.le_of_ble_eq_true rfl) rfl ?_
  exact t_X10_clear_7 hK N _ N _ _ _ h
set_option maxRecDepth 100000 in
theorem t_X10_determinant_155 {D : va_G} {b : Nat} {K : State → Heap → Prop} {sa : Nat → Nat} (hK : sx_Kk b K sa) (N : Nat) {uG uN uD uR uF uP uL uA uM uH xA xB xC xD xE xF xG xH xI xJ xK xL uO : sx_C} {G : sx_H} (res : Int64 × sx_C) : ∀ (v1 : Int64) (uT : sx_C), f_X10_determinant_155 N v1 uT = some res → sx_At D b K YX10_determinant (sx_rm 0) (sx_Ex (some (.long res.1)) (sx_hp b uG uN uD uR uF uP uL (res.2) uA uM uH xA xB xC xD xE xF xG xH xI xJ xK xL uO G)) 155 [(1, .long v1)] [] (sx_hp b uG uN uD uR uF uP uL uT uA uM uH xA xB xC xD xE xF xG xH xI xJ xK xL uO G) 0 0 := by
  intro v1 uT h
  rw [f_X10_determinant_155] at h
  refine at_lload_n 0 dX10_determinant_155 rfl ?_
  cases h; exact at_lret rfl (Nat.le_refl _) (Nat.le_refl _) ⟨rfl, rfl⟩ dX10_determinant_156
set_option maxRecDepth 100000 in
theorem t_X10_determinant_41 {D : va_G} {b : Nat} {K : State → Heap → Prop} {sa : Nat → Nat} (hK : sx_Kk b K sa) (N : Nat) {uG uN uD uR uF uP uL uA uM uH xA xB xC xD xE xF xG xH xI xJ xK xL uO : sx_C} {G : sx_H} (res : Int64 × sx_C) : ∀ (uT : sx_C), f_X10_determinant_41 N uT = some res → sx_At D b K YX10_determinant (sx_rm 0) (sx_Ex (some (.long res.1)) (sx_hp b uG uN uD uR uF uP uL (res.2) uA uM uH xA xB xC xD xE xF xG xH xI xJ xK xL uO G)) 41 [] [] (sx_hp b uG uN uD uR uF uP uL uT uA uM uH xA xB xC xD xE xF xG xH xI xJ xK xL uO G) 0 0 := by
  intro uT h
  rw [f_X10_determinant_41] at h
  refine at_lconst 0 dX10_determinant_41 lc_0 ?_
  cases h; exact at_lret rfl (Nat.le_refl _) (Nat.le_refl _) ⟨rfl, rfl⟩ dX10_determinant_42
set_option maxRecDepth 100000 in
theorem t_X10_determinant_146 {D : va_G} {b : Nat} {K : State → Heap → Prop} {sa : Nat → Nat} (hK : sx_Kk b K sa) (N : Nat) {k4 : Int64 → Int32 → sx_C → Option (Int64 × sx_C)} {uG uN uD uR uF uP uL uA uM uH xA xB xC xD xE xF xG xH xI xJ xK xL uO : sx_C} {G : sx_H} (res : Int64 × sx_C) (hk4 : ∀ (v1 : Int64) (v3 : Int32) (uT : sx_C), k4 v1 v3 uT = some res → sx_At D b K YX10_determinant (sx_rm 0) (sx_Ex (some (.long res.1)) (sx_hp b uG uN uD uR uF uP uL (res.2) uA uM uH xA xB xC xD xE xF xG xH xI xJ xK xL uO G)) 4 [(0, .ref (b + 22)), (1, .long v1), (3, .int v3)] [] (sx_hp b uG uN uD uR uF uP uL uT uA uM uH xA xB xC xD xE xF xG xH xI xJ xK xL uO G) 0 0) : ∀ (v3 : Int32) (v4 : Int64) (uT : sx_C), f_X10_determinant_146 N k4 v3 v4 uT = some res → sx_At D b K YX10_determinant (sx_rm 0) (sx_Ex (some (.long res.1)) (sx_hp b uG uN uD uR uF uP uL (res.2) uA uM uH xA xB xC xD xE xF xG xH xI xJ xK xL uO G)) 146 [(0, .ref (b + 22)), (3, .int v3), (4, .long v4)] [] (sx_hp b uG uN uD uR uF uP uL uT uA uM uH xA xB xC xD xE xF xG xH xI xJ xK xL uO G) 0 0 := by
  intro v3 v4 uT h
  rw [f_X10_determinant_146] at h
  refine at_lload 2 dX10_determinant_146 rfl ?_
  refine at_lstore_n [(0, .ref (b + 22)), (1, .long v4), (3, .int v3), (4, .long v4)] dX10_determinant_148 (Nat.le_of_ble_eq_true rfl) rfl ?_
  refine at_iinc 2 1 [(0, .ref (b + 22)), (1, .long v4), (3, .int (v3 + 1)), (4, .long v4)] dX10_determinant_149 rfl ic_1 (Nat.le_of_ble_eq_true rfl) rfl ?_
  refine at_goto 4 dX10_determinant_152 (by decide) ?_
  refine at_sub [0, 1, 2] [(0, .ref (b + 22)), (1, .long v4), (3, .int (v3 + 1))] rfl ?_
  exact hk4 _ _ _ h
set_option maxRecDepth 100000 in
theorem t_X10_determinant_140 {D : va_G} {b : Nat} {K : State → Heap → Prop} {sa : Nat → Nat} (hK : sx_Kk b K sa) (N : Nat) {k4 : Int64 → Int32 → sx_C → Option (Int64 × sx_C)} {k48 : Int64 → Int32 → Int64 → Int32 → sx_C → Option (Int64 × sx_C)} {uG uN uD uR uF uP uL uA uM uH xA xB xC xD xE xF xG xH xI xJ xK xL uO : sx_C} {G : sx_H} (res : Int64 × sx_C) (hk4 : ∀ (v1 : Int64) (v3 : Int32) (uT : sx_C), k4 v1 v3 uT = some res → sx_At D b K YX10_determinant (sx_rm 0) (sx_Ex (some (.long res.1)) (sx_hp b uG uN uD uR uF uP uL (res.2) uA uM uH xA xB xC xD xE xF xG xH xI xJ xK xL uO G)) 4 [(0, .ref (b + 22)), (1, .long v1), (3, .int v3)] [] (sx_hp b uG uN uD uR uF uP uL uT uA uM uH xA xB xC xD xE xF xG xH xI xJ xK xL uO G) 0 0) (hk48 : ∀ (v1 : Int64) (v3 : Int32) (v4 : Int64) (v6 : Int32) (uT : sx_C), k48 v1 v3 v4 v6 uT = some res → sx_At D b K YX10_determinant (sx_rm 0) (sx_Ex (some (.long res.1)) (sx_hp b uG uN uD uR uF uP uL (res.2) uA uM uH xA xB xC xD xE xF xG xH xI xJ xK xL uO G)) 48 [(0, .ref (b + 22)), (1, .long v1), (3, .int v3), (4, .long v4), (6, .int v6)] [] (sx_hp b uG uN uD uR uF uP uL uT uA uM uH xA xB xC xD xE xF xG xH xI xJ xK xL uO G) 0 0) : ∀ (v1 : Int64) (v3 : Int32) (v4 : Int64) (v6 : Int32) (uT : sx_C), f_X10_determinant_140 N k4 k48 v1 v3 v4 v6 uT = some res → sx_At D b K YX10_determinant (sx_rm 0) (sx_Ex (some (.long res.1)) (sx_hp b uG uN uD uR uF uP uL (res.2) uA uM uH xA xB xC xD xE xF xG xH xI xJ xK xL uO G)) 140 [(0, .ref (b + 22)), (1, .long v1), (3, .int v3), (4, .long v4), (6, .int v6)] [] (sx_hp b uG uN uD uR uF uP uL uT uA uM uH xA xB xC xD xE xF xG xH xI xJ xK xL uO G) 0 0 := by
  intro v1 v3 v4 v6 uT h
  rw [f_X10_determinant_140] at h
  refine at_iinc 4 1 [(0, .ref (b + 22)), (1, .long v1), (3, .int v3), (4, .long v4), (6, .int (v6 + 1))] dX10_determinant_140 rfl ic_1 (Nat.le_of_ble_eq_true rfl) rfl ?_
  refine at_goto 48 dX10_determinant_143 (by decide) ?_
  exact hk48 _ _ _ _ _ h
set_option maxRecDepth 100000 in
theorem t_X10_determinant_69 {D : va_G} {b : Nat} {K : State → Heap → Prop} {sa : Nat → Nat} (hK : sx_Kk b K sa) (N : Nat) {k4 : Int64 → Int32 → sx_C → Option (Int64 × sx_C)} {k48 : Int64 → Int32 → Int64 → Int32 → sx_C → Option (Int64 × sx_C)} {uG uN uD uR uF uP uL uA uM uH xA xB xC xD xE xF xG xH xI xJ xK xL uO : sx_C} {G : sx_H} (res : Int64 × sx_C) (hk4 : ∀ (v1 : Int64) (v3 : Int32) (uT : sx_C), k4 v1 v3 uT = some res → sx_At D b K YX10_determinant (sx_rm 0) (sx_Ex (some (.long res.1)) (sx_hp b uG uN uD uR uF uP uL (res.2) uA uM uH xA xB xC xD xE xF xG xH xI xJ xK xL uO G)) 4 [(0, .ref (b + 22)), (1, .long v1), (3, .int v3)] [] (sx_hp b uG uN uD uR uF uP uL uT uA uM uH xA xB xC xD xE xF xG xH xI xJ xK xL uO G) 0 0) (hk48 : ∀ (v1 : Int64) (v3 : Int32) (v4 : Int64) (v6 : Int32) (uT : sx_C), k48 v1 v3 v4 v6 uT = some res → sx_At D b K YX10_determinant (sx_rm 0) (sx_Ex (some (.long res.1)) (sx_hp b uG uN uD uR uF uP uL (res.2) uA uM uH xA xB xC xD xE xF xG xH xI xJ xK xL uO G)) 48 [(0, .ref (b + 22)), (1, .long v1), (3, .int v3), (4, .long v4), (6, .int v6)] [] (sx_hp b uG uN uD uR uF uP uL uT uA uM uH xA xB xC xD xE xF xG xH xI xJ xK xL uO G) 0 0) : ∀ (n0 : Nat) (v1 : Int64) (v3 : Int32) (v4 : Int64) (v6 : Int32) (v7 : Int32) (uT : sx_C), f_X10_determinant_69 N k4 k48 n0 v1 v3 v4 v6 v7 uT = some res → sx_At D b K YX10_determinant (sx_rm 0) (sx_Ex (some (.long res.1)) (sx_hp b uG uN uD uR uF uP uL (res.2) uA uM uH xA xB xC xD xE xF xG xH xI xJ xK xL uO G)) 69 [(0, .ref (b + 22)), (1, .long v1), (3, .int v3), (4, .long v4), (6, .int v6), (7, .int v7)] [] (sx_hp b uG uN uD uR uF uP uL uT uA uM uH xA xB xC xD xE xF xG xH xI xJ xK xL uO G) 0 0 := by
  intro n0
  induction n0 with
  | zero => intro _ _ _ _ _ _ h; cases h
  | succ n0 ih =>
    intro v1 v3 v4 v6 v7 uT h
    rw [f_X10_determinant_69] at h
    refine at_iload 5 dX10_determinant_69 rfl ?_
    refine at_aload_n 0 dX10_determinant_71 rfl ?_
    refine at_getf cl_X10 (by decide) fl_X10_20 hg_22 rfl dX10_determinant_72 ?_
    refine at_icmp_ge 140 dX10_determinant_75 (by decide) (fun c9 => ?_) (fun c9 => ?_)
    · rw [if_pos c9] at h
      refine at_sub [0, 1, 2, 3, 4] [(0, .ref (b + 22)), (1, .long v1), (3, .int v3), (4, .long v4), (6, .int v6)] rfl ?_
      exact t_X10_determinant_140 hK N _ hk4 hk48 _ _ _ _ _ h
    · rw [if_neg c9] at h
      refine at_iload 5 dX10_determinant_78 rfl ?_
      refine at_bipush 7 dX10_determinant_80 bp_7 ?_
      refine at_icmp_ge 140 dX10_determinant_82 (by decide) (fun c10 => ?_) (fun c10 => ?_)
      · rw [if_pos c10] at h
        refine at_sub [0, 1, 2, 3, 4] [(0, .ref (b + 22)), (1, .long v1), (3, .int v3), (4, .long v4), (6, .int v6)] rfl ?_
        exact t_X10_determinant_140 hK N _ hk4 hk48 _ _ _ _ _ h
      · rw [if_neg c10] at h
        refine at_aload_n 0 dX10_determinant_85 rfl ?_
        refine at_getf cl_X10 (by decide) fl_X10_13 hg_22 rfl dX10_determinant_86 ?_
        refine at_iload 4 dX10_determinant_89 rfl ?_
        obtain ⟨hi11, h⟩ := sp_chk h
        refine at_row hi11 dX10_determinant_91 ?_
        refine at_iload_n 2 dX10_determinant_92 rfl ?_
        obtain ⟨w12, hw12, h⟩ := sp_bind h
        refine at_lald (hg_row (sp_in_lt hi11)) hw12 dX10_determinant_93 ?_
        refine at_aload_n 0 dX10_determinant_94 rfl ?_
        refine at_getf cl_X10 (by decide) fl_X10_13 hg_22 rfl dX10_determinant_95 ?_
        refine at_iload_n 2 dX10_determinant_98 rfl ?_
        obtain ⟨hi13, h⟩ := sp_chk h
        refine at_row hi13 dX10_determinant_99 ?_
        refine at_iload 5 dX10_determinant_100 rfl ?_
        obtain ⟨w14, hw14, h⟩ := sp_bind h
        refine at_lald (hg_row (sp_in_lt hi13)) hw14 dX10_determinant_102 ?_
        refine at_lmul dX10_determinant_103 ?_
        refine at_lstore [(0, .ref (b + 22)), (1, .long v1), (3, .int v3), (4, .long v4), (6, .int v6), (7, .int v7), (8, .long (w12 * w14))] dX10_determinant_104 (Nat.le_of_ble_eq_true rfl) rfl ?_
        refine at_aload_n 0 dX10_determinant_106 rfl ?_
        refine at_getf cl_X10 (by decide) fl_X10_13 hg_22 rfl dX10_determinant_107 ?_
        refine at_iload 4 dX10_determinant_110 rfl ?_
        obtain ⟨hi15, h⟩ := sp_chk h
        refine at_row hi15 dX10_determinant_112 ?_
        refine at_iload 5 dX10_determinant_113 rfl ?_
        refine at_aload_n 0 dX10_determinant_115 rfl ?_
        refine at_getf cl_X10 (by decide) fl_X10_13 hg_22 rfl dX10_determinant_116 ?_
        refine at_iload 4 dX10_determinant_119 rfl ?_
        obtain ⟨hi16, h⟩ := sp_chk h
        refine at_row hi16 dX10_determinant_121 ?_
        refine at_iload 5 dX10_determinant_122 rfl ?_
        obtain ⟨w17, hw17, h⟩ := sp_bind h
        refine at_lald (hg_row (sp_in_lt hi16)) hw17 dX10_determinant_124 ?_
        refine at_lload 3 dX10_determinant_125 rfl ?_
        refine at_lmul dX10_determinant_127 ?_
        refine at_lload 6 dX10_determinant_128 rfl ?_
        refine at_lsub dX10_determinant_130 ?_
        refine at_lload_n 1 dX10_determinant_131 rfl ?_
        obtain ⟨hz18, h⟩ := sp_chk h
        refine at_ldiv dX10_determinant_132 hz18 ?_
        obtain ⟨hi19, h⟩ := sp_chk h
        refine at_last (hg_row (sp_in_lt hi15)) hi19 (hs_row (sp_in_lt hi15)) dX10_determinant_133 ?_
        refine at_iinc 5 1 [(0, .ref (b + 22)), (1, .long v1), (3, .int v3), (4, .long v4), (6, .int v6), (7, .int (v7 + 1)), (8, .long (w12 * w14))] dX10_determinant_134 rfl ic_1 (Nat.le_of_ble_eq_true rfl) rfl ?_
        refine at_goto 69 dX10_determinant_137 (by decide) ?_
        refine at_sub [0, 1, 2, 3, 4, 5] [(0, .ref (b + 22)), (1, .long v1), (3, .int v3), (4, .long v4), (6, .int v6), (7, .int (v7 + 1))] rfl ?_
        exact ih _ _ _ _ _ _ h
set_option maxRecDepth 100000 in
theorem t_X10_determinant_48 {D : va_G} {b : Nat} {K : State → Heap → Prop} {sa : Nat → Nat} (hK : sx_Kk b K sa) (N : Nat) {k4 : Int64 → Int32 → sx_C → Option (Int64 × sx_C)} {uG uN uD uR uF uP uL uA uM uH xA xB xC xD xE xF xG xH xI xJ xK xL uO : sx_C} {G : sx_H} (res : Int64 × sx_C) (hk4 : ∀ (v1 : Int64) (v3 : Int32) (uT : sx_C), k4 v1 v3 uT = some res → sx_At D b K YX10_determinant (sx_rm 0) (sx_Ex (some (.long res.1)) (sx_hp b uG uN uD uR uF uP uL (res.2) uA uM uH xA xB xC xD xE xF xG xH xI xJ xK xL uO G)) 4 [(0, .ref (b + 22)), (1, .long v1), (3, .int v3)] [] (sx_hp b uG uN uD uR uF uP uL uT uA uM uH xA xB xC xD xE xF xG xH xI xJ xK xL uO G) 0 0) : ∀ (n0 : Nat) (v1 : Int64) (v3 : Int32) (v4 : Int64) (v6 : Int32) (uT : sx_C), f_X10_determinant_48 N k4 n0 v1 v3 v4 v6 uT = some res → sx_At D b K YX10_determinant (sx_rm 0) (sx_Ex (some (.long res.1)) (sx_hp b uG uN uD uR uF uP uL (res.2) uA uM uH xA xB xC xD xE xF xG xH xI xJ xK xL uO G)) 48 [(0, .ref (b + 22)), (1, .long v1), (3, .int v3), (4, .long v4), (6, .int v6)] [] (sx_hp b uG uN uD uR uF uP uL uT uA uM uH xA xB xC xD xE xF xG xH xI xJ xK xL uO G) 0 0 := by
  intro n0
  induction n0 with
  | zero => intro _ _ _ _ _ h; cases h
  | succ n0 ih =>
    intro v1 v3 v4 v6 uT h
    rw [f_X10_determinant_48] at h
    refine at_iload 4 dX10_determinant_48 rfl ?_
    refine at_aload_n 0 dX10_determinant_50 rfl ?_
    refine at_getf cl_X10 (by decide) fl_X10_20 hg_22 rfl dX10_determinant_51 ?_
    refine at_icmp_ge 146 dX10_determinant_54 (by decide) (fun c7 => ?_) (fun c7 => ?_)
    · rw [if_pos c7] at h
      refine at_sub [0, 2, 3] [(0, .ref (b + 22)), (3, .int v3), (4, .long v4)] rfl ?_
      exact t_X10_determinant_146 hK N _ hk4 _ _ _ h
    · rw [if_neg c7] at h
      refine at_iload 4 dX10_determinant_57 rfl ?_
      refine at_bipush 7 dX10_determinant_59 bp_7 ?_
      refine at_icmp_ge 146 dX10_determinant_61 (by decide) (fun c8 => ?_) (fun c8 => ?_)
      · rw [if_pos c8] at h
        refine at_sub [0, 2, 3] [(0, .ref (b + 22)), (3, .int v3), (4, .long v4)] rfl ?_
        exact t_X10_determinant_146 hK N _ hk4 _ _ _ h
      · rw [if_neg c8] at h
        refine at_iload_n 2 dX10_determinant_64 rfl ?_
        refine at_iconst 1 dX10_determinant_65 ic_1 ?_
        refine at_iadd dX10_determinant_66 ?_
        refine at_istore [(0, .ref (b + 22)), (1, .long v1), (3, .int v3), (4, .long v4), (6, .int v6), (7, .int (v3 + 1))] dX10_determinant_67 (Nat.le_of_ble_eq_true rfl) rfl ?_
        exact t_X10_determinant_69 hK N _ hk4 ih N _ _ _ _ _ _ h
set_option maxRecDepth 100000 in
theorem t_X10_determinant_4 {D : va_G} {b : Nat} {K : State → Heap → Prop} {sa : Nat → Nat} (hK : sx_Kk b K sa) (N : Nat) {uG uN uD uR uF uP uL uA uM uH xA xB xC xD xE xF xG xH xI xJ xK xL uO : sx_C} {G : sx_H} (res : Int64 × sx_C) : ∀ (n0 : Nat) (v1 : Int64) (v3 : Int32) (uT : sx_C), f_X10_determinant_4 N n0 v1 v3 uT = some res → sx_At D b K YX10_determinant (sx_rm 0) (sx_Ex (some (.long res.1)) (sx_hp b uG uN uD uR uF uP uL (res.2) uA uM uH xA xB xC xD xE xF xG xH xI xJ xK xL uO G)) 4 [(0, .ref (b + 22)), (1, .long v1), (3, .int v3)] [] (sx_hp b uG uN uD uR uF uP uL uT uA uM uH xA xB xC xD xE xF xG xH xI xJ xK xL uO G) 0 0 := by
  intro n0
  induction n0 with
  | zero => intro _ _ _ h; cases h
  | succ n0 ih =>
    intro v1 v3 uT h
    rw [f_X10_determinant_4] at h
    refine at_iload_n 2 dX10_determinant_4 rfl ?_
    refine at_aload_n 0 dX10_determinant_5 rfl ?_
    refine at_getf cl_X10 (by decide) fl_X10_20 hg_22 rfl dX10_determinant_6 ?_
    refine at_icmp_ge 155 dX10_determinant_9 (by decide) (fun c1 => ?_) (fun c1 => ?_)
    · rw [if_pos c1] at h
      refine at_sub [1] [(1, .long v1)] rfl ?_
      exact t_X10_determinant_155 hK N _ _ _ h
    · rw [if_neg c1] at h
      refine at_iload_n 2 dX10_determinant_12 rfl ?_
      refine at_bipush 7 dX10_determinant_13 bp_7 ?_
      refine at_icmp_ge 155 dX10_determinant_15 (by decide) (fun c2 => ?_) (fun c2 => ?_)
      · rw [if_pos c2] at h
        refine at_sub [1] [(1, .long v1)] rfl ?_
        exact t_X10_determinant_155 hK N _ _ _ h
      · rw [if_neg c2] at h
        refine at_aload_n 0 dX10_determinant_18 rfl ?_
        refine at_getf cl_X10 (by decide) fl_X10_13 hg_22 rfl dX10_determinant_19 ?_
        refine at_iload_n 2 dX10_determinant_22 rfl ?_
        obtain ⟨hi3, h⟩ := sp_chk h
        refine at_row hi3 dX10_determinant_23 ?_
        refine at_iload_n 2 dX10_determinant_24 rfl ?_
        obtain ⟨w4, hw4, h⟩ := sp_bind h
        refine at_lald (hg_row (sp_in_lt hi3)) hw4 dX10_determinant_25 ?_
        refine at_lstore [(0, .ref (b + 22)), (1, .long v1), (3, .int v3), (4, .long w4)] dX10_determinant_26 (Nat.le_of_ble_eq_true rfl) rfl ?_
        refine at_lload 3 dX10_determinant_28 rfl ?_
        refine at_lconst 0 dX10_determinant_30 lc_0 ?_
        refine at_lcmp dX10_determinant_31 ?_
        refine at_if_eq 41 dX10_determinant_32 (by decide) (fun c5 => ?_) (fun c5 => ?_)
        · rw [if_pos c5] at h
          refine at_sub [] [] rfl ?_
          exact t_X10_determinant_41 hK N _ _ h
        · rw [if_neg c5] at h
          refine at_lload_n 1 dX10_determinant_35 rfl ?_
          refine at_lconst 0 dX10_determinant_36 lc_0 ?_
          refine at_lcmp dX10_determinant_37 ?_
          refine at_if_ne 43 dX10_determinant_38 (by decide) (fun c6 => ?_) (fun c6 => ?_)
          · rw [if_neg c6] at h
            refine at_iload_n 2 dX10_determinant_43 rfl ?_
            refine at_iconst 1 dX10_determinant_44 ic_1 ?_
            refine at_iadd dX10_determinant_45 ?_
            refine at_istore [(0, .ref (b + 22)), (1, .long v1), (3, .int v3), (4, .long w4), (6, .int (v3 + 1))] dX10_determinant_46 (Nat.le_of_ble_eq_true rfl) rfl ?_
            exact t_X10_determinant_48 hK N _ ih N _ _ _ _ _ h
          · rw [if_pos c6] at h
            refine at_sub [] [] rfl ?_
            exact t_X10_determinant_41 hK N _ _ h
set_option maxRecDepth 100000 in
theorem t_X10_determinant {D : va_G} {b : Nat} {K : State → Heap → Prop} {sa : Nat → Nat} (hK : sx_Kk b K sa) {N : Nat} {uG uN uD uR uF uP uL uA uM uH xA xB xC xD xE xF xG xH xI xJ xK xL uO : sx_C} {G : sx_H} {uT : sx_C} {res : Int64 × sx_C} (h : f_X10_determinant N uT = some res) : sx_Runs D b K yX10_determinant YX10_determinant (sx_rm 0) [.ref (b + 22)] (sx_hp b uG uN uD uR uF uP uL uT uA uM uH xA xB xC xD xE xF xG xH xI xJ xK xL uO G) (sx_Ex (some (.long res.1)) (sx_hp b uG uN uD uR uF uP uL (res.2) uA uM uH xA xB xC xD xE xF xG xH xI xJ xK xL uO G)) := by
  rw [f_X10_determinant] at h
  refine sx_run (by decide +kernel) rfl rfl (Nat.le_of_ble_eq_true rfl) ?_
  refine at_lconst 1 dX10_determinant_0 lc_1 ?_
  refine at_lstore_n [(0, .ref (b + 22)), (1, .long 1)] dX10_determinant_1 (Nat.le_of_ble_eq_true rfl) rfl ?_
  refine at_iconst 0 dX10_determinant_2 ic_0 ?_
  refine at_istore_n [(0, .ref (b + 22)), (1, .long 1), (3, .int 0)] dX10_determinant_3 (Nat.le_of_ble_eq_true rfl) rfl ?_
  exact t_X10_determinant_4 hK N _ N _ _ _ h
set_option maxRecDepth 100000 in
theorem t_X10_add {D : va_G} {b : Nat} {K : State → Heap → Prop} {sa : Nat → Nat} (hK : sx_Kk b K sa) {uG uN uD uR uF uP uL uA uM uH xA xB xC xD xE xF xG xH xI xJ xK xL uO : sx_C} {G : sx_H} {v1 : Int32} {v2 : Int32} {v3 : Int32} {uT : sx_C} {res : sx_C} (h : f_X10_add v1 v2 v3 uT = some res) : sx_Runs D b K yX10_add YX10_add (sx_rm 0) [.ref (b + 22), .int v1, .int v2, .int v3] (sx_hp b uG uN uD uR uF uP uL uT uA uM uH xA xB xC xD xE xF xG xH xI xJ xK xL uO G) (sx_Ex none (sx_hp b uG uN uD uR uF uP uL res uA uM uH xA xB xC xD xE xF xG xH xI xJ xK xL uO G)) := by
  rw [f_X10_add] at h
  refine sx_run (by decide +kernel) rfl rfl (Nat.le_of_ble_eq_true rfl) ?_
  refine at_iload_n 1 dX10_add_0 rfl ?_
  refine at_if_lt 33 dX10_add_1 (by decide) (fun c1 => ?_) (fun c1 => ?_)
  · rw [if_pos c1] at h
    cases h; exact at_vret rfl (Nat.le_refl _) (Nat.le_refl _) ⟨rfl, rfl⟩ dX10_add_33
  · rw [if_neg c1] at h
    refine at_iload_n 1 dX10_add_4 rfl ?_
    refine at_bipush 7 dX10_add_5 bp_7 ?_
    refine at_icmp_ge 33 dX10_add_7 (by decide) (fun c2 => ?_) (fun c2 => ?_)
    · rw [if_pos c2] at h
      cases h; exact at_vret rfl (Nat.le_refl _) (Nat.le_refl _) ⟨rfl, rfl⟩ dX10_add_33
    · rw [if_neg c2] at h
      refine at_iload_n 2 dX10_add_10 rfl ?_
      refine at_if_lt 33 dX10_add_11 (by decide) (fun c3 => ?_) (fun c3 => ?_)
      · rw [if_pos c3] at h
        cases h; exact at_vret rfl (Nat.le_refl _) (Nat.le_refl _) ⟨rfl, rfl⟩ dX10_add_33
      · rw [if_neg c3] at h
        refine at_iload_n 2 dX10_add_14 rfl ?_
        refine at_bipush 7 dX10_add_15 bp_7 ?_
        refine at_icmp_ge 33 dX10_add_17 (by decide) (fun c4 => ?_) (fun c4 => ?_)
        · rw [if_pos c4] at h
          cases h; exact at_vret rfl (Nat.le_refl _) (Nat.le_refl _) ⟨rfl, rfl⟩ dX10_add_33
        · rw [if_neg c4] at h
          refine at_aload_n 0 dX10_add_20 rfl ?_
          refine at_getf cl_X10 (by decide) fl_X10_13 hg_22 rfl dX10_add_21 ?_
          refine at_iload_n 1 dX10_add_24 rfl ?_
          obtain ⟨hi5, h⟩ := sp_chk h
          refine at_row hi5 dX10_add_25 ?_
          refine at_iload_n 2 dX10_add_26 rfl ?_
          refine at_dup2 dX10_add_27 rfl rfl ?_
          obtain ⟨w6, hw6, h⟩ := sp_bind h
          refine at_lald (hg_row (sp_in_lt hi5)) hw6 dX10_add_28 ?_
          refine at_iload_n 3 dX10_add_29 rfl ?_
          refine at_i2l dX10_add_30 ?_
          refine at_ladd dX10_add_31 ?_
          obtain ⟨hi7, h⟩ := sp_chk h
          refine at_last (hg_row (sp_in_lt hi5)) hi7 (hs_row (sp_in_lt hi5)) dX10_add_32 ?_
          cases h; exact at_vret rfl (Nat.le_refl _) (Nat.le_refl _) ⟨rfl, rfl⟩ dX10_add_33
set_option maxRecDepth 100000 in
theorem t_X10_enter {D : va_G} {b : Nat} {K : State → Heap → Prop} {sa : Nat → Nat} (hK : sx_Kk b K sa) {uG uN uD uR uF uP uL uA uM uH xA xB xC xD xE xF xG xH xI xJ xK xL uO : sx_C} {G : sx_H} {v1 : Int32} {v2 : Int32} {uT : sx_C} {res : sx_C} (h : f_X10_enter v1 v2 uT = some res) : sx_Runs D b K yX10_enter YX10_enter (sx_rm 1) [.ref (b + 22), .int v1, .int v2] (sx_hp b uG uN uD uR uF uP uL uT uA uM uH xA xB xC xD xE xF xG xH xI xJ xK xL uO G) (sx_Ex none (sx_hp b uG uN uD uR uF uP uL res uA uM uH xA xB xC xD xE xF xG xH xI xJ xK xL uO G)) := by
  rw [f_X10_enter] at h
  refine sx_run (by decide +kernel) rfl rfl (Nat.le_of_ble_eq_true rfl) ?_
  refine at_iload_n 1 dX10_enter_0 rfl ?_
  refine at_iload_n 2 dX10_enter_1 rfl ?_
  refine at_icmp_ne 6 dX10_enter_2 (by decide) (fun c1 => ?_) (fun c1 => ?_)
  · rw [if_neg c1] at h
    refine at_aload_n 0 dX10_enter_6 rfl ?_
    refine at_getf cl_X10 (by decide) fl_X10_16 hg_22 rfl dX10_enter_7 ?_
    refine at_iload_n 1 dX10_enter_10 rfl ?_
    refine at_bipush 7 dX10_enter_11 bp_7 ?_
    refine at_iand dX10_enter_13 ?_
    obtain ⟨w2, hw2, h⟩ := sp_bind h
    refine at_iald hg_31 hw2 dX10_enter_14 ?_
    refine at_istore_n [(0, .ref (b + 22)), (1, .int v1), (2, .int v2), (3, .int w2)] dX10_enter_15 (Nat.le_of_ble_eq_true rfl) rfl ?_
    refine at_aload_n 0 dX10_enter_16 rfl ?_
    refine at_getf cl_X10 (by decide) fl_X10_16 hg_22 rfl dX10_enter_17 ?_
    refine at_iload_n 2 dX10_enter_20 rfl ?_
    refine at_bipush 7 dX10_enter_21 bp_7 ?_
    refine at_iand dX10_enter_23 ?_
    obtain ⟨w3, hw3, h⟩ := sp_bind h
    refine at_iald hg_31 hw3 dX10_enter_24 ?_
    refine at_istore [(0, .ref (b + 22)), (1, .int v1), (2, .int v2), (3, .int w2), (4, .int w3)] dX10_enter_25 (Nat.le_of_ble_eq_true rfl) rfl ?_
    refine at_aload_n 0 dX10_enter_27 rfl ?_
    refine at_iload_n 3 dX10_enter_28 rfl ?_
    refine at_iload_n 3 dX10_enter_29 rfl ?_
    refine at_iconst 1 dX10_enter_30 ic_1 ?_
    obtain ⟨q4, hq4, h⟩ := sp_bind h
    refine at_callVv (st := []) hK mt_X10_add ml_X10_81 cl_X10 hg_22 (t_X10_add hK hq4) rfl rfl (Nat.le_of_ble_eq_true rfl) ⟨Nat.le_of_ble_eq_true rfl, Nat.le_of_ble_eq_true rfl⟩ ⟨Nat.le_refl _, Nat.le_refl _⟩ dX10_enter_31 ?_
    refine at_aload_n 0 dX10_enter_34 rfl ?_
    refine at_iload 4 dX10_enter_35 rfl ?_
    refine at_iload 4 dX10_enter_37 rfl ?_
    refine at_iconst 1 dX10_enter_39 ic_1 ?_
    obtain ⟨q5, hq5, h⟩ := sp_bind h
    refine at_callVv (st := []) hK mt_X10_add ml_X10_81 cl_X10 hg_22 (t_X10_add hK hq5) rfl rfl (Nat.le_of_ble_eq_true rfl) ⟨Nat.le_of_ble_eq_true rfl, Nat.le_of_ble_eq_true rfl⟩ ⟨Nat.le_refl _, Nat.le_refl _⟩ dX10_enter_40 ?_
    refine at_aload_n 0 dX10_enter_43 rfl ?_
    refine at_iload_n 3 dX10_enter_44 rfl ?_
    refine at_iload 4 dX10_enter_45 rfl ?_
    refine at_iconst (-1) dX10_enter_47 ic_m1 ?_
    obtain ⟨q6, hq6, h⟩ := sp_bind h
    refine at_callVv (st := []) hK mt_X10_add ml_X10_81 cl_X10 hg_22 (t_X10_add hK hq6) rfl rfl (Nat.le_of_ble_eq_true rfl) ⟨Nat.le_of_ble_eq_true rfl, Nat.le_of_ble_eq_true rfl⟩ ⟨Nat.le_refl _, Nat.le_refl _⟩ dX10_enter_48 ?_
    refine at_aload_n 0 dX10_enter_51 rfl ?_
    refine at_iload 4 dX10_enter_52 rfl ?_
    refine at_iload_n 3 dX10_enter_54 rfl ?_
    refine at_iconst (-1) dX10_enter_55 ic_m1 ?_
    obtain ⟨q7, hq7, h⟩ := sp_bind h
    refine at_callVv (st := []) hK mt_X10_add ml_X10_81 cl_X10 hg_22 (t_X10_add hK hq7) rfl rfl (Nat.le_of_ble_eq_true rfl) ⟨Nat.le_of_ble_eq_true rfl, Nat.le_of_ble_eq_true rfl⟩ ⟨Nat.le_refl _, Nat.le_refl _⟩ dX10_enter_56 ?_
    cases h; exact at_vret rfl (Nat.le_refl _) (Nat.le_refl _) ⟨rfl, rfl⟩ dX10_enter_59
  · rw [if_pos c1] at h
    cases h; exact at_vret rfl (Nat.le_refl _) (Nat.le_refl _) ⟨rfl, rfl⟩ dX10_enter_5
set_option maxRecDepth 100000 in
theorem t_X10_tally_99 {D : va_G} {b : Nat} {K : State → Heap → Prop} {sa : Nat → Nat} (hK : sx_Kk b K sa) (N : Nat) {k38 : Int32 → Int32 → Int32 → sx_C → Option (Int32 × sx_C)} {uG uN uD uR uF uP uL uA uM uH xA xB xC xD xE xF xG xH xI xJ xK xL uO : sx_C} {G : sx_H} (res : Int32 × sx_C) (hk38 : ∀ (v3 : Int32) (v4 : Int32) (v5 : Int32) (uT : sx_C), k38 v3 v4 v5 uT = some res → sx_At D b K YX10_tally (sx_rm 3) (sx_Ex (some (.int res.1)) (sx_hp b uG uN uD uR uF uP uL (res.2) uA uM uH xA xB xC xD xE xF xG xH xI xJ xK xL uO G)) 38 [(0, .ref (b + 22)), (3, .int v3), (4, .int v4), (5, .int v5)] [] (sx_hp b uG uN uD uR uF uP uL uT uA uM uH xA xB xC xD xE xF xG xH xI xJ xK xL uO G) 0 0) : ∀ (v3 : Int32) (v4 : Int32) (v5 : Int32) (uT : sx_C), f_X10_tally_99 N k38 uN v3 v4 v5 uT = some res → sx_At D b K YX10_tally (sx_rm 3) (sx_Ex (some (.int res.1)) (sx_hp b uG uN uD uR uF uP uL (res.2) uA uM uH xA xB xC xD xE xF xG xH xI xJ xK xL uO G)) 99 [(0, .ref (b + 22)), (3, .int v3), (4, .int v4), (5, .int v5)] [] (sx_hp b uG uN uD uR uF uP uL uT uA uM uH xA xB xC xD xE xF xG xH xI xJ xK xL uO G) 0 0 := by
  intro v3 v4 v5 uT h
  rw [f_X10_tally_99] at h
  refine at_iinc 3 1 [(0, .ref (b + 22)), (3, .int v3), (4, .int v4), (5, .int (v5 + 1))] dX10_tally_99 rfl ic_1 (Nat.le_of_ble_eq_true rfl) rfl ?_
  refine at_goto 38 dX10_tally_102 (by decide) ?_
  exact hk38 _ _ _ _ h
set_option maxRecDepth 100000 in
theorem t_X10_tally_38 {D : va_G} {b : Nat} {K : State → Heap → Prop} {sa : Nat → Nat} (hK : sx_Kk b K sa) (N : Nat) {uG uN uD uR uF uP uL uA uM uH xA xB xC xD xE xF xG xH xI xJ xK xL uO : sx_C} {G : sx_H} (res : Int32 × sx_C) : ∀ (n0 : Nat) (v3 : Int32) (v4 : Int32) (v5 : Int32) (uT : sx_C), f_X10_tally_38 N uN n0 v3 v4 v5 uT = some res → sx_At D b K YX10_tally (sx_rm 3) (sx_Ex (some (.int res.1)) (sx_hp b uG uN uD uR uF uP uL (res.2) uA uM uH xA xB xC xD xE xF xG xH xI xJ xK xL uO G)) 38 [(0, .ref (b + 22)), (3, .int v3), (4, .int v4), (5, .int v5)] [] (sx_hp b uG uN uD uR uF uP uL uT uA uM uH xA xB xC xD xE xF xG xH xI xJ xK xL uO G) 0 0 := by
  intro n0
  induction n0 with
  | zero => intro _ _ _ _ h; cases h
  | succ n0 ih =>
    intro v3 v4 v5 uT h
    rw [f_X10_tally_38] at h
    refine at_iload 3 dX10_tally_38 rfl ?_
    refine at_bipush 14 dX10_tally_40 bp_14 ?_
    refine at_icmp_ge 105 dX10_tally_42 (by decide) (fun c1 => ?_) (fun c1 => ?_)
    · rw [if_pos c1] at h
      refine at_aload_n 0 dX10_tally_105 rfl ?_
      obtain ⟨q2, hq2, h⟩ := sp_bind h
      refine at_callVl (st := []) hK mt_X10_determinant ml_X10_71 cl_X10 hg_22 (t_X10_determinant hK hq2) rfl rfl (Nat.le_of_ble_eq_true rfl) ⟨Nat.le_of_ble_eq_true rfl, Nat.le_of_ble_eq_true rfl⟩ ⟨Nat.le_refl _, Nat.le_refl _⟩ dX10_tally_106 ?_
      refine at_l2i dX10_tally_109 ?_
      cases h; exact at_iret rfl (Nat.le_refl _) (Nat.le_refl _) ⟨rfl, rfl⟩ dX10_tally_110
    · rw [if_neg c1] at h
      refine at_iload 2 dX10_tally_45 rfl ?_
      refine at_iload 3 dX10_tally_47 rfl ?_
      obtain ⟨q3, hq3, h⟩ := sp_bind h
      refine at_callSi (st := []) hK mt_X11_has ml_X10_50 (t_X11_has hK hq3) rfl rfl (Nat.le_of_ble_eq_true rfl) ⟨Nat.le_of_ble_eq_true rfl, Nat.le_of_ble_eq_true rfl⟩ ⟨Nat.le_refl _, Nat.le_refl _⟩ dX10_tally_49 ?_
      refine at_zeq 99 dX10_tally_52 (by decide) (fun c4 => ?_) (fun c4 => ?_)
      · rw [if_neg c4] at h
        exact t_X10_tally_99 hK N _ ih _ _ _ _ h
      · rw [if_pos c4] at h
        refine at_aload_n 0 dX10_tally_55 rfl ?_
        refine at_getf cl_X10 (by decide) fl_X10_24 hg_22 rfl dX10_tally_56 ?_
        refine at_iload 3 dX10_tally_59 rfl ?_
        obtain ⟨q5, hq5, h⟩ := sp_bind h
        refine at_callVi (st := []) hK mt_X6_isLine ml_X10_54 cl_X6 hg_2 (t_X6_isLine hK hq5) rfl rfl (Nat.le_of_ble_eq_true rfl) ⟨Nat.le_of_ble_eq_true rfl, Nat.le_of_ble_eq_true rfl⟩ ⟨Nat.le_refl _, Nat.le_refl _⟩ dX10_tally_61 ?_
        refine at_zeq 99 dX10_tally_64 (by decide) (fun c6 => ?_) (fun c6 => ?_)
        · rw [if_neg c6] at h
          exact t_X10_tally_99 hK N _ ih _ _ _ _ h
        · rw [if_pos c6] at h
          refine at_aload_n 0 dX10_tally_67 rfl ?_
          refine at_iload_n 1 dX10_tally_68 rfl ?_
          refine at_aload_n 0 dX10_tally_69 rfl ?_
          refine at_getf cl_X10 (by decide) fl_X10_24 hg_22 rfl dX10_tally_70 ?_
          refine at_getf cl_X6 (by decide) fl_X10_58 hg_2 rfl dX10_tally_73 ?_
          refine at_iload 3 dX10_tally_76 rfl ?_
          obtain ⟨w7, hw7, h⟩ := sp_bind h
          refine at_iald hg_3 hw7 dX10_tally_78 ?_
          obtain ⟨q8, hq8, h⟩ := sp_bind h
          refine at_callSi (st := [.ref (b + 22)]) hK mt_X8_numberOf ml_X10_61 (t_X8_numberOf hK hq8) rfl rfl (Nat.le_of_ble_eq_true rfl) ⟨Nat.le_of_ble_eq_true rfl, Nat.le_of_ble_eq_true rfl⟩ ⟨Nat.le_refl _, Nat.le_refl _⟩ dX10_tally_79 ?_
          refine at_iload_n 1 dX10_tally_82 rfl ?_
          refine at_aload_n 0 dX10_tally_83 rfl ?_
          refine at_getf cl_X10 (by decide) fl_X10_24 hg_22 rfl dX10_tally_84 ?_
          refine at_getf cl_X6 (by decide) fl_X10_64 hg_2 rfl dX10_tally_87 ?_
          refine at_iload 3 dX10_tally_90 rfl ?_
          obtain ⟨w9, hw9, h⟩ := sp_bind h
          refine at_iald hg_4 hw9 dX10_tally_92 ?_
          obtain ⟨q10, hq10, h⟩ := sp_bind h
          refine at_callSi (st := [.int q8, .ref (b + 22)]) hK mt_X8_numberOf ml_X10_61 (t_X8_numberOf hK hq10) rfl rfl (Nat.le_of_ble_eq_true rfl) ⟨Nat.le_of_ble_eq_true rfl, Nat.le_of_ble_eq_true rfl⟩ ⟨Nat.le_refl _, Nat.le_refl _⟩ dX10_tally_93 ?_
          obtain ⟨q11, hq11, h⟩ := sp_bind h
          refine at_callVv (st := []) hK mt_X10_enter ml_X10_67 cl_X10 hg_22 (t_X10_enter hK hq11) rfl rfl (Nat.le_of_ble_eq_true rfl) ⟨Nat.le_of_ble_eq_true rfl, Nat.le_of_ble_eq_true rfl⟩ ⟨Nat.le_refl _, Nat.le_refl _⟩ dX10_tally_96 ?_
          exact t_X10_tally_99 hK N _ ih _ _ _ _ h
set_option maxRecDepth 100000 in
theorem t_X10_tally {D : va_G} {b : Nat} {K : State → Heap → Prop} {sa : Nat → Nat} (hK : sx_Kk b K sa) {N : Nat} {uG uN uD uR uF uP uL uA uM uH xA xB xC xD xE xF xG xH xI xJ xK xL uO : sx_C} {G : sx_H} {v1 : Int32} {v2 : Int32} {uT : sx_C} {res : Int32 × sx_C} (h : f_X10_tally N uN v1 v2 uT = some res) : sx_Runs D b K yX10_tally YX10_tally (sx_rm 3) [.ref (b + 22), .int v1, .int v2] (sx_hp b uG uN uD uR uF uP uL uT uA uM uH xA xB xC xD xE xF xG xH xI xJ xK xL uO G) (sx_Ex (some (.int res.1)) (sx_hp b uG uN uD uR uF uP uL (res.2) uA uM uH xA xB xC xD xE xF xG xH xI xJ xK xL uO G)) := by
  rw [f_X10_tally] at h
  refine sx_run (by decide +kernel) rfl rfl (Nat.le_of_ble_eq_true rfl) ?_
  refine at_aload_n 0 dX10_tally_0 rfl ?_
  refine at_getf cl_X10 (by decide) fl_X10_24 hg_22 rfl dX10_tally_1 ?_
  refine at_iload_n 1 dX10_tally_4 rfl ?_
  obtain ⟨q12, hq12, h⟩ := sp_bind h
  refine at_callVi (st := []) hK mt_X6_placesBy ml_X10_28 cl_X6 hg_2 (t_X6_placesBy hK hq12) rfl rfl (Nat.le_of_ble_eq_true rfl) ⟨Nat.le_of_ble_eq_true rfl, Nat.le_of_ble_eq_true rfl⟩ ⟨Nat.le_refl _, Nat.le_refl _⟩ dX10_tally_5 ?_
  refine at_istore_n [(0, .ref (b + 22)), (1, .int v1), (2, .int v2), (3, .int q12)] dX10_tally_8 (Nat.le_of_ble_eq_true rfl) rfl ?_
  refine at_aload_n 0 dX10_tally_9 rfl ?_
  refine at_iload_n 3 dX10_tally_10 rfl ?_
  refine at_aload_n 0 dX10_tally_11 rfl ?_
  refine at_getf cl_X10 (by decide) fl_X10_24 hg_22 rfl dX10_tally_12 ?_
  refine at_getf cl_X6 (by decide) fl_X10_34 hg_2 rfl dX10_tally_15 ?_
  obtain ⟨q13, hq13, h⟩ := sp_bind h
  refine at_callSi (st := [.ref (b + 22)]) hK mt_X8_heads ml_X10_37 (t_X8_heads hK hq13) rfl rfl (Nat.le_of_ble_eq_true rfl) ⟨Nat.le_of_ble_eq_true rfl, Nat.le_of_ble_eq_true rfl⟩ ⟨Nat.le_refl _, Nat.le_refl _⟩ dX10_tally_18 ?_
  obtain ⟨q14, hq14, h⟩ := sp_bind h
  refine at_callVv (st := []) hK mt_X10_clear ml_X10_43 cl_X10 hg_22 (t_X10_clear hK hq14) rfl rfl (Nat.le_of_ble_eq_true rfl) ⟨Nat.le_of_ble_eq_true rfl, Nat.le_of_ble_eq_true rfl⟩ ⟨Nat.le_refl _, Nat.le_refl _⟩ dX10_tally_21 ?_
  refine at_aload_n 0 dX10_tally_24 rfl ?_
  refine at_getf cl_X10 (by decide) fl_X10_24 hg_22 rfl dX10_tally_25 ?_
  refine at_iload_n 1 dX10_tally_28 rfl ?_
  refine at_iload_n 2 dX10_tally_29 rfl ?_
  obtain ⟨q15, hq15, h⟩ := sp_bind h
  refine at_callVi (st := []) hK mt_X6_openOf ml_X10_47 cl_X6 hg_2 (t_X6_openOf hK hq15) rfl rfl (Nat.le_of_ble_eq_true rfl) ⟨Nat.le_of_ble_eq_true rfl, Nat.le_of_ble_eq_true rfl⟩ ⟨Nat.le_refl _, Nat.le_refl _⟩ dX10_tally_30 ?_
  refine at_istore [(0, .ref (b + 22)), (1, .int v1), (2, .int v2), (3, .int q12), (4, .int q15)] dX10_tally_33 (Nat.le_of_ble_eq_true rfl) rfl ?_
  refine at_iconst 0 dX10_tally_35 ic_0 ?_
  refine at_istore [(0, .ref (b + 22)), (1, .int v1), (2, .int v2), (3, .int q12), (4, .int q15), (5, .int 0)] dX10_tally_36 (Nat.le_of_ble_eq_true rfl) rfl ?_
  refine at_sub [0, 3, 4, 5] [(0, .ref (b + 22)), (3, .int q12), (4, .int q15), (5, .int 0)] rfl ?_
  exact t_X10_tally_38 hK N _ N _ _ _ _ h
set_option maxRecDepth 100000 in
theorem t_X11_trees {D : va_G} {b : Nat} {K : State → Heap → Prop} {sa : Nat → Nat} (hK : sx_Kk b K sa) {N : Nat} {uG uN uD uR uF uP uL uA uM uH xA xB xC xD xE xF xG xH xI xJ xK xL uO : sx_C} {G : sx_H} {uT : sx_C} {res : Int32 × sx_C} (h : f_X11_trees N uG uN uT = some res) : sx_Runs D b K yX11_trees YX11_trees (sx_rm 4) [.ref (b + 0)] (sx_hp b uG uN uD uR uF uP uL uT uA uM uH xA xB xC xD xE xF xG xH xI xJ xK xL uO G) (sx_Ex (some (.int res.1)) (sx_hp b uG uN uD uR uF uP uL (res.2) uA uM uH xA xB xC xD xE xF xG xH xI xJ xK xL uO G)) := by
  rw [f_X11_trees] at h
  refine sx_run (by decide +kernel) rfl rfl (Nat.le_of_ble_eq_true rfl) ?_
  refine at_aload_n 0 dX11_trees_0 rfl ?_
  refine at_getf cl_X11 (by decide) fl_X11_67 hg_0 rfl dX11_trees_1 ?_
  refine at_aload_n 0 dX11_trees_4 rfl ?_
  refine at_getf cl_X11 (by decide) fl_X11_91 hg_0 rfl dX11_trees_5 ?_
  refine at_aload_n 0 dX11_trees_8 rfl ?_
  refine at_getf cl_X11 (by decide) fl_X11_94 hg_0 rfl dX11_trees_9 ?_
  obtain ⟨q1, hq1, h⟩ := sp_bind h
  refine at_callVi (st := []) hK mt_X10_tally ml_X11_264 cl_X10 hg_22 (t_X10_tally hK hq1) rfl rfl (Nat.le_of_ble_eq_true rfl) ⟨Nat.le_of_ble_eq_true rfl, Nat.le_of_ble_eq_true rfl⟩ ⟨Nat.le_refl _, Nat.le_refl _⟩ dX11_trees_12 ?_
  cases h; exact at_iret rfl (Nat.le_refl _) (Nat.le_refl _) ⟨rfl, rfl⟩ dX11_trees_15
