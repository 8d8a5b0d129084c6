set_option maxRecDepth 100000 in
theorem t_X12_pair {D : va_G} {b : Nat} {K : State → Heap → Prop} {sa : Nat → Nat} (hK : sx_Kk b K sa) {N : Nat} {uG uN uD uR uF uP uL uT uA uM uH xA xC xI xJ xK xL uO : sx_C} {G : sx_H} {v1 : Int32} {xB : sx_C} {xD : sx_C} {xE : sx_C} {xF : sx_C} {xG : sx_C} {xH : sx_C} {res : Int32 × sx_C × sx_C × sx_C × sx_C × sx_C × sx_C} (h : f_X12_pair N xA v1 xB xD xE xF xG xH = some res) : sx_Runs D b K yX12_pair YX12_pair (sx_rm 6) [.ref (b + 38), .int v1] (sx_hp b uG uN uD uR uF uP uL uT uA uM uH xA xB xC xD xE xF xG xH xI xJ xK xL uO G) (sx_Ex (some (.int res.1)) (sx_hp b uG uN uD uR uF uP uL uT uA uM uH xA (res.2.1) xC (res.2.2.1) (res.2.2.2.1) (res.2.2.2.2.1) (res.2.2.2.2.2.1) (res.2.2.2.2.2.2) xI xJ xK xL uO G)) := by
  rw [f_X12_pair] at h
  refine sx_run (by decide +kernel) rfl rfl (Nat.le_of_ble_eq_true rfl) ?_
  refine at_aload_n 0 dX12_pair_0 rfl ?_
  refine at_iconst 0 dX12_pair_1 ic_0 ?_
  refine at_putf cl_X12 (by decide) fl_X12_73 rfl hg_38 rfl rfl (Nat.le_of_ble_eq_true rfl) hs_38_0 dX12_pair_2 ?_
  refine at_iload_n 1 dX12_pair_5 rfl ?_
  refine at_if_lt 14 dX12_pair_6 (by decide) (fun c1 => ?_) (fun c1 => ?_)
  · rw [if_pos c1] at h
    refine at_iconst (-1) dX12_pair_14 ic_m1 ?_
    cases h; exact at_iret rfl (Nat.le_refl _) (Nat.le_refl _) ⟨rfl, rfl⟩ dX12_pair_15
  · rw [if_neg c1] at h
    refine at_iload_n 1 dX12_pair_9 rfl ?_
    refine at_iconst 3 dX12_pair_10 ic_3 ?_
    refine at_icmp_le 16 dX12_pair_11 (by decide) (fun c2 => ?_) (fun c2 => ?_)
    · rw [if_pos c2] at h
      refine at_aload_n 0 dX12_pair_16 rfl ?_
      refine at_aload_n 0 dX12_pair_17 rfl ?_
      refine at_getf cl_X12 (by decide) fl_X12_201 hg_38 rfl dX12_pair_18 ?_
      refine at_aload_n 0 dX12_pair_21 rfl ?_
      refine at_getf cl_X12 (by decide) fl_X12_204 hg_38 rfl dX12_pair_22 ?_
      obtain ⟨q3, hq3, h⟩ := sp_bind h
      refine at_callVi (st := []) hK mt_X12_laysPair ml_X12_323 cl_X12 hg_38 (t_X12_laysPair hK hq3) rfl rfl (Nat.le_of_ble_eq_true rfl) ⟨Nat.le_of_ble_eq_true rfl, Nat.le_of_ble_eq_true rfl⟩ ⟨Nat.le_refl _, Nat.le_refl _⟩ dX12_pair_25 ?_
      refine at_zne 34 dX12_pair_28 (by decide) (fun c4 => ?_) (fun c4 => ?_)
      · rw [if_pos c4] at h
        refine at_iload_n 1 dX12_pair_34 rfl ?_
        refine at_if_ne 45 dX12_pair_35 (by decide) (fun c5 => ?_) (fun c5 => ?_)
        · rw [if_neg c5] at h
          refine at_iload_n 1 dX12_pair_45 rfl ?_
          refine at_iconst 1 dX12_pair_46 ic_1 ?_
          refine at_icmp_ne 57 dX12_pair_47 (by decide) (fun c6 => ?_) (fun c6 => ?_)
          · rw [if_neg c6] at h
            refine at_iload_n 1 dX12_pair_57 rfl ?_
            refine at_iconst 2 dX12_pair_58 ic_2 ?_
            refine at_icmp_ne 69 dX12_pair_59 (by decide) (fun c7 => ?_) (fun c7 => ?_)
            · rw [if_neg c7] at h
              refine at_aload_n 0 dX12_pair_69 rfl ?_
              refine at_getf cl_X12 (by decide) fl_X12_282 hg_38 rfl dX12_pair_70 ?_
              obtain ⟨q8, hq8, h⟩ := sp_bind h
              refine at_callSi (st := []) hK mt_X12_bits ml_X12_250 (t_X12_bits hK hq8) rfl rfl (Nat.le_of_ble_eq_true rfl) ⟨Nat.le_of_ble_eq_true rfl, Nat.le_of_ble_eq_true rfl⟩ ⟨Nat.le_refl _, Nat.le_refl _⟩ dX12_pair_73 ?_
              cases h; exact at_iret rfl (Nat.le_refl _) (Nat.le_refl _) ⟨rfl, rfl⟩ dX12_pair_76
            · rw [if_pos c7] at h
              refine at_aload_n 0 dX12_pair_62 rfl ?_
              refine at_getf cl_X12 (by decide) fl_X12_292 hg_38 rfl dX12_pair_63 ?_
              refine at_goto 76 dX12_pair_66 (by decide) ?_
              cases h; exact at_iret rfl (Nat.le_refl _) (Nat.le_refl _) ⟨rfl, rfl⟩ dX12_pair_76
          · rw [if_pos c6] at h
            refine at_aload_n 0 dX12_pair_50 rfl ?_
            refine at_getf cl_X12 (by decide) fl_X12_289 hg_38 rfl dX12_pair_51 ?_
            refine at_goto 76 dX12_pair_54 (by decide) ?_
            cases h; exact at_iret rfl (Nat.le_refl _) (Nat.le_refl _) ⟨rfl, rfl⟩ dX12_pair_76
        · rw [if_pos c5] at h
          refine at_aload_n 0 dX12_pair_38 rfl ?_
          refine at_getf cl_X12 (by decide) fl_X12_282 hg_38 rfl dX12_pair_39 ?_
          refine at_goto 76 dX12_pair_42 (by decide) ?_
          cases h; exact at_iret rfl (Nat.le_refl _) (Nat.le_refl _) ⟨rfl, rfl⟩ dX12_pair_76
      · rw [if_neg c4] at h
        refine at_bipush (-2) dX12_pair_31 bp_m2 ?_
        cases h; exact at_iret rfl (Nat.le_refl _) (Nat.le_refl _) ⟨rfl, rfl⟩ dX12_pair_33
    · rw [if_neg c2] at h
      refine at_iconst (-1) dX12_pair_14 ic_m1 ?_
      cases h; exact at_iret rfl (Nat.le_refl _) (Nat.le_refl _) ⟨rfl, rfl⟩ dX12_pair_15
set_option maxRecDepth 100000 in
theorem t_X12_set {D : va_G} {b : Nat} {K : State → Heap → Prop} {sa : Nat → Nat} (hK : sx_Kk b K sa) {N : Nat} {uG uN uD uR uF uP uL uT uA uM uH xA xC xH xI xJ xK xL uO : sx_C} {G : sx_H} {v1 : Int32} {xB : sx_C} {xD : sx_C} {xE : sx_C} {xF : sx_C} {xG : sx_C} {res : Int32 × sx_C × sx_C × sx_C × sx_C × sx_C} (h : f_X12_set N xA v1 xB xD xE xF xG = some res) : sx_Runs D b K yX12_set YX12_set (sx_rm 5) [.ref (b + 38), .int v1] (sx_hp b uG uN uD uR uF uP uL uT uA uM uH xA xB xC xD xE xF xG xH xI xJ xK xL uO G) (sx_Ex (some (.int res.1)) (sx_hp b uG uN uD uR uF uP uL uT uA uM uH xA (res.2.1) xC (res.2.2.1) (res.2.2.2.1) (res.2.2.2.2.1) (res.2.2.2.2.2) xH xI xJ xK xL uO G)) := by
  rw [f_X12_set] at h
  refine sx_run (by decide +kernel) rfl rfl (Nat.le_of_ble_eq_true rfl) ?_
  refine at_aload_n 0 dX12_set_0 rfl ?_
  refine at_iconst 0 dX12_set_1 ic_0 ?_
  refine at_putf cl_X12 (by decide) fl_X12_73 rfl hg_38 rfl rfl (Nat.le_of_ble_eq_true rfl) hs_38_0 dX12_set_2 ?_
  refine at_iload_n 1 dX12_set_5 rfl ?_
  refine at_if_ge 11 dX12_set_6 (by decide) (fun c1 => ?_) (fun c1 => ?_)
  · rw [if_pos c1] at h
    refine at_aload_n 0 dX12_set_11 rfl ?_
    refine at_aload_n 0 dX12_set_12 rfl ?_
    refine at_getf cl_X12 (by decide) fl_X12_201 hg_38 rfl dX12_set_13 ?_
    refine at_aload_n 0 dX12_set_16 rfl ?_
    refine at_getf cl_X12 (by decide) fl_X12_204 hg_38 rfl dX12_set_17 ?_
    refine at_iload_n 1 dX12_set_20 rfl ?_
    obtain ⟨q2, hq2, h⟩ := sp_bind h
    refine at_callVi (st := []) hK mt_X12_setAt ml_X12_278 cl_X12 hg_38 (t_X12_setAt hK hq2) rfl rfl (Nat.le_of_ble_eq_true rfl) ⟨Nat.le_of_ble_eq_true rfl, Nat.le_of_ble_eq_true rfl⟩ ⟨Nat.le_refl _, Nat.le_refl _⟩ dX12_set_21 ?_
    refine at_istore_n [(0, .ref (b + 38)), (1, .int v1), (2, .int (q2.1))] dX12_set_24 (Nat.le_of_ble_eq_true rfl) rfl ?_
    refine at_iload_n 2 dX12_set_25 rfl ?_
    refine at_iconst (-1) dX12_set_26 ic_m1 ?_
    refine at_icmp_ne 35 dX12_set_27 (by decide) (fun c3 => ?_) (fun c3 => ?_)
    · rw [if_neg c3] at h
      refine at_iload_n 2 dX12_set_35 rfl ?_
      cases h; exact at_iret rfl (Nat.le_refl _) (Nat.le_refl _) ⟨rfl, rfl⟩ dX12_set_36
    · rw [if_pos c3] at h
      refine at_bipush (-2) dX12_set_30 bp_m2 ?_
      refine at_goto 36 dX12_set_32 (by decide) ?_
      cases h; exact at_iret rfl (Nat.le_refl _) (Nat.le_refl _) ⟨rfl, rfl⟩ dX12_set_36
  · rw [if_neg c1] at h
    refine at_iconst (-1) dX12_set_9 ic_m1 ?_
    cases h; exact at_iret rfl (Nat.le_refl _) (Nat.le_refl _) ⟨rfl, rfl⟩ dX12_set_10
set_option maxRecDepth 100000 in
theorem t_X12_outcome {D : va_G} {b : Nat} {K : State → Heap → Prop} {sa : Nat → Nat} (hK : sx_Kk b K sa) {N : Nat} {uG uN uD uR uF uP uL uT uA uM uH xA xC xH xI xJ xK xL uO : sx_C} {G : sx_H} {xB : sx_C} {xD : sx_C} {xE : sx_C} {xF : sx_C} {xG : sx_C} {res : Int32 × sx_C × sx_C × sx_C × sx_C × sx_C} (h : f_X12_outcome N xA xB xD xE xF xG = some res) : sx_Runs D b K yX12_outcome YX12_outcome (sx_rm 7) [.ref (b + 38)] (sx_hp b uG uN uD uR uF uP uL uT uA uM uH xA xB xC xD xE xF xG xH xI xJ xK xL uO G) (sx_Ex (some (.int res.1)) (sx_hp b uG uN uD uR uF uP uL uT uA uM uH xA (res.2.1) xC (res.2.2.1) (res.2.2.2.1) (res.2.2.2.2.1) (res.2.2.2.2.2) xH xI xJ xK xL uO G)) := by
  rw [f_X12_outcome] at h
  refine sx_run (by decide +kernel) rfl rfl (Nat.le_of_ble_eq_true rfl) ?_
  refine at_aload_n 0 dX12_outcome_0 rfl ?_
  refine at_iconst 0 dX12_outcome_1 ic_0 ?_
  refine at_putf cl_X12 (by decide) fl_X12_73 rfl hg_38 rfl rfl (Nat.le_of_ble_eq_true rfl) hs_38_0 dX12_outcome_2 ?_
  refine at_aload_n 0 dX12_outcome_5 rfl ?_
  refine at_aload_n 0 dX12_outcome_6 rfl ?_
  refine at_getf cl_X12 (by decide) fl_X12_201 hg_38 rfl dX12_outcome_7 ?_
  refine at_aload_n 0 dX12_outcome_10 rfl ?_
  refine at_getf cl_X12 (by decide) fl_X12_204 hg_38 rfl dX12_outcome_11 ?_
  obtain ⟨q1, hq1, h⟩ := sp_bind h
  refine at_callVi (st := []) hK mt_X12_outcomeOf ml_X12_326 cl_X12 hg_38 (t_X12_outcomeOf hK hq1) rfl rfl (Nat.le_of_ble_eq_true rfl) ⟨Nat.le_of_ble_eq_true rfl, Nat.le_of_ble_eq_true rfl⟩ ⟨Nat.le_refl _, Nat.le_refl _⟩ dX12_outcome_14 ?_
  cases h; exact at_iret rfl (Nat.le_refl _) (Nat.le_refl _) ⟨rfl, rfl⟩ dX12_outcome_17
set_option maxRecDepth 100000 in
theorem t_X12_winAt_72 {D : va_G} {b : Nat} {K : State → Heap → Prop} {sa : Nat → Nat} (hK : sx_Kk b K sa) (N : Nat) {k27 : Int32 → Int32 → Int32 → Int32 → Int32 → Int32 → sx_C → sx_C → sx_C → sx_C → Option (Int32 × sx_C × sx_C × sx_C × sx_C)} {uG uN uD uR uF uP uL uT uA uM uH xA xB xC xH xI xJ xK xL uO : sx_C} {G : sx_H} (res : Int32 × sx_C × sx_C × sx_C × sx_C) (hk27 : ∀ (v1 : Int32) (v2 : Int32) (v3 : Int32) (v5 : Int32) (v6 : Int32) (v7 : Int32) (xD : sx_C) (xE : sx_C) (xF : sx_C) (xG : sx_C), k27 v1 v2 v3 v5 v6 v7 xD xE xF xG = some res → sx_At D b K YX12_winAt (sx_rm 7) (sx_Ex (some (.int res.1)) (sx_hp b uG uN uD uR uF uP uL uT uA uM uH xA xB xC (res.2.1) (res.2.2.1) (res.2.2.2.1) (res.2.2.2.2) xH xI xJ xK xL uO G)) 27 [(0, .ref (b + 38)), (1, .int v1), (2, .int v2), (3, .int v3), (5, .int v5), (6, .int v6), (7, .int v7)] [] (sx_hp b uG uN uD uR uF uP uL uT uA uM uH xA xB xC xD xE xF xG xH xI xJ xK xL uO G) 0 0) : ∀ (v1 : Int32) (v2 : Int32) (v3 : Int32) (v5 : Int32) (v6 : Int32) (v7 : Int32) (xD : sx_C) (xE : sx_C) (xF : sx_C) (xG : sx_C), f_X12_winAt_72 N k27 xA v1 v2 v3 v5 v6 v7 xD xE xF xG = some res → sx_At D b K YX12_winAt (sx_rm 7) (sx_Ex (some (.int res.1)) (sx_hp b uG uN uD uR uF uP uL uT uA uM uH xA xB xC (res.2.1) (res.2.2.1) (res.2.2.2.1) (res.2.2.2.2) xH xI xJ xK xL uO G)) 72 [(0, .ref (b + 38)), (1, .int v1), (2, .int v2), (3, .int v3), (5, .int v5), (6, .int v6), (7, .int v7)] [] (sx_hp b uG uN uD uR uF uP uL uT uA uM uH xA xB xC xD xE xF xG xH xI xJ xK xL uO G) 0 0 := by
  intro v1 v2 v3 v5 v6 v7 xD xE xF xG h
  rw [f_X12_winAt_72] at h
  refine at_iinc 6 1 [(0, .ref (b + 38)), (1, .int v1), (2, .int v2), (3, .int v3), (5, .int v5), (6, .int v6), (7, .int (v7 + 1))] dX12_winAt_72 rfl ic_1 (Nat.le_of_ble_eq_true rfl) rfl ?_
  refine at_goto 27 dX12_winAt_75 (by decide) ?_
  exact hk27 _ _ _ _ _ _ _ _ _ _ h
set_option maxRecDepth 100000 in
theorem t_X12_winAt_27 {D : va_G} {b : Nat} {K : State → Heap → Prop} {sa : Nat → Nat} (hK : sx_Kk b K sa) (N : Nat) {uG uN uD uR uF uP uL uT uA uM uH xA xB xC xH xI xJ xK xL uO : sx_C} {G : sx_H} (res : Int32 × sx_C × sx_C × sx_C × sx_C) : ∀ (n0 : Nat) (v1 : Int32) (v2 : Int32) (v3 : Int32) (v5 : Int32) (v6 : Int32) (v7 : Int32) (xD : sx_C) (xE : sx_C) (xF : sx_C) (xG : sx_C), f_X12_winAt_27 N xA n0 v1 v2 v3 v5 v6 v7 xD xE xF xG = some res → sx_At D b K YX12_winAt (sx_rm 7) (sx_Ex (some (.int res.1)) (sx_hp b uG uN uD uR uF uP uL uT uA uM uH xA xB xC (res.2.1) (res.2.2.1) (res.2.2.2.1) (res.2.2.2.2) xH xI xJ xK xL uO G)) 27 [(0, .ref (b + 38)), (1, .int v1), (2, .int v2), (3, .int v3), (5, .int v5), (6, .int v6), (7, .int v7)] [] (sx_hp b uG uN uD uR uF uP uL uT uA uM uH xA xB xC xD xE xF xG xH xI xJ xK xL uO G) 0 0 := by
  intro n0
  induction n0 with
  | zero => intro _ _ _ _ _ _ _ _ _ _ h; cases h
  | succ n0 ih =>
    intro v1 v2 v3 v5 v6 v7 xD xE xF xG h
    rw [f_X12_winAt_27] at h
    refine at_iload 6 dX12_winAt_27 rfl ?_
    refine at_aload_n 0 dX12_winAt_29 rfl ?_
    refine at_getf cl_X12 (by decide) fl_X12_198 hg_38 rfl dX12_winAt_30 ?_
    refine at_icmp_ge 78 dX12_winAt_33 (by decide) (fun c1 => ?_) (fun c1 => ?_)
    · rw [if_pos c1] at h
      refine at_iconst (-1) dX12_winAt_78 ic_m1 ?_
      cases h; exact at_iret rfl (Nat.le_refl _) (Nat.le_refl _) ⟨rfl, rfl⟩ dX12_winAt_79
    · rw [if_neg c1] at h
      refine at_iload 5 dX12_winAt_36 rfl ?_
      refine at_iload 6 dX12_winAt_38 rfl ?_
      refine at_ishr dX12_winAt_40 ?_
      refine at_iconst 1 dX12_winAt_41 ic_1 ?_
      refine at_iand dX12_winAt_42 ?_
      refine at_if_eq 72 dX12_winAt_43 (by decide) (fun c2 => ?_) (fun c2 => ?_)
      · rw [if_pos c2] at h
        exact t_X12_winAt_72 hK N _ ih _ _ _ _ _ _ _ _ _ _ h
      · rw [if_neg c2] at h
        refine at_aload_n 0 dX12_winAt_46 rfl ?_
        refine at_iload_n 1 dX12_winAt_47 rfl ?_
        refine at_iload 6 dX12_winAt_48 rfl ?_
        refine at_iload_n 2 dX12_winAt_50 rfl ?_
        refine at_iload_n 3 dX12_winAt_51 rfl ?_
        obtain ⟨q3, hq3, h⟩ := sp_bind h
        refine at_callVi (st := []) hK mt_X12_winsFor ml_X12_329 cl_X12 hg_38 (t_X12_winsFor hK hq3) rfl rfl (Nat.le_of_ble_eq_true rfl) ⟨Nat.le_of_ble_eq_true rfl, Nat.le_of_ble_eq_true rfl⟩ ⟨Nat.le_refl _, Nat.le_refl _⟩ dX12_winAt_52 ?_
        refine at_zne 61 dX12_winAt_55 (by decide) (fun c4 => ?_) (fun c4 => ?_)
        · rw [if_pos c4] at h
          refine at_iload 4 dX12_winAt_61 rfl ?_
          refine at_if_ne 69 dX12_winAt_63 (by decide) (fun c5 => ?_) (fun c5 => ?_)
          · rw [if_neg c5] at h
            refine at_iinc 4 (-1) [(0, .ref (b + 38)), (1, .int v1), (2, .int v2), (3, .int v3), (5, .int (v5 + (-1))), (6, .int v6), (7, .int v7)] dX12_winAt_69 rfl ic_m1 (Nat.le_of_ble_eq_true rfl) rfl ?_
            exact t_X12_winAt_72 hK N _ ih _ _ _ _ _ _ _ _ _ _ h
          · rw [if_pos c5] at h
            refine at_iload 6 dX12_winAt_66 rfl ?_
            cases h; exact at_iret rfl (Nat.le_refl _) (Nat.le_refl _) ⟨rfl, rfl⟩ dX12_winAt_68
        · rw [if_neg c4] at h
          refine at_goto 72 dX12_winAt_58 (by decide) ?_
          exact t_X12_winAt_72 hK N _ ih _ _ _ _ _ _ _ _ _ _ h
set_option maxRecDepth 100000 in
theorem t_X12_winAt {D : va_G} {b : Nat} {K : State → Heap → Prop} {sa : Nat → Nat} (hK : sx_Kk b K sa) {N : Nat} {uG uN uD uR uF uP uL uT uA uM uH xA xB xC xH xI xJ xK xL uO : sx_C} {G : sx_H} {v1 : Int32} {v2 : Int32} {v3 : Int32} {v4 : Int32} {xD : sx_C} {xE : sx_C} {xF : sx_C} {xG : sx_C} {res : Int32 × sx_C × sx_C × sx_C × sx_C} (h : f_X12_winAt N xA v1 v2 v3 v4 xD xE xF xG = some res) : sx_Runs D b K yX12_winAt YX12_winAt (sx_rm 7) [.ref (b + 38), .int v1, .int v2, .int v3, .int v4] (sx_hp b uG uN uD uR uF uP uL uT uA uM uH xA xB xC xD xE xF xG xH xI xJ xK xL uO G) (sx_Ex (some (.int res.1)) (sx_hp b uG uN uD uR uF uP uL uT uA uM uH xA xB xC (res.2.1) (res.2.2.1) (res.2.2.2.1) (res.2.2.2.2) xH xI xJ xK xL uO G)) := by
  rw [f_X12_winAt] at h
  refine sx_run (by decide +kernel) rfl rfl (Nat.le_of_ble_eq_true rfl) ?_
  refine at_aload_n 0 dX12_winAt_0 rfl ?_
  refine at_iload_n 2 dX12_winAt_1 rfl ?_
  refine at_iload_n 3 dX12_winAt_2 rfl ?_
  obtain ⟨q6, hq6, h⟩ := sp_bind h
  refine at_callVi (st := []) hK mt_X12_has ml_X12_301 cl_X12 hg_38 (t_X12_has hK hq6) rfl rfl (Nat.le_of_ble_eq_true rfl) ⟨Nat.le_of_ble_eq_true rfl, Nat.le_of_ble_eq_true rfl⟩ ⟨Nat.le_refl _, Nat.le_refl _⟩ dX12_winAt_3 ?_
  refine at_iconst 2 dX12_winAt_6 ic_2 ?_
  refine at_icmp_eq 12 dX12_winAt_7 (by decide) (fun c7 => ?_) (fun c7 => ?_)
  · rw [if_pos c7] at h
    refine at_iload 4 dX12_winAt_12 rfl ?_
    refine at_istore [(0, .ref (b + 38)), (1, .int v1), (2, .int v2), (3, .int v3), (4, .int v4), (5, .int v4)] dX12_winAt_14 (Nat.le_of_ble_eq_true rfl) rfl ?_
    refine at_aload_n 0 dX12_winAt_16 rfl ?_
    refine at_iload_n 2 dX12_winAt_17 rfl ?_
    refine at_iload_n 3 dX12_winAt_18 rfl ?_
    obtain ⟨q8, hq8, h⟩ := sp_bind h
    refine at_callVi (st := []) hK mt_X12_open ml_X12_226 cl_X12 hg_38 (t_X12_open hK hq8) rfl rfl (Nat.le_of_ble_eq_true rfl) ⟨Nat.le_of_ble_eq_true rfl, Nat.le_of_ble_eq_true rfl⟩ ⟨Nat.le_refl _, Nat.le_refl _⟩ dX12_winAt_19 ?_
    refine at_istore [(0, .ref (b + 38)), (1, .int v1), (2, .int v2), (3, .int v3), (4, .int v4), (5, .int v4), (6, .int q8)] dX12_winAt_22 (Nat.le_of_ble_eq_true rfl) rfl ?_
    refine at_iconst 0 dX12_winAt_24 ic_0 ?_
    refine at_istore [(0, .ref (b + 38)), (1, .int v1), (2, .int v2), (3, .int v3), (4, .int v4), (5, .int v4), (6, .int q8), (7, .int 0)] dX12_winAt_25 (Nat.le_of_ble_eq_true rfl) rfl ?_
    refine at_sub [0, 1, 2, 3, 5, 6, 7] [(0, .ref (b + 38)), (1, .int v1), (2, .int v2), (3, .int v3), (5, .int v4), (6, .int q8), (7, .int 0)] rfl ?_
    exact t_X12_winAt_27 hK N _ N _ _ _ _ _ _ _ _ _ _ h
  · rw [if_neg c7] at h
    refine at_iconst (-1) dX12_winAt_10 ic_m1 ?_
    cases h; exact at_iret rfl (Nat.le_refl _) (Nat.le_refl _) ⟨rfl, rfl⟩ dX12_winAt_11
set_option maxRecDepth 100000 in
theorem t_X12_wins {D : va_G} {b : Nat} {K : State → Heap → Prop} {sa : Nat → Nat} (hK : sx_Kk b K sa) {N : Nat} {uG uN uD uR uF uP uL uT uA uM uH xA xC xH xI xJ xK xL uO : sx_C} {G : sx_H} {v1 : Int32} {v2 : Int32} {xB : sx_C} {xD : sx_C} {xE : sx_C} {xF : sx_C} {xG : sx_C} {res : Int32 × sx_C × sx_C × sx_C × sx_C × sx_C} (h : f_X12_wins N xA v1 v2 xB xD xE xF xG = some res) : sx_Runs D b K yX12_wins YX12_wins (sx_rm 8) [.ref (b + 38), .int v1, .int v2] (sx_hp b uG uN uD uR uF uP uL uT uA uM uH xA xB xC xD xE xF xG xH xI xJ xK xL uO G) (sx_Ex (some (.int res.1)) (sx_hp b uG uN uD uR uF uP uL uT uA uM uH xA (res.2.1) xC (res.2.2.1) (res.2.2.2.1) (res.2.2.2.2.1) (res.2.2.2.2.2) xH xI xJ xK xL uO G)) := by
  rw [f_X12_wins] at h
  refine sx_run (by decide +kernel) rfl rfl (Nat.le_of_ble_eq_true rfl) ?_
  refine at_aload_n 0 dX12_wins_0 rfl ?_
  refine at_iconst 0 dX12_wins_1 ic_0 ?_
  refine at_putf cl_X12 (by decide) fl_X12_73 rfl hg_38 rfl rfl (Nat.le_of_ble_eq_true rfl) hs_38_0 dX12_wins_2 ?_
  refine at_iload_n 1 dX12_wins_5 rfl ?_
  refine at_if_lt 18 dX12_wins_6 (by decide) (fun c1 => ?_) (fun c1 => ?_)
  · rw [if_pos c1] at h
    refine at_iconst (-1) dX12_wins_18 ic_m1 ?_
    cases h; exact at_iret rfl (Nat.le_refl _) (Nat.le_refl _) ⟨rfl, rfl⟩ dX12_wins_19
  · rw [if_neg c1] at h
    refine at_iload_n 1 dX12_wins_9 rfl ?_
    refine at_iconst 1 dX12_wins_10 ic_1 ?_
    refine at_icmp_gt 18 dX12_wins_11 (by decide) (fun c2 => ?_) (fun c2 => ?_)
    · rw [if_pos c2] at h
      refine at_iconst (-1) dX12_wins_18 ic_m1 ?_
      cases h; exact at_iret rfl (Nat.le_refl _) (Nat.le_refl _) ⟨rfl, rfl⟩ dX12_wins_19
    · rw [if_neg c2] at h
      refine at_iload_n 2 dX12_wins_14 rfl ?_
      refine at_if_ge 20 dX12_wins_15 (by decide) (fun c3 => ?_) (fun c3 => ?_)
      · rw [if_pos c3] at h
        refine at_aload_n 0 dX12_wins_20 rfl ?_
        refine at_iload_n 1 dX12_wins_21 rfl ?_
        refine at_aload_n 0 dX12_wins_22 rfl ?_
        refine at_getf cl_X12 (by decide) fl_X12_201 hg_38 rfl dX12_wins_23 ?_
        refine at_aload_n 0 dX12_wins_26 rfl ?_
        refine at_getf cl_X12 (by decide) fl_X12_204 hg_38 rfl dX12_wins_27 ?_
        refine at_iload_n 2 dX12_wins_30 rfl ?_
        obtain ⟨q4, hq4, h⟩ := sp_bind h
        refine at_callVi (st := []) hK mt_X12_winAt ml_X12_333 cl_X12 hg_38 (t_X12_winAt hK hq4) rfl rfl (Nat.le_of_ble_eq_true rfl) ⟨Nat.le_of_ble_eq_true rfl, Nat.le_of_ble_eq_true rfl⟩ ⟨Nat.le_refl _, Nat.le_refl _⟩ dX12_wins_31 ?_
        refine at_istore_n [(0, .ref (b + 38)), (1, .int v1), (2, .int v2), (3, .int (q4.1))] dX12_wins_34 (Nat.le_of_ble_eq_true rfl) rfl ?_
        refine at_iload_n 3 dX12_wins_35 rfl ?_
        refine at_iconst (-1) dX12_wins_36 ic_m1 ?_
        refine at_icmp_ne 45 dX12_wins_37 (by decide) (fun c5 => ?_) (fun c5 => ?_)
        · rw [if_neg c5] at h
          refine at_iload_n 3 dX12_wins_45 rfl ?_
          cases h; exact at_iret rfl (Nat.le_refl _) (Nat.le_refl _) ⟨rfl, rfl⟩ dX12_wins_46
        · rw [if_pos c5] at h
          refine at_bipush (-2) dX12_wins_40 bp_m2 ?_
          refine at_goto 46 dX12_wins_42 (by decide) ?_
          cases h; exact at_iret rfl (Nat.le_refl _) (Nat.le_refl _) ⟨rfl, rfl⟩ dX12_wins_46
      · rw [if_neg c3] at h
        refine at_iconst (-1) dX12_wins_18 ic_m1 ?_
        cases h; exact at_iret rfl (Nat.le_refl _) (Nat.le_refl _) ⟨rfl, rfl⟩ dX12_wins_19
set_option maxRecDepth 100000 in
theorem t_X12_answer {D : va_G} {b : Nat} {K : State → Heap → Prop} {sa : Nat → Nat} (hK : sx_Kk b K sa) {N : Nat} {uG uN uD uR uF uP uL uT uA uM uH xA xC xI xJ xK xL uO : sx_C} {G : sx_H} {v1 : Int32} {xB : sx_C} {xD : sx_C} {xE : sx_C} {xF : sx_C} {xG : sx_C} {xH : sx_C} {res : Int32 × sx_C × sx_C × sx_C × sx_C × sx_C × sx_C} (h : f_X12_answer N xA v1 xB xD xE xF xG xH = some res) : sx_Runs D b K yX12_answer YX12_answer (sx_rm 6) [.ref (b + 38), .int v1] (sx_hp b uG uN uD uR uF uP uL uT uA uM uH xA xB xC xD xE xF xG xH xI xJ xK xL uO G) (sx_Ex (some (.int res.1)) (sx_hp b uG uN uD uR uF uP uL uT uA uM uH xA (res.2.1) xC (res.2.2.1) (res.2.2.2.1) (res.2.2.2.2.1) (res.2.2.2.2.2.1) (res.2.2.2.2.2.2) xI xJ xK xL uO G)) := by
  rw [f_X12_answer] at h
  refine sx_run (by decide +kernel) rfl rfl (Nat.le_of_ble_eq_true rfl) ?_
  refine at_aload_n 0 dX12_answer_0 rfl ?_
  refine at_iconst 0 dX12_answer_1 ic_0 ?_
  refine at_putf cl_X12 (by decide) fl_X12_73 rfl hg_38 rfl rfl (Nat.le_of_ble_eq_true rfl) hs_38_0 dX12_answer_2 ?_
  refine at_aload_n 0 dX12_answer_5 rfl ?_
  refine at_iload_n 1 dX12_answer_6 rfl ?_
  obtain ⟨q1, hq1, h⟩ := sp_bind h
  refine at_callVi (st := []) hK mt_X12_isLine ml_X12_304 cl_X12 hg_38 (t_X12_isLine hK hq1) rfl rfl (Nat.le_of_ble_eq_true rfl) ⟨Nat.le_of_ble_eq_true rfl, Nat.le_of_ble_eq_true rfl⟩ ⟨Nat.le_refl _, Nat.le_refl _⟩ dX12_answer_7 ?_
  refine at_zne 15 dX12_answer_10 (by decide) (fun c2 => ?_) (fun c2 => ?_)
  · rw [if_pos c2] at h
    refine at_aload_n 0 dX12_answer_15 rfl ?_
    refine at_iload_n 1 dX12_answer_16 rfl ?_
    obtain ⟨q3, hq3, h⟩ := sp_bind h
    refine at_callVi (st := []) hK mt_X12_isOpen ml_X12_310 cl_X12 hg_38 (t_X12_isOpen hK hq3) rfl rfl (Nat.le_of_ble_eq_true rfl) ⟨Nat.le_of_ble_eq_true rfl, Nat.le_of_ble_eq_true rfl⟩ ⟨Nat.le_refl _, Nat.le_refl _⟩ dX12_answer_17 ?_
    refine at_zne 26 dX12_answer_20 (by decide) (fun c4 => ?_) (fun c4 => ?_)
    · rw [if_pos c4] at h
      refine at_aload_n 0 dX12_answer_26 rfl ?_
      refine at_aload_n 0 dX12_answer_27 rfl ?_
      refine at_getf cl_X12 (by decide) fl_X12_201 hg_38 rfl dX12_answer_28 ?_
      refine at_aload_n 0 dX12_answer_31 rfl ?_
      refine at_getf cl_X12 (by decide) fl_X12_204 hg_38 rfl dX12_answer_32 ?_
      obtain ⟨q5, hq5, h⟩ := sp_bind h
      refine at_callVi (st := []) hK mt_X12_laysPair ml_X12_323 cl_X12 hg_38 (t_X12_laysPair hK hq5) rfl rfl (Nat.le_of_ble_eq_true rfl) ⟨Nat.le_of_ble_eq_true rfl, Nat.le_of_ble_eq_true rfl⟩ ⟨Nat.le_refl _, Nat.le_refl _⟩ dX12_answer_35 ?_
      refine at_zeq 49 dX12_answer_38 (by decide) (fun c6 => ?_) (fun c6 => ?_)
      · rw [if_neg c6] at h
        refine at_bipush (-3) dX12_answer_49 bp_m3 ?_
        cases h; exact at_iret rfl (Nat.le_refl _) (Nat.le_refl _) ⟨rfl, rfl⟩ dX12_answer_51
      · rw [if_pos c6] at h
        refine at_aload_n 0 dX12_answer_41 rfl ?_
        refine at_iload_n 1 dX12_answer_42 rfl ?_
        obtain ⟨q7, hq7, h⟩ := sp_bind h
        refine at_callVi (st := []) hK mt_X12_answerOf ml_X12_337 cl_X12 hg_38 (t_X12_answerOf hK hq7) rfl rfl (Nat.le_of_ble_eq_true rfl) ⟨Nat.le_of_ble_eq_true rfl, Nat.le_of_ble_eq_true rfl⟩ ⟨Nat.le_refl _, Nat.le_refl _⟩ dX12_answer_43 ?_
        refine at_goto 51 dX12_answer_46 (by decide) ?_
        cases h; exact at_iret rfl (Nat.le_refl _) (Nat.le_refl _) ⟨rfl, rfl⟩ dX12_answer_51
    · rw [if_neg c4] at h
      refine at_bipush (-2) dX12_answer_23 bp_m2 ?_
      cases h; exact at_iret rfl (Nat.le_refl _) (Nat.le_refl _) ⟨rfl, rfl⟩ dX12_answer_25
  · rw [if_neg c2] at h
    refine at_iconst (-1) dX12_answer_13 ic_m1 ?_
    cases h; exact at_iret rfl (Nat.le_refl _) (Nat.le_refl _) ⟨rfl, rfl⟩ dX12_answer_14
set_option maxRecDepth 100000 in
theorem t_X12_exchange {D : va_G} {b : Nat} {K : State → Heap → Prop} {sa : Nat → Nat} (hK : sx_Kk b K sa) {N : Nat} {uG uN uD uR uF uP uL uT uA uM uH xA xC xI xJ xK xL uO : sx_C} {G : sx_H} {v1 : Int32} {xB : sx_C} {xD : sx_C} {xE : sx_C} {xF : sx_C} {xG : sx_C} {xH : sx_C} {res : Int32 × sx_C × sx_C × sx_C × sx_C × sx_C × sx_C} (h : f_X12_exchange N xA v1 xB xD xE xF xG xH = some res) : sx_Runs D b K yX12_exchange YX12_exchange (sx_rm 6) [.ref (b + 38), .int v1] (sx_hp b uG uN uD uR uF uP uL uT uA uM uH xA xB xC xD xE xF xG xH xI xJ xK xL uO G) (sx_Ex (some (.int res.1)) (sx_hp b uG uN uD uR uF uP uL uT uA uM uH xA (res.2.1) xC (res.2.2.1) (res.2.2.2.1) (res.2.2.2.2.1) (res.2.2.2.2.2.1) (res.2.2.2.2.2.2) xI xJ xK xL uO G)) := by
  rw [f_X12_exchange] at h
  refine sx_run (by decide +kernel) rfl rfl (Nat.le_of_ble_eq_true rfl) ?_
  refine at_aload_n 0 dX12_exchange_0 rfl ?_
  refine at_iconst 0 dX12_exchange_1 ic_0 ?_
  refine at_putf cl_X12 (by decide) fl_X12_73 rfl hg_38 rfl rfl (Nat.le_of_ble_eq_true rfl) hs_38_0 dX12_exchange_2 ?_
  refine at_aload_n 0 dX12_exchange_5 rfl ?_
  refine at_iload_n 1 dX12_exchange_6 rfl ?_
  obtain ⟨q1, hq1, h⟩ := sp_bind h
  refine at_callVi (st := []) hK mt_X12_isLine ml_X12_304 cl_X12 hg_38 (t_X12_isLine hK hq1) rfl rfl (Nat.le_of_ble_eq_true rfl) ⟨Nat.le_of_ble_eq_true rfl, Nat.le_of_ble_eq_true rfl⟩ ⟨Nat.le_refl _, Nat.le_refl _⟩ dX12_exchange_7 ?_
  refine at_zne 15 dX12_exchange_10 (by decide) (fun c2 => ?_) (fun c2 => ?_)
  · rw [if_pos c2] at h
    refine at_aload_n 0 dX12_exchange_15 rfl ?_
    refine at_aload_n 0 dX12_exchange_16 rfl ?_
    refine at_getf cl_X12 (by decide) fl_X12_201 hg_38 rfl dX12_exchange_17 ?_
    refine at_aload_n 0 dX12_exchange_20 rfl ?_
    refine at_getf cl_X12 (by decide) fl_X12_204 hg_38 rfl dX12_exchange_21 ?_
    obtain ⟨q3, hq3, h⟩ := sp_bind h
    refine at_callVi (st := []) hK mt_X12_laysPair ml_X12_323 cl_X12 hg_38 (t_X12_laysPair hK hq3) rfl rfl (Nat.le_of_ble_eq_true rfl) ⟨Nat.le_of_ble_eq_true rfl, Nat.le_of_ble_eq_true rfl⟩ ⟨Nat.le_refl _, Nat.le_refl _⟩ dX12_exchange_24 ?_
    refine at_zne 33 dX12_exchange_27 (by decide) (fun c4 => ?_) (fun c4 => ?_)
    · rw [if_pos c4] at h
      refine at_aload_n 0 dX12_exchange_33 rfl ?_
      refine at_getf cl_X12 (by decide) fl_X12_289 hg_38 rfl dX12_exchange_34 ?_
      refine at_aload_n 0 dX12_exchange_37 rfl ?_
      refine at_getf cl_X12 (by decide) fl_X12_292 hg_38 rfl dX12_exchange_38 ?_
      refine at_ior dX12_exchange_41 ?_
      refine at_iload_n 1 dX12_exchange_42 rfl ?_
      refine at_ishr dX12_exchange_43 ?_
      refine at_iconst 1 dX12_exchange_44 ic_1 ?_
      refine at_iand dX12_exchange_45 ?_
      refine at_iconst 1 dX12_exchange_46 ic_1 ?_
      refine at_icmp_ne 58 dX12_exchange_47 (by decide) (fun c5 => ?_) (fun c5 => ?_)
      · rw [if_neg c5] at h
        refine at_bipush (-2) dX12_exchange_58 bp_m2 ?_
        cases h; exact at_iret rfl (Nat.le_refl _) (Nat.le_refl _) ⟨rfl, rfl⟩ dX12_exchange_60
      · rw [if_pos c5] at h
        refine at_aload_n 0 dX12_exchange_50 rfl ?_
        refine at_iload_n 1 dX12_exchange_51 rfl ?_
        obtain ⟨q6, hq6, h⟩ := sp_bind h
        refine at_callVi (st := []) hK mt_X12_exchangeOf ml_X12_340 cl_X12 hg_38 (t_X12_exchangeOf hK hq6) rfl rfl (Nat.le_of_ble_eq_true rfl) ⟨Nat.le_of_ble_eq_true rfl, Nat.le_of_ble_eq_true rfl⟩ ⟨Nat.le_refl _, Nat.le_refl _⟩ dX12_exchange_52 ?_
        refine at_goto 60 dX12_exchange_55 (by decide) ?_
        cases h; exact at_iret rfl (Nat.le_refl _) (Nat.le_refl _) ⟨rfl, rfl⟩ dX12_exchange_60
    · rw [if_neg c4] at h
      refine at_bipush (-3) dX12_exchange_30 bp_m3 ?_
      cases h; exact at_iret rfl (Nat.le_refl _) (Nat.le_refl _) ⟨rfl, rfl⟩ dX12_exchange_32
  · rw [if_neg c2] at h
    refine at_iconst (-1) dX12_exchange_13 ic_m1 ?_
    cases h; exact at_iret rfl (Nat.le_refl _) (Nat.le_refl _) ⟨rfl, rfl⟩ dX12_exchange_14
set_option maxRecDepth 100000 in
theorem t_X12_plays_78 {D : va_G} {b : Nat} {K : State → Heap → Prop} {sa : Nat → Nat} (hK : sx_Kk b K sa) (N : Nat) {k20 : Int32 → Int32 → Int32 → sx_C → sx_C → sx_C → sx_C → sx_C → Option (sx_C × sx_C × sx_C × sx_C × sx_C)} {uG uN uD uR uF uP uL uT uA uM uH xA xB xC xH xJ xK xL uO : sx_C} {G : sx_H} (res : sx_C × sx_C × sx_C × sx_C × sx_C) (hk20 : ∀ (v1 : Int32) (v2 : Int32) (v3 : Int32) (xD : sx_C) (xE : sx_C) (xF : sx_C) (xG : sx_C) (xI : sx_C), k20 v1 v2 v3 xD xE xF xG xI = some res → sx_At D b K YX12_plays (sx_rm 8) (sx_Ex none (sx_hp b uG uN uD uR uF uP uL uT uA uM uH xA xB xC (res.1) (res.2.1) (res.2.2.1) (res.2.2.2.1) xH (res.2.2.2.2) xJ xK xL uO G)) 20 [(0, .ref (b + 38)), (1, .int v1), (2, .int v2), (3, .int v3)] [] (sx_hp b uG uN uD uR uF uP uL uT uA uM uH xA xB xC xD xE xF xG xH xI xJ xK xL uO G) 0 0) : ∀ (v1 : Int32) (v2 : Int32) (v3 : Int32) (v4 : Int32) (xD : sx_C) (xE : sx_C) (xF : sx_C) (xG : sx_C) (xI : sx_C), f_X12_plays_78 N k20 xA v1 v2 v3 v4 xD xE xF xG xI = some res → sx_At D b K YX12_plays (sx_rm 8) (sx_Ex none (sx_hp b uG uN uD uR uF uP uL uT uA uM uH xA xB xC (res.1) (res.2.1) (res.2.2.1) (res.2.2.2.1) xH (res.2.2.2.2) xJ xK xL uO G)) 78 [(0, .ref (b + 38)), (1, .int v1), (2, .int v2), (3, .int v3), (4, .int v4)] [] (sx_hp b uG uN uD uR uF uP uL uT uA uM uH xA xB xC xD xE xF xG xH xI xJ xK xL uO G) 0 0 := by
  intro v1 v2 v3 v4 xD xE xF xG xI h
  rw [f_X12_plays_78] at h
  refine at_aload_n 0 dX12_plays_78 rfl ?_
  refine at_getf cl_X12 (by decide) fl_X12_53 hg_38 rfl dX12_plays_79 ?_
  refine at_aload_n 0 dX12_plays_82 rfl ?_
  refine at_getf cl_X12 (by decide) fl_X12_343 hg_38 rfl dX12_plays_83 ?_
  refine at_iload 4 dX12_plays_86 rfl ?_
  obtain ⟨hi8, h⟩ := sp_chk h
  refine at_iast hg_52 hi8 hs_52 dX12_plays_88 ?_
  refine at_aload_n 0 dX12_plays_89 rfl ?_
  refine at_dup dX12_plays_90 rfl ?_
  refine at_getf cl_X12 (by decide) fl_X12_343 hg_38 rfl dX12_plays_91 ?_
  refine at_iconst 1 dX12_plays_94 ic_1 ?_
  refine at_iadd dX12_plays_95 ?_
  refine at_putf cl_X12 (by decide) fl_X12_343 rfl hg_38 rfl rfl (Nat.le_of_ble_eq_true rfl) hs_38_47 dX12_plays_96 ?_
  refine at_iconst 1 dX12_plays_99 ic_1 ?_
  refine at_iload_n 3 dX12_plays_100 rfl ?_
  refine at_isub dX12_plays_101 ?_
  refine at_istore_n [(0, .ref (b + 38)), (1, .int v1), (2, .int v2), (3, .int (1 - v3)), (4, .int v4)] dX12_plays_102 (Nat.le_of_ble_eq_true rfl) rfl ?_
  refine at_goto 20 dX12_plays_103 (by decide) ?_
  refine at_sub [0, 1, 2, 3] [(0, .ref (b + 38)), (1, .int v1), (2, .int v2), (3, .int (1 - v3))] rfl ?_
  exact hk20 _ _ _ _ _ _ _ _ h
set_option maxRecDepth 100000 in
theorem t_X12_plays_57 {D : va_G} {b : Nat} {K : State → Heap → Prop} {sa : Nat → Nat} (hK : sx_Kk b K sa) (N : Nat) {k20 : Int32 → Int32 → Int32 → sx_C → sx_C → sx_C → sx_C → sx_C → Option (sx_C × sx_C × sx_C × sx_C × sx_C)} {uG uN uD uR uF uP uL uT uA uM uH xA xB xC xH xJ xK xL uO : sx_C} {G : sx_H} (res : sx_C × sx_C × sx_C × sx_C × sx_C) (hk20 : ∀ (v1 : Int32) (v2 : Int32) (v3 : Int32) (xD : sx_C) (xE : sx_C) (xF : sx_C) (xG : sx_C) (xI : sx_C), k20 v1 v2 v3 xD xE xF xG xI = some res → sx_At D b K YX12_plays (sx_rm 8) (sx_Ex none (sx_hp b uG uN uD uR uF uP uL uT uA uM uH xA xB xC (res.1) (res.2.1) (res.2.2.1) (res.2.2.2.1) xH (res.2.2.2.2) xJ xK xL uO G)) 20 [(0, .ref (b + 38)), (1, .int v1), (2, .int v2), (3, .int v3)] [] (sx_hp b uG uN uD uR uF uP uL uT uA uM uH xA xB xC xD xE xF xG xH xI xJ xK xL uO G) 0 0) : ∀ (v1 : Int32) (v2 : Int32) (v3 : Int32) (v4 : Int32) (xD : sx_C) (xE : sx_C) (xF : sx_C) (xG : sx_C) (xI : sx_C), f_X12_plays_57 N k20 xA v1 v2 v3 v4 xD xE xF xG xI = some res → sx_At D b K YX12_plays (sx_rm 8) (sx_Ex none (sx_hp b uG uN uD uR uF uP uL uT uA uM uH xA xB xC (res.1) (res.2.1) (res.2.2.1) (res.2.2.2.1) xH (res.2.2.2.2) xJ xK xL uO G)) 57 [(0, .ref (b + 38)), (1, .int v1), (2, .int v2), (3, .int v3), (4, .int v4)] [] (sx_hp b uG uN uD uR uF uP uL uT uA uM uH xA xB xC xD xE xF xG xH xI xJ xK xL uO G) 0 0 := by
  intro v1 v2 v3 v4 xD xE xF xG xI h
  rw [f_X12_plays_57] at h
  refine at_iload_n 3 dX12_plays_57 rfl ?_
  refine at_if_ne 71 dX12_plays_58 (by decide) (fun c7 => ?_) (fun c7 => ?_)
  · rw [if_neg c7] at h
    refine at_iload_n 2 dX12_plays_71 rfl ?_
    refine at_iconst 1 dX12_plays_72 ic_1 ?_
    refine at_iload 4 dX12_plays_73 rfl ?_
    refine at_ishl dX12_plays_75 ?_
    refine at_ior dX12_plays_76 ?_
    refine at_istore_n [(0, .ref (b + 38)), (1, .int v1), (2, .int (v2 ||| (sp_shl 1 v4))), (3, .int v3), (4, .int v4)] dX12_plays_77 (Nat.le_of_ble_eq_true rfl) rfl ?_
    exact t_X12_plays_78 hK N _ hk20 _ _ _ _ _ _ _ _ _ h
  · rw [if_pos c7] at h
    refine at_iload_n 1 dX12_plays_61 rfl ?_
    refine at_iconst 1 dX12_plays_62 ic_1 ?_
    refine at_iload 4 dX12_plays_63 rfl ?_
    refine at_ishl dX12_plays_65 ?_
    refine at_ior dX12_plays_66 ?_
    refine at_istore_n [(0, .ref (b + 38)), (1, .int (v1 ||| (sp_shl 1 v4))), (2, .int v2), (3, .int v3), (4, .int v4)] dX12_plays_67 (Nat.le_of_ble_eq_true rfl) rfl ?_
    refine at_goto 78 dX12_plays_68 (by decide) ?_
    exact t_X12_plays_78 hK N _ hk20 _ _ _ _ _ _ _ _ _ h
set_option maxRecDepth 100000 in
theorem t_X12_plays_20 {D : va_G} {b : Nat} {K : State → Heap → Prop} {sa : Nat → Nat} (hK : sx_Kk b K sa) (N : Nat) {uG uN uD uR uF uP uL uT uA uM uH xA xB xC xH xJ xK xL uO : sx_C} {G : sx_H} (res : sx_C × sx_C × sx_C × sx_C × sx_C) : ∀ (n0 : Nat) (v1 : Int32) (v2 : Int32) (v3 : Int32) (xD : sx_C) (xE : sx_C) (xF : sx_C) (xG : sx_C) (xI : sx_C), f_X12_plays_20 N xA n0 v1 v2 v3 xD xE xF xG xI = some res → sx_At D b K YX12_plays (sx_rm 8) (sx_Ex none (sx_hp b uG uN uD uR uF uP uL uT uA uM uH xA xB xC (res.1) (res.2.1) (res.2.2.1) (res.2.2.2.1) xH (res.2.2.2.2) xJ xK xL uO G)) 20 [(0, .ref (b + 38)), (1, .int v1), (2, .int v2), (3, .int v3)] [] (sx_hp b uG uN uD uR uF uP uL uT uA uM uH xA xB xC xD xE xF xG xH xI xJ xK xL uO G) 0 0 := by
  intro n0
  induction n0 with
  | zero => intro _ _ _ _ _ _ _ _ h; cases h
  | succ n0 ih =>
    intro v1 v2 v3 xD xE xF xG xI h
    rw [f_X12_plays_20] at h
    refine at_aload_n 0 dX12_plays_20 rfl ?_
    refine at_iload_n 1 dX12_plays_21 rfl ?_
    refine at_iload_n 2 dX12_plays_22 rfl ?_
    obtain ⟨q1, hq1, h⟩ := sp_bind h
    refine at_callVi (st := []) hK mt_X12_has ml_X12_301 cl_X12 hg_38 (t_X12_has hK hq1) rfl rfl (Nat.le_of_ble_eq_true rfl) ⟨Nat.le_of_ble_eq_true rfl, Nat.le_of_ble_eq_true rfl⟩ ⟨Nat.le_refl _, Nat.le_refl _⟩ dX12_plays_23 ?_
    refine at_iconst 2 dX12_plays_26 ic_2 ?_
    refine at_icmp_ne 106 dX12_plays_27 (by decide) (fun c2 => ?_) (fun c2 => ?_)
    · rw [if_neg c2] at h
      cases h; exact at_vret rfl (Nat.le_refl _) (Nat.le_refl _) ⟨rfl, rfl⟩ dX12_plays_106
    · rw [if_pos c2] at h
      refine at_aload_n 0 dX12_plays_30 rfl ?_
      refine at_iload_n 3 dX12_plays_31 rfl ?_
      refine at_iload_n 1 dX12_plays_32 rfl ?_
      refine at_iload_n 2 dX12_plays_33 rfl ?_
      refine at_iconst 0 dX12_plays_34 ic_0 ?_
      obtain ⟨q3, hq3, h⟩ := sp_bind h
      refine at_callVi (st := []) hK mt_X12_winAt ml_X12_333 cl_X12 hg_38 (t_X12_winAt hK hq3) rfl rfl (Nat.le_of_ble_eq_true rfl) ⟨Nat.le_of_ble_eq_true rfl, Nat.le_of_ble_eq_true rfl⟩ ⟨Nat.le_refl _, Nat.le_refl _⟩ dX12_plays_35 ?_
      refine at_istore [(0, .ref (b + 38)), (1, .int v1), (2, .int v2), (3, .int v3), (4, .int (q3.1))] dX12_plays_38 (Nat.le_of_ble_eq_true rfl) rfl ?_
      refine at_iload 4 dX12_plays_40 rfl ?_
      refine at_iconst (-1) dX12_plays_42 ic_m1 ?_
      refine at_icmp_ne 57 dX12_plays_43 (by decide) (fun c4 => ?_) (fun c4 => ?_)
      · rw [if_neg c4] at h
        exact t_X12_plays_57 hK N _ ih _ _ _ _ _ _ _ _ _ h
      · rw [if_pos c4] at h
        refine at_aload_n 0 dX12_plays_46 rfl ?_
        refine at_iload_n 1 dX12_plays_47 rfl ?_
        refine at_iload_n 2 dX12_plays_48 rfl ?_
        obtain ⟨q5, hq5, h⟩ := sp_bind h
        refine at_callVi (st := []) hK mt_X12_open ml_X12_226 cl_X12 hg_38 (t_X12_open hK hq5) rfl rfl (Nat.le_of_ble_eq_true rfl) ⟨Nat.le_of_ble_eq_true rfl, Nat.le_of_ble_eq_true rfl⟩ ⟨Nat.le_refl _, Nat.le_refl _⟩ dX12_plays_49 ?_
        obtain ⟨q6, hq6, h⟩ := sp_bind h
        refine at_callSi (st := []) hK mt_J6_numberOfTrailingZeros_0f7a4 ml_X12_295 (t_J6_numberOfTrailingZeros_0f7a4 hK hq6) rfl rfl (Nat.le_of_ble_eq_true rfl) ⟨Nat.le_of_ble_eq_true rfl, Nat.le_of_ble_eq_true rfl⟩ ⟨Nat.le_refl _, Nat.le_refl _⟩ dX12_plays_52 ?_
        refine at_istore [(0, .ref (b + 38)), (1, .int v1), (2, .int v2), (3, .int v3), (4, .int q6)] dX12_plays_55 (Nat.le_of_ble_eq_true rfl) rfl ?_
        exact t_X12_plays_57 hK N _ ih _ _ _ _ _ _ _ _ _ h
set_option maxRecDepth 100000 in
theorem t_X12_plays {D : va_G} {b : Nat} {K : State → Heap → Prop} {sa : Nat → Nat} (hK : sx_Kk b K sa) {N : Nat} {uG uN uD uR uF uP uL uT uA uM uH xA xB xC xH xJ xK xL uO : sx_C} {G : sx_H} {xD : sx_C} {xE : sx_C} {xF : sx_C} {xG : sx_C} {xI : sx_C} {res : sx_C × sx_C × sx_C × sx_C × sx_C} (h : f_X12_plays N xA xD xE xF xG xI = some res) : sx_Runs D b K yX12_plays YX12_plays (sx_rm 8) [.ref (b + 38)] (sx_hp b uG uN uD uR uF uP uL uT uA uM uH xA xB xC xD xE xF xG xH xI xJ xK xL uO G) (sx_Ex none (sx_hp b uG uN uD uR uF uP uL uT uA uM uH xA xB xC (res.1) (res.2.1) (res.2.2.1) (res.2.2.2.1) xH (res.2.2.2.2) xJ xK xL uO G)) := by
  rw [f_X12_plays] at h
  refine sx_run (by decide +kernel) rfl rfl (Nat.le_of_ble_eq_true rfl) ?_
  refine at_aload_n 0 dX12_plays_0 rfl ?_
  refine at_getf cl_X12 (by decide) fl_X12_201 hg_38 rfl dX12_plays_1 ?_
  refine at_istore_n [(0, .ref (b + 38)), (1, .int (gi xA 7))] dX12_plays_4 (Nat.le_of_ble_eq_true rfl) rfl ?_
  refine at_aload_n 0 dX12_plays_5 rfl ?_
  refine at_getf cl_X12 (by decide) fl_X12_204 hg_38 rfl dX12_plays_6 ?_
  refine at_istore_n [(0, .ref (b + 38)), (1, .int (gi xA 7)), (2, .int (gi xA 8))] dX12_plays_9 (Nat.le_of_ble_eq_true rfl) rfl ?_
  refine at_aload_n 0 dX12_plays_10 rfl ?_
  refine at_getf cl_X12 (by decide) fl_X12_70 hg_38 rfl dX12_plays_11 ?_
  refine at_istore_n [(0, .ref (b + 38)), (1, .int (gi xA 7)), (2, .int (gi xA 8)), (3, .int (gi xA 11))] dX12_plays_14 (Nat.le_of_ble_eq_true rfl) rfl ?_
  refine at_aload_n 0 dX12_plays_15 rfl ?_
  refine at_iconst 0 dX12_plays_16 ic_0 ?_
  refine at_putf cl_X12 (by decide) fl_X12_343 rfl hg_38 rfl rfl (Nat.le_of_ble_eq_true rfl) hs_38_47 dX12_plays_17 ?_
  exact t_X12_plays_20 hK N _ N _ _ _ _ _ _ _ _ h
set_option maxRecDepth 100000 in
theorem t_X12_played {D : va_G} {b : Nat} {K : State → Heap → Prop} {sa : Nat → Nat} (hK : sx_Kk b K sa) {N : Nat} {uG uN uD uR uF uP uL uT uA uM uH xA xC xH xJ xK xL uO : sx_C} {G : sx_H} {v1 : Int32} {xB : sx_C} {xD : sx_C} {xE : sx_C} {xF : sx_C} {xG : sx_C} {xI : sx_C} {res : Int32 × sx_C × sx_C × sx_C × sx_C × sx_C × sx_C} (h : f_X12_played N xA v1 xB xD xE xF xG xI = some res) : sx_Runs D b K yX12_played YX12_played (sx_rm 9) [.ref (b + 38), .int v1] (sx_hp b uG uN uD uR uF uP uL uT uA uM uH xA xB xC xD xE xF xG xH xI xJ xK xL uO G) (sx_Ex (some (.int res.1)) (sx_hp b uG uN uD uR uF uP uL uT uA uM uH xA (res.2.1) xC (res.2.2.1) (res.2.2.2.1) (res.2.2.2.2.1) (res.2.2.2.2.2.1) xH (res.2.2.2.2.2.2) xJ xK xL uO G)) := by
  rw [f_X12_played] at h
  refine sx_run (by decide +kernel) rfl rfl (Nat.le_of_ble_eq_true rfl) ?_
  refine at_aload_n 0 dX12_played_0 rfl ?_
  refine at_iconst 0 dX12_played_1 ic_0 ?_
  refine at_putf cl_X12 (by decide) fl_X12_73 rfl hg_38 rfl rfl (Nat.le_of_ble_eq_true rfl) hs_38_0 dX12_played_2 ?_
  refine at_iload_n 1 dX12_played_5 rfl ?_
  refine at_iconst (-1) dX12_played_6 ic_m1 ?_
  refine at_icmp_ge 13 dX12_played_7 (by decide) (fun c1 => ?_) (fun c1 => ?_)
  · rw [if_pos c1] at h
    refine at_aload_n 0 dX12_played_13 rfl ?_
    obtain ⟨q2, hq2, h⟩ := sp_bind h
    refine at_callVv (st := []) hK mt_X12_plays ml_X12_346 cl_X12 hg_38 (t_X12_plays hK hq2) rfl rfl (Nat.le_of_ble_eq_true rfl) ⟨Nat.le_of_ble_eq_true rfl, Nat.le_of_ble_eq_true rfl⟩ ⟨Nat.le_refl _, Nat.le_refl _⟩ dX12_played_14 ?_
    refine at_iload_n 1 dX12_played_17 rfl ?_
    refine at_iconst (-1) dX12_played_18 ic_m1 ?_
    refine at_icmp_ne 29 dX12_played_19 (by decide) (fun c3 => ?_) (fun c3 => ?_)
    · rw [if_neg c3] at h
      refine at_iload_n 1 dX12_played_29 rfl ?_
      refine at_aload_n 0 dX12_played_30 rfl ?_
      refine at_getf cl_X12 (by decide) fl_X12_343 hg_38 rfl dX12_played_31 ?_
      refine at_icmp_ge 46 dX12_played_34 (by decide) (fun c4 => ?_) (fun c4 => ?_)
      · rw [if_pos c4] at h
        refine at_bipush (-2) dX12_played_46 bp_m2 ?_
        cases h; exact at_iret rfl (Nat.le_refl _) (Nat.le_refl _) ⟨rfl, rfl⟩ dX12_played_48
      · rw [if_neg c4] at h
        refine at_aload_n 0 dX12_played_37 rfl ?_
        refine at_getf cl_X12 (by decide) fl_X12_53 hg_38 rfl dX12_played_38 ?_
        refine at_iload_n 1 dX12_played_41 rfl ?_
        obtain ⟨w5, hw5, h⟩ := sp_bind h
        refine at_iald hg_52 hw5 dX12_played_42 ?_
        refine at_goto 48 dX12_played_43 (by decide) ?_
        cases h; exact at_iret rfl (Nat.le_refl _) (Nat.le_refl _) ⟨rfl, rfl⟩ dX12_played_48
    · rw [if_pos c3] at h
      refine at_aload_n 0 dX12_played_22 rfl ?_
      refine at_getf cl_X12 (by decide) fl_X12_343 hg_38 rfl dX12_played_23 ?_
      refine at_goto 48 dX12_played_26 (by decide) ?_
      cases h; exact at_iret rfl (Nat.le_refl _) (Nat.le_refl _) ⟨rfl, rfl⟩ dX12_played_48
  · rw [if_neg c1] at h
    refine at_bipush (-3) dX12_played_10 bp_m3 ?_
    cases h; exact at_iret rfl (Nat.le_refl _) (Nat.le_refl _) ⟨rfl, rfl⟩ dX12_played_12
set_option maxRecDepth 100000 in
theorem t_X12_verifies_36 {D : va_G} {b : Nat} {K : State → Heap → Prop} {sa : Nat → Nat} (hK : sx_Kk b K sa) (N : Nat) {δ : Nat} {kR : Int32 → Int32 → sx_C → sx_C → sx_C → sx_C → sx_C → sx_C → Option (sx_C × sx_C × sx_C × sx_C × sx_C × sx_C)} {uG uN uD uR uF uP uL uT uA uM uH xA xB xC xI xK xL uO : sx_C} {G : sx_H} (res : sx_C × sx_C × sx_C × sx_C × sx_C × sx_C) (hR : ∀ (v1 : Int32) (v2 : Int32) (xD : sx_C) (xE : sx_C) (xF : sx_C) (xG : sx_C) (xH : sx_C) (xJ : sx_C) (res : sx_C × sx_C × sx_C × sx_C × sx_C × sx_C), kR v1 v2 xD xE xF xG xH xJ = some res → sx_Runs D b K yX12_verifies YX12_verifies (sx_rm (6 + δ)) [.ref (b + 38), .int v1, .int v2] (sx_hp b uG uN uD uR uF uP uL uT uA uM uH xA xB xC xD xE xF xG xH xI xJ xK xL uO G) (sx_Ex none (sx_hp b uG uN uD uR uF uP uL uT uA uM uH xA xB xC (res.1) (res.2.1) (res.2.2.1) (res.2.2.2.1) (res.2.2.2.2.1) xI (res.2.2.2.2.2) xK xL uO G))) : ∀ (s1 : Int32) (s2 : Int32) (xD : sx_C) (xE : sx_C) (xF : sx_C) (xG : sx_C) (xH : sx_C) (xJ : sx_C), f_X12_verifies_36 N kR xA s1 s2 xD xE xF xG xH xJ = some res → sx_At D b K YX12_verifies (sx_rm (6 + δ + 1)) (sx_Ex none (sx_hp b uG uN uD uR uF uP uL uT uA uM uH xA xB xC (res.1) (res.2.1) (res.2.2.1) (res.2.2.2.1) (res.2.2.2.2.1) xI (res.2.2.2.2.2) xK xL uO G)) 36 [] [.int s2, .int s1, .ref (b + 38)] (sx_hp b uG uN uD uR uF uP uL uT uA uM uH xA xB xC xD xE xF xG xH xI xJ xK xL uO G) 0 0 := by
  intro s1 s2 xD xE xF xG xH xJ h
  rw [f_X12_verifies_36] at h
  refine at_iadd dX12_verifies_36 ?_
  refine at_putf cl_X12 (by decide) fl_X12_352 rfl hg_38 rfl rfl (Nat.le_of_ble_eq_true rfl) hs_38_49 dX12_verifies_37 ?_
  cases h; exact at_vret rfl (Nat.le_refl _) (Nat.le_refl _) ⟨rfl, rfl⟩ dX12_verifies_40
set_option maxRecDepth 100000 in
theorem t_X12_verifies_105 {D : va_G} {b : Nat} {K : State → Heap → Prop} {sa : Nat → Nat} (hK : sx_Kk b K sa) (N : Nat) {δ : Nat} {kR : Int32 → Int32 → sx_C → sx_C → sx_C → sx_C → sx_C → sx_C → Option (sx_C × sx_C × sx_C × sx_C × sx_C × sx_C)} {k52 : Int32 → Int32 → Int32 → Int32 → sx_C → sx_C → sx_C → sx_C → sx_C → sx_C → Option (sx_C × sx_C × sx_C × sx_C × sx_C × sx_C)} {uG uN uD uR uF uP uL uT uA uM uH xA xB xC xI xK xL uO : sx_C} {G : sx_H} (res : sx_C × sx_C × sx_C × sx_C × sx_C × sx_C) (hR : ∀ (v1 : Int32) (v2 : Int32) (xD : sx_C) (xE : sx_C) (xF : sx_C) (xG : sx_C) (xH : sx_C) (xJ : sx_C) (res : sx_C × sx_C × sx_C × sx_C × sx_C × sx_C), kR v1 v2 xD xE xF xG xH xJ = some res → sx_Runs D b K yX12_verifies YX12_verifies (sx_rm (6 + δ)) [.ref (b + 38), .int v1, .int v2] (sx_hp b uG uN uD uR uF uP uL uT uA uM uH xA xB xC xD xE xF xG xH xI xJ xK xL uO G) (sx_Ex none (sx_hp b uG uN uD uR uF uP uL uT uA uM uH xA xB xC (res.1) (res.2.1) (res.2.2.1) (res.2.2.2.1) (res.2.2.2.2.1) xI (res.2.2.2.2.2) xK xL uO G))) (hk52 : ∀ (v1 : Int32) (v2 : Int32) (v4 : Int32) (v5 : Int32) (xD : sx_C) (xE : sx_C) (xF : sx_C) (xG : sx_C) (xH : sx_C) (xJ : sx_C), k52 v1 v2 v4 v5 xD xE xF xG xH xJ = some res → sx_At D b K YX12_verifies (sx_rm (6 + δ + 1)) (sx_Ex none (sx_hp b uG uN uD uR uF uP uL uT uA uM uH xA xB xC (res.1) (res.2.1) (res.2.2.1) (res.2.2.2.1) (res.2.2.2.2.1) xI (res.2.2.2.2.2) xK xL uO G)) 52 [(0, .ref (b + 38)), (1, .int v1), (2, .int v2), (4, .int v4), (5, .int v5)] [] (sx_hp b uG uN uD uR uF uP uL uT uA uM uH xA xB xC xD xE xF xG xH xI xJ xK xL uO G) 0 0) : ∀ (v1 : Int32) (v2 : Int32) (v4 : Int32) (v5 : Int32) (xD : sx_C) (xE : sx_C) (xF : sx_C) (xG : sx_C) (xH : sx_C) (xJ : sx_C), f_X12_verifies_105 N kR k52 xA v1 v2 v4 v5 xD xE xF xG xH xJ = some res → sx_At D b K YX12_verifies (sx_rm (6 + δ + 1)) (sx_Ex none (sx_hp b uG uN uD uR uF uP uL uT uA uM uH xA xB xC (res.1) (res.2.1) (res.2.2.1) (res.2.2.2.1) (res.2.2.2.2.1) xI (res.2.2.2.2.2) xK xL uO G)) 105 [(0, .ref (b + 38)), (1, .int v1), (2, .int v2), (4, .int v4), (5, .int v5)] [] (sx_hp b uG uN uD uR uF uP uL uT uA uM uH xA xB xC xD xE xF xG xH xI xJ xK xL uO G) 0 0 := by
  intro v1 v2 v4 v5 xD xE xF xG xH xJ h
  rw [f_X12_verifies_105] at h
  refine at_iinc 4 1 [(0, .ref (b + 38)), (1, .int v1), (2, .int v2), (4, .int v4), (5, .int (v5 + 1))] dX12_verifies_105 rfl ic_1 (Nat.le_of_ble_eq_true rfl) rfl ?_
  refine at_goto 52 dX12_verifies_108 (by decide) ?_
  exact hk52 _ _ _ _ _ _ _ _ _ _ h
set_option maxRecDepth 100000 in
theorem t_X12_verifies_52 {D : va_G} {b : Nat} {K : State → Heap → Prop} {sa : Nat → Nat} (hK : sx_Kk b K sa) (N : Nat) {δ : Nat} {kR : Int32 → Int32 → sx_C → sx_C → sx_C → sx_C → sx_C → sx_C → Option (sx_C × sx_C × sx_C × sx_C × sx_C × sx_C)} {uG uN uD uR uF uP uL uT uA uM uH xA xB xC xI xK xL uO : sx_C} {G : sx_H} (res : sx_C × sx_C × sx_C × sx_C × sx_C × sx_C) (hR : ∀ (v1 : Int32) (v2 : Int32) (xD : sx_C) (xE : sx_C) (xF : sx_C) (xG : sx_C) (xH : sx_C) (xJ : sx_C) (res : sx_C × sx_C × sx_C × sx_C × sx_C × sx_C), kR v1 v2 xD xE xF xG xH xJ = some res → sx_Runs D b K yX12_verifies YX12_verifies (sx_rm (6 + δ)) [.ref (b + 38), .int v1, .int v2] (sx_hp b uG uN uD uR uF uP uL uT uA uM uH xA xB xC xD xE xF xG xH xI xJ xK xL uO G) (sx_Ex none (sx_hp b uG uN uD uR uF uP uL uT uA uM uH xA xB xC (res.1) (res.2.1) (res.2.2.1) (res.2.2.2.1) (res.2.2.2.2.1) xI (res.2.2.2.2.2) xK xL uO G))) : ∀ (n0 : Nat) (v1 : Int32) (v2 : Int32) (v4 : Int32) (v5 : Int32) (xD : sx_C) (xE : sx_C) (xF : sx_C) (xG : sx_C) (xH : sx_C) (xJ : sx_C), f_X12_verifies_52 N kR xA n0 v1 v2 v4 v5 xD xE xF xG xH xJ = some res → sx_At D b K YX12_verifies (sx_rm (6 + δ + 1)) (sx_Ex none (sx_hp b uG uN uD uR uF uP uL uT uA uM uH xA xB xC (res.1) (res.2.1) (res.2.2.1) (res.2.2.2.1) (res.2.2.2.2.1) xI (res.2.2.2.2.2) xK xL uO G)) 52 [(0, .ref (b + 38)), (1, .int v1), (2, .int v2), (4, .int v4), (5, .int v5)] [] (sx_hp b uG uN uD uR uF uP uL uT uA uM uH xA xB xC xD xE xF xG xH xI xJ xK xL uO G) 0 0 := by
  intro n0
  induction n0 with
  | zero => intro _ _ _ _ _ _ _ _ _ _ h; cases h
  | succ n0 ih =>
    intro v1 v2 v4 v5 xD xE xF xG xH xJ h
    rw [f_X12_verifies_52] at h
    refine at_iload 4 dX12_verifies_52 rfl ?_
    refine at_aload_n 0 dX12_verifies_54 rfl ?_
    refine at_getf cl_X12 (by decide) fl_X12_198 hg_38 rfl dX12_verifies_55 ?_
    refine at_icmp_ge 111 dX12_verifies_58 (by decide) (fun c1 => ?_) (fun c1 => ?_)
    · rw [if_pos c1] at h
      cases h; exact at_vret rfl (Nat.le_refl _) (Nat.le_refl _) ⟨rfl, rfl⟩ dX12_verifies_111
    · rw [if_neg c1] at h
      refine at_iload 3 dX12_verifies_61 rfl ?_
      refine at_iload 4 dX12_verifies_63 rfl ?_
      refine at_ishr dX12_verifies_65 ?_
      refine at_iconst 1 dX12_verifies_66 ic_1 ?_
      refine at_iand dX12_verifies_67 ?_
      refine at_if_ne 74 dX12_verifies_68 (by decide) (fun c2 => ?_) (fun c2 => ?_)
      · rw [if_neg c2] at h
        refine at_aload_n 0 dX12_verifies_74 rfl ?_
        refine at_iload_n 1 dX12_verifies_75 rfl ?_
        refine at_iload_n 2 dX12_verifies_76 rfl ?_
        obtain ⟨q3, hq3, h⟩ := sp_bind h
        refine at_callVi (st := []) hK mt_X12_laysPair ml_X12_323 cl_X12 hg_38 (t_X12_laysPair hK hq3) rfl rfl (Nat.le_of_ble_eq_true rfl) ⟨(by show 5 + 1 ≤ 6 + δ + 1; omega), (by show 8 + (6 + 11) + 100 * 5 ≤ 100 * (6 + δ + 1); omega)⟩ ⟨Nat.le_refl _, Nat.le_refl _⟩ dX12_verifies_77 ?_
        refine at_pop dX12_verifies_80 rfl ?_
        refine at_aload_n 0 dX12_verifies_81 rfl ?_
        refine at_iload 4 dX12_verifies_82 rfl ?_
        obtain ⟨q4, hq4, h⟩ := sp_bind h
        refine at_callVi (st := []) hK mt_X12_answerOf ml_X12_337 cl_X12 hg_38 (t_X12_answerOf hK hq4) rfl rfl (Nat.le_of_ble_eq_true rfl) ⟨(by show 1 + 1 ≤ 6 + δ + 1; omega), (by show 8 + (7 + 11) + 100 * 1 ≤ 100 * (6 + δ + 1); omega)⟩ ⟨Nat.le_refl _, Nat.le_refl _⟩ dX12_verifies_84 ?_
        refine at_istore [(0, .ref (b + 38)), (1, .int v1), (2, .int v2), (4, .int v4), (5, .int v5), (6, .int (q4.1))] dX12_verifies_87 (Nat.le_of_ble_eq_true rfl) rfl ?_
        refine at_aload_n 0 dX12_verifies_89 rfl ?_
        refine at_iload_n 1 dX12_verifies_90 rfl ?_
        refine at_iconst 1 dX12_verifies_91 ic_1 ?_
        refine at_iload 5 dX12_verifies_92 rfl ?_
        refine at_ishl dX12_verifies_94 ?_
        refine at_ior dX12_verifies_95 ?_
        refine at_iload_n 2 dX12_verifies_96 rfl ?_
        refine at_iconst 1 dX12_verifies_97 ic_1 ?_
        refine at_iload 4 dX12_verifies_98 rfl ?_
        refine at_ishl dX12_verifies_100 ?_
        refine at_ior dX12_verifies_101 ?_
        obtain ⟨q5, hq5, h⟩ := sp_bind h
        refine at_callVv (st := []) hK mt_X12_verifies ml_X12_355 cl_X12 hg_38 (hR _ _ _ _ _ _ _ _ _ hq5) rfl rfl (Nat.le_of_ble_eq_true rfl) ⟨(by show (6 + δ) + 1 ≤ 6 + δ + 1; omega), (by show 8 + (7 + 11) + 100 * (6 + δ) ≤ 100 * (6 + δ + 1); omega)⟩ ⟨Nat.le_refl _, Nat.le_refl _⟩ dX12_verifies_102 ?_
        refine at_sub [0, 1, 2, 3, 4] [(0, .ref (b + 38)), (1, .int v1), (2, .int v2), (4, .int v4), (5, .int v5)] rfl ?_
        exact t_X12_verifies_105 hK N _ hR ih _ _ _ _ _ _ _ _ _ _ h
      · rw [if_pos c2] at h
        refine at_goto 105 dX12_verifies_71 (by decide) ?_
        exact t_X12_verifies_105 hK N _ hR ih _ _ _ _ _ _ _ _ _ _ h
set_option maxRecDepth 100000 in
theorem t_X12_verifies_rec {D : va_G} {b : Nat} {K : State → Heap → Prop} {sa : Nat → Nat} (hK : sx_Kk b K sa) {N : Nat} {uG uN uD uR uF uP uL uT uA uM uH xA xB xC xI xK xL uO : sx_C} {G : sx_H} : ∀ (δ : Nat), ∀ (v1 : Int32) (v2 : Int32) (xD : sx_C) (xE : sx_C) (xF : sx_C) (xG : sx_C) (xH : sx_C) (xJ : sx_C) (res : sx_C × sx_C × sx_C × sx_C × sx_C × sx_C), f_X12_verifies N xA δ v1 v2 xD xE xF xG xH xJ = some res → sx_Runs D b K yX12_verifies YX12_verifies (sx_rm (6 + δ)) [.ref (b + 38), .int v1, .int v2] (sx_hp b uG uN uD uR uF uP uL uT uA uM uH xA xB xC xD xE xF xG xH xI xJ xK xL uO G) (sx_Ex none (sx_hp b uG uN uD uR uF uP uL uT uA uM uH xA xB xC (res.1) (res.2.1) (res.2.2.1) (res.2.2.2.1) (res.2.2.2.2.1) xI (res.2.2.2.2.2) xK xL uO G)) := by
  intro δ
  induction δ with
  | zero => intro _ _ _ _ _ _ _ _ _ h; cases h
  | succ δ ihR =>
    intro v1 v2 xD xE xF xG xH xJ res h
    have hR := ihR
    rw [f_X12_verifies] at h
    refine sx_run (by decide +kernel) rfl rfl (Nat.le_of_ble_eq_true rfl) ?_
    refine at_aload_n 0 dX12_verifies_0 rfl ?_
    refine at_iload_n 1 dX12_verifies_1 rfl ?_
    refine at_iload_n 2 dX12_verifies_2 rfl ?_
    obtain ⟨q6, hq6, h⟩ := sp_bind h
    refine at_callVi (st := []) hK mt_X12_has ml_X12_301 cl_X12 hg_38 (t_X12_has hK hq6) rfl rfl (Nat.le_of_ble_eq_true rfl) ⟨(by show 3 + 1 ≤ 6 + δ + 1; omega), (by show 8 + (3 + 11) + 100 * 3 ≤ 100 * (6 + δ + 1); omega)⟩ ⟨Nat.le_refl _, Nat.le_refl _⟩ dX12_verifies_3 ?_
    refine at_istore_n [(0, .ref (b + 38)), (1, .int v1), (2, .int v2), (3, .int (q6.1))] dX12_verifies_6 (Nat.le_of_ble_eq_true rfl) rfl ?_
    refine at_iload_n 3 dX12_verifies_7 rfl ?_
    refine at_iconst 2 dX12_verifies_8 ic_2 ?_
    refine at_icmp_eq 41 dX12_verifies_9 (by decide) (fun c7 => ?_) (fun c7 => ?_)
    · rw [if_pos c7] at h
      refine at_aload_n 0 dX12_verifies_41 rfl ?_
      refine at_iload_n 1 dX12_verifies_42 rfl ?_
      refine at_iload_n 2 dX12_verifies_43 rfl ?_
      obtain ⟨q8, hq8, h⟩ := sp_bind h
      refine at_callVi (st := []) hK mt_X12_open ml_X12_226 cl_X12 hg_38 (t_X12_open hK hq8) rfl rfl (Nat.le_of_ble_eq_true rfl) ⟨(by show 1 + 1 ≤ 6 + δ + 1; omega), (by show 8 + (3 + 11) + 100 * 1 ≤ 100 * (6 + δ + 1); omega)⟩ ⟨Nat.le_refl _, Nat.le_refl _⟩ dX12_verifies_44 ?_
      refine at_istore [(0, .ref (b + 38)), (1, .int v1), (2, .int v2), (3, .int (q6.1)), (4, .int q8)] dX12_verifies_47 (Nat.le_of_ble_eq_true rfl) rfl ?_
      refine at_iconst 0 dX12_verifies_49 ic_0 ?_
      refine at_istore [(0, .ref (b + 38)), (1, .int v1), (2, .int v2), (3, .int (q6.1)), (4, .int q8), (5, .int 0)] dX12_verifies_50 (Nat.le_of_ble_eq_true rfl) rfl ?_
      refine at_sub [0, 1, 2, 4, 5] [(0, .ref (b + 38)), (1, .int v1), (2, .int v2), (4, .int q8), (5, .int 0)] rfl ?_
      exact t_X12_verifies_52 hK N _ hR N _ _ _ _ _ _ _ _ _ _ h
    · rw [if_neg c7] at h
      refine at_aload_n 0 dX12_verifies_12 rfl ?_
      refine at_dup dX12_verifies_13 rfl ?_
      refine at_getf cl_X12 (by decide) fl_X12_349 hg_38 rfl dX12_verifies_14 ?_
      refine at_iconst 1 dX12_verifies_17 ic_1 ?_
      refine at_iadd dX12_verifies_18 ?_
      refine at_putf cl_X12 (by decide) fl_X12_349 rfl hg_38 rfl rfl (Nat.le_of_ble_eq_true rfl) hs_38_48 dX12_verifies_19 ?_
      refine at_aload_n 0 dX12_verifies_22 rfl ?_
      refine at_dup dX12_verifies_23 rfl ?_
      refine at_getf cl_X12 (by decide) fl_X12_352 hg_38 rfl dX12_verifies_24 ?_
      refine at_iload_n 3 dX12_verifies_27 rfl ?_
      refine at_if_ne 35 dX12_verifies_28 (by decide) (fun c9 => ?_) (fun c9 => ?_)
      · rw [if_neg c9] at h
        refine at_iconst 0 dX12_verifies_35 ic_0 ?_
        refine at_sub [] [] rfl ?_
        exact t_X12_verifies_36 hK N _ hR _ _ _ _ _ _ _ _ h
      · rw [if_pos c9] at h
        refine at_iconst 1 dX12_verifies_31 ic_1 ?_
        refine at_goto 36 dX12_verifies_32 (by decide) ?_
        refine at_sub [] [] rfl ?_
        exact t_X12_verifies_36 hK N _ hR _ _ _ _ _ _ _ _ h
theorem t_X12_verifies {D : va_G} {b : Nat} {K : State → Heap → Prop} {sa : Nat → Nat} (hK : sx_Kk b K sa) {N : Nat} {uG uN uD uR uF uP uL uT uA uM uH xA xB xC xI xK xL uO : sx_C} {G : sx_H} {v1 : Int32} {v2 : Int32} {xD : sx_C} {xE : sx_C} {xF : sx_C} {xG : sx_C} {xH : sx_C} {xJ : sx_C} {δ : Nat} {res : sx_C × sx_C × sx_C × sx_C × sx_C × sx_C} (h : f_X12_verifies N xA δ v1 v2 xD xE xF xG xH xJ = some res) : sx_Runs D b K yX12_verifies YX12_verifies (sx_rm (6 + δ)) [.ref (b + 38), .int v1, .int v2] (sx_hp b uG uN uD uR uF uP uL uT uA uM uH xA xB xC xD xE xF xG xH xI xJ xK xL uO G) (sx_Ex none (sx_hp b uG uN uD uR uF uP uL uT uA uM uH xA xB xC (res.1) (res.2.1) (res.2.2.1) (res.2.2.2.1) (res.2.2.2.2.1) xI (res.2.2.2.2.2) xK xL uO G)) := t_X12_verifies_rec hK δ _ _ _ _ _ _ _ _ _ h
set_option maxRecDepth 100000 in
theorem t_X12_verified {D : va_G} {b : Nat} {K : State → Heap → Prop} {sa : Nat → Nat} (hK : sx_Kk b K sa) {N : Nat} {uG uN uD uR uF uP uL uT uA uM uH xA xC xI xK xL uO : sx_C} {G : sx_H} {v1 : Int32} {xB : sx_C} {xD : sx_C} {xE : sx_C} {xF : sx_C} {xG : sx_C} {xH : sx_C} {xJ : sx_C} {res : Int32 × sx_C × sx_C × sx_C × sx_C × sx_C × sx_C × sx_C} (h : f_X12_verified N xA v1 xB xD xE xF xG xH xJ = some res) : sx_Runs D b K yX12_verified YX12_verified (sx_rm 47) [.ref (b + 38), .int v1] (sx_hp b uG uN uD uR uF uP uL uT uA uM uH xA xB xC xD xE xF xG xH xI xJ xK xL uO G) (sx_Ex (some (.int res.1)) (sx_hp b uG uN uD uR uF uP uL uT uA uM uH xA (res.2.1) xC (res.2.2.1) (res.2.2.2.1) (res.2.2.2.2.1) (res.2.2.2.2.2.1) (res.2.2.2.2.2.2.1) xI (res.2.2.2.2.2.2.2) xK xL uO G)) := by
  rw [f_X12_verified] at h
  refine sx_run (by decide +kernel) rfl rfl (Nat.le_of_ble_eq_true rfl) ?_
  refine at_aload_n 0 dX12_verified_0 rfl ?_
  refine at_iconst 0 dX12_verified_1 ic_0 ?_
  refine at_putf cl_X12 (by decide) fl_X12_73 rfl hg_38 rfl rfl (Nat.le_of_ble_eq_true rfl) hs_38_0 dX12_verified_2 ?_
  refine at_iload_n 1 dX12_verified_5 rfl ?_
  refine at_if_lt 14 dX12_verified_6 (by decide) (fun c1 => ?_) (fun c1 => ?_)
  · rw [if_pos c1] at h
    refine at_iconst (-1) dX12_verified_14 ic_m1 ?_
    cases h; exact at_iret rfl (Nat.le_refl _) (Nat.le_refl _) ⟨rfl, rfl⟩ dX12_verified_15
  · rw [if_neg c1] at h
    refine at_iload_n 1 dX12_verified_9 rfl ?_
    refine at_iconst 1 dX12_verified_10 ic_1 ?_
    refine at_icmp_le 16 dX12_verified_11 (by decide) (fun c2 => ?_) (fun c2 => ?_)
    · rw [if_pos c2] at h
      refine at_aload_n 0 dX12_verified_16 rfl ?_
      obtain ⟨q3, hq3, h⟩ := sp_bind h
      refine at_callVi (st := []) hK mt_X12_openNow ml_X12_298 cl_X12 hg_38 (t_X12_openNow hK hq3) rfl rfl (Nat.le_of_ble_eq_true rfl) ⟨Nat.le_of_ble_eq_true rfl, Nat.le_of_ble_eq_true rfl⟩ ⟨Nat.le_refl _, Nat.le_refl _⟩ dX12_verified_17 ?_
      obtain ⟨q4, hq4, h⟩ := sp_bind h
      refine at_callSi (st := []) hK mt_X12_bits ml_X12_250 (t_X12_bits hK hq4) rfl rfl (Nat.le_of_ble_eq_true rfl) ⟨Nat.le_of_ble_eq_true rfl, Nat.le_of_ble_eq_true rfl⟩ ⟨Nat.le_refl _, Nat.le_refl _⟩ dX12_verified_20 ?_
      refine at_bipush 10 dX12_verified_23 bp_10 ?_
      refine at_icmp_gt 43 dX12_verified_25 (by decide) (fun c5 => ?_) (fun c5 => ?_)
      · rw [if_pos c5] at h
        refine at_bipush (-2) dX12_verified_43 bp_m2 ?_
        cases h; exact at_iret rfl (Nat.le_refl _) (Nat.le_refl _) ⟨rfl, rfl⟩ dX12_verified_45
      · rw [if_neg c5] at h
        refine at_aload_n 0 dX12_verified_28 rfl ?_
        refine at_aload_n 0 dX12_verified_29 rfl ?_
        refine at_getf cl_X12 (by decide) fl_X12_201 hg_38 rfl dX12_verified_30 ?_
        refine at_aload_n 0 dX12_verified_33 rfl ?_
        refine at_getf cl_X12 (by decide) fl_X12_204 hg_38 rfl dX12_verified_34 ?_
        obtain ⟨q6, hq6, h⟩ := sp_bind h
        refine at_callVi (st := []) hK mt_X12_laysPair ml_X12_323 cl_X12 hg_38 (t_X12_laysPair hK hq6) rfl rfl (Nat.le_of_ble_eq_true rfl) ⟨Nat.le_of_ble_eq_true rfl, Nat.le_of_ble_eq_true rfl⟩ ⟨Nat.le_refl _, Nat.le_refl _⟩ dX12_verified_37 ?_
        refine at_zne 46 dX12_verified_40 (by decide) (fun c7 => ?_) (fun c7 => ?_)
        · rw [if_pos c7] at h
          refine at_aload_n 0 dX12_verified_46 rfl ?_
          refine at_iconst 0 dX12_verified_47 ic_0 ?_
          refine at_putf cl_X12 (by decide) fl_X12_349 rfl hg_38 rfl rfl (Nat.le_of_ble_eq_true rfl) hs_38_48 dX12_verified_48 ?_
          refine at_aload_n 0 dX12_verified_51 rfl ?_
          refine at_iconst 0 dX12_verified_52 ic_0 ?_
          refine at_putf cl_X12 (by decide) fl_X12_352 rfl hg_38 rfl rfl (Nat.le_of_ble_eq_true rfl) hs_38_49 dX12_verified_53 ?_
          refine at_aload_n 0 dX12_verified_56 rfl ?_
          refine at_aload_n 0 dX12_verified_57 rfl ?_
          refine at_getf cl_X12 (by decide) fl_X12_201 hg_38 rfl dX12_verified_58 ?_
          refine at_aload_n 0 dX12_verified_61 rfl ?_
          refine at_getf cl_X12 (by decide) fl_X12_204 hg_38 rfl dX12_verified_62 ?_
          obtain ⟨q8, hq8, h⟩ := sp_bind h
          refine at_callVv (st := []) hK mt_X12_verifies ml_X12_355 cl_X12 hg_38 (t_X12_verifies hK hq8) rfl rfl (Nat.le_of_ble_eq_true rfl) ⟨Nat.le_of_ble_eq_true rfl, Nat.le_of_ble_eq_true rfl⟩ ⟨Nat.le_refl _, Nat.le_refl _⟩ dX12_verified_65 ?_
          refine at_iload_n 1 dX12_verified_68 rfl ?_
          refine at_if_ne 79 dX12_verified_69 (by decide) (fun c9 => ?_) (fun c9 => ?_)
          · rw [if_neg c9] at h
            refine at_aload_n 0 dX12_verified_79 rfl ?_
            refine at_getf cl_X12 (by decide) fl_X12_352 hg_38 rfl dX12_verified_80 ?_
            cases h; exact at_iret rfl (Nat.le_refl _) (Nat.le_refl _) ⟨rfl, rfl⟩ dX12_verified_83
          · rw [if_pos c9] at h
            refine at_aload_n 0 dX12_verified_72 rfl ?_
            refine at_getf cl_X12 (by decide) fl_X12_349 hg_38 rfl dX12_verified_73 ?_
            refine at_goto 83 dX12_verified_76 (by decide) ?_
            cases h; exact at_iret rfl (Nat.le_refl _) (Nat.le_refl _) ⟨rfl, rfl⟩ dX12_verified_83
        · rw [if_neg c7] at h
          refine at_bipush (-2) dX12_verified_43 bp_m2 ?_
          cases h; exact at_iret rfl (Nat.le_refl _) (Nat.le_refl _) ⟨rfl, rfl⟩ dX12_verified_45
    · rw [if_neg c2] at h
      refine at_iconst (-1) dX12_verified_14 ic_m1 ?_
      cases h; exact at_iret rfl (Nat.le_refl _) (Nat.le_refl _) ⟨rfl, rfl⟩ dX12_verified_15
set_option maxRecDepth 100000 in
theorem t_X12_cutBy_46 {D : va_G} {b : Nat} {K : State → Heap → Prop} {sa : Nat → Nat} (hK : sx_Kk b K sa) (N : Nat) {k10 : Int32 → Int32 → Int32 → Int32 → sx_C → sx_C → sx_C → sx_C → Option (Int32 × sx_C × sx_C × sx_C × sx_C)} {uG uN uD uR uF uP uL uT uA uM uH xA xB xC xH xI xJ xK xL uO : sx_C} {G : sx_H} (res : Int32 × sx_C × sx_C × sx_C × sx_C) (hk10 : ∀ (v1 : Int32) (v2 : Int32) (v3 : Int32) (v4 : Int32) (xD : sx_C) (xE : sx_C) (xF : sx_C) (xG : sx_C), k10 v1 v2 v3 v4 xD xE xF xG = some res → sx_At D b K YX12_cutBy (sx_rm 6) (sx_Ex (some (.int res.1)) (sx_hp b uG uN uD uR uF uP uL uT uA uM uH xA xB xC (res.2.1) (res.2.2.1) (res.2.2.2.1) (res.2.2.2.2) xH xI xJ xK xL uO G)) 10 [(0, .ref (b + 38)), (1, .int v1), (2, .int v2), (3, .int v3), (4, .int v4)] [] (sx_hp b uG uN uD uR uF uP uL uT uA uM uH xA xB xC xD xE xF xG xH xI xJ xK xL uO G) 0 0) : ∀ (v1 : Int32) (v2 : Int32) (v3 : Int32) (v4 : Int32) (xD : sx_C) (xE : sx_C) (xF : sx_C) (xG : sx_C), f_X12_cutBy_46 N k10 xA v1 v2 v3 v4 xD xE xF xG = some res → sx_At D b K YX12_cutBy (sx_rm 6) (sx_Ex (some (.int res.1)) (sx_hp b uG uN uD uR uF uP uL uT uA uM uH xA xB xC (res.2.1) (res.2.2.1) (res.2.2.2.1) (res.2.2.2.2) xH xI xJ xK xL uO G)) 46 [(0, .ref (b + 38)), (1, .int v1), (2, .int v2), (3, .int v3), (4, .int v4)] [] (sx_hp b uG uN uD uR uF uP uL uT uA uM uH xA xB xC xD xE xF xG xH xI xJ xK xL uO G) 0 0 := by
  intro v1 v2 v3 v4 xD xE xF xG h
  rw [f_X12_cutBy_46] at h
  refine at_iinc 4 1 [(0, .ref (b + 38)), (1, .int v1), (2, .int v2), (3, .int v3), (4, .int (v4 + 1))] dX12_cutBy_46 rfl ic_1 (Nat.le_of_ble_eq_true rfl) rfl ?_
  refine at_goto 10 dX12_cutBy_49 (by decide) ?_
  exact hk10 _ _ _ _ _ _ _ _ h
set_option maxRecDepth 100000 in
theorem t_X12_cutBy_10 {D : va_G} {b : Nat} {K : State → Heap → Prop} {sa : Nat → Nat} (hK : sx_Kk b K sa) (N : Nat) {uG uN uD uR uF uP uL uT uA uM uH xA xB xC xH xI xJ xK xL uO : sx_C} {G : sx_H} (res : Int32 × sx_C × sx_C × sx_C × sx_C) : ∀ (n0 : Nat) (v1 : Int32) (v2 : Int32) (v3 : Int32) (v4 : Int32) (xD : sx_C) (xE : sx_C) (xF : sx_C) (xG : sx_C), f_X12_cutBy_10 N xA n0 v1 v2 v3 v4 xD xE xF xG = some res → sx_At D b K YX12_cutBy (sx_rm 6) (sx_Ex (some (.int res.1)) (sx_hp b uG uN uD uR uF uP uL uT uA uM uH xA xB xC (res.2.1) (res.2.2.1) (res.2.2.2.1) (res.2.2.2.2) xH xI xJ xK xL uO G)) 10 [(0, .ref (b + 38)), (1, .int v1), (2, .int v2), (3, .int v3), (4, .int v4)] [] (sx_hp b uG uN uD uR uF uP uL uT uA uM uH xA xB xC xD xE xF xG xH xI xJ xK xL uO G) 0 0 := by
  intro n0
  induction n0 with
  | zero => intro _ _ _ _ _ _ _ _ h; cases h
  | succ n0 ih =>
    intro v1 v2 v3 v4 xD xE xF xG h
    rw [f_X12_cutBy_10] at h
    refine at_iload 4 dX12_cutBy_10 rfl ?_
    refine at_aload_n 0 dX12_cutBy_12 rfl ?_
    refine at_getf cl_X12 (by decide) fl_X12_198 hg_38 rfl dX12_cutBy_13 ?_
    refine at_icmp_ge 52 dX12_cutBy_16 (by decide) (fun c1 => ?_) (fun c1 => ?_)
    · rw [if_pos c1] at h
      refine at_iconst (-1) dX12_cutBy_52 ic_m1 ?_
      cases h; exact at_iret rfl (Nat.le_refl _) (Nat.le_refl _) ⟨rfl, rfl⟩ dX12_cutBy_53
    · rw [if_neg c1] at h
      refine at_iload_n 3 dX12_cutBy_19 rfl ?_
      refine at_iload 4 dX12_cutBy_20 rfl ?_
      refine at_ishr dX12_cutBy_22 ?_
      refine at_iconst 1 dX12_cutBy_23 ic_1 ?_
      refine at_iand dX12_cutBy_24 ?_
      refine at_iconst 1 dX12_cutBy_25 ic_1 ?_
      refine at_icmp_ne 46 dX12_cutBy_26 (by decide) (fun c2 => ?_) (fun c2 => ?_)
      · rw [if_neg c2] at h
        exact t_X12_cutBy_46 hK N _ ih _ _ _ _ _ _ _ _ h
      · rw [if_pos c2] at h
        refine at_aload_n 0 dX12_cutBy_29 rfl ?_
        refine at_iload_n 1 dX12_cutBy_30 rfl ?_
        refine at_iload_n 2 dX12_cutBy_31 rfl ?_
        refine at_iconst 1 dX12_cutBy_32 ic_1 ?_
        refine at_iload 4 dX12_cutBy_33 rfl ?_
        refine at_ishl dX12_cutBy_35 ?_
        refine at_ior dX12_cutBy_36 ?_
        obtain ⟨q3, hq3, h⟩ := sp_bind h
        refine at_callVi (st := []) hK mt_X12_isKeen ml_X12_272 cl_X12 hg_38 (t_X12_isKeen hK hq3) rfl rfl (Nat.le_of_ble_eq_true rfl) ⟨Nat.le_of_ble_eq_true rfl, Nat.le_of_ble_eq_true rfl⟩ ⟨Nat.le_refl _, Nat.le_refl _⟩ dX12_cutBy_37 ?_
        refine at_zne 46 dX12_cutBy_40 (by decide) (fun c4 => ?_) (fun c4 => ?_)
        · rw [if_pos c4] at h
          exact t_X12_cutBy_46 hK N _ ih _ _ _ _ _ _ _ _ h
        · rw [if_neg c4] at h
          refine at_iload 4 dX12_cutBy_43 rfl ?_
          cases h; exact at_iret rfl (Nat.le_refl _) (Nat.le_refl _) ⟨rfl, rfl⟩ dX12_cutBy_45
set_option maxRecDepth 100000 in
theorem t_X12_cutBy {D : va_G} {b : Nat} {K : State → Heap → Prop} {sa : Nat → Nat} (hK : sx_Kk b K sa) {N : Nat} {uG uN uD uR uF uP uL uT uA uM uH xA xB xC xH xI xJ xK xL uO : sx_C} {G : sx_H} {v1 : Int32} {v2 : Int32} {xD : sx_C} {xE : sx_C} {xF : sx_C} {xG : sx_C} {res : Int32 × sx_C × sx_C × sx_C × sx_C} (h : f_X12_cutBy N xA v1 v2 xD xE xF xG = some res) : sx_Runs D b K yX12_cutBy YX12_cutBy (sx_rm 6) [.ref (b + 38), .int v1, .int v2] (sx_hp b uG uN uD uR uF uP uL uT uA uM uH xA xB xC xD xE xF xG xH xI xJ xK xL uO G) (sx_Ex (some (.int res.1)) (sx_hp b uG uN uD uR uF uP uL uT uA uM uH xA xB xC (res.2.1) (res.2.2.1) (res.2.2.2.1) (res.2.2.2.2) xH xI xJ xK xL uO G)) := by
  rw [f_X12_cutBy] at h
  refine sx_run (by decide +kernel) rfl rfl (Nat.le_of_ble_eq_true rfl) ?_
  refine at_aload_n 0 dX12_cutBy_0 rfl ?_
  refine at_iload_n 1 dX12_cutBy_1 rfl ?_
  refine at_iload_n 2 dX12_cutBy_2 rfl ?_
  obtain ⟨q5, hq5, h⟩ := sp_bind h
  refine at_callVi (st := []) hK mt_X12_open ml_X12_226 cl_X12 hg_38 (t_X12_open hK hq5) rfl rfl (Nat.le_of_ble_eq_true rfl) ⟨Nat.le_of_ble_eq_true rfl, Nat.le_of_ble_eq_true rfl⟩ ⟨Nat.le_refl _, Nat.le_refl _⟩ dX12_cutBy_3 ?_
  refine at_istore_n [(0, .ref (b + 38)), (1, .int v1), (2, .int v2), (3, .int q5)] dX12_cutBy_6 (Nat.le_of_ble_eq_true rfl) rfl ?_
  refine at_iconst 0 dX12_cutBy_7 ic_0 ?_
  refine at_istore [(0, .ref (b + 38)), (1, .int v1), (2, .int v2), (3, .int q5), (4, .int 0)] dX12_cutBy_8 (Nat.le_of_ble_eq_true rfl) rfl ?_
  exact t_X12_cutBy_10 hK N _ N _ _ _ _ _ _ _ _ h
set_option maxRecDepth 100000 in
theorem t_X12_cutAnswer {D : va_G} {b : Nat} {K : State → Heap → Prop} {sa : Nat → Nat} (hK : sx_Kk b K sa) {N : Nat} {uG uN uD uR uF uP uL uT uA uM uH xA xC xH xI xJ xK xL uO : sx_C} {G : sx_H} {v1 : Int32} {xB : sx_C} {xD : sx_C} {xE : sx_C} {xF : sx_C} {xG : sx_C} {res : Int32 × sx_C × sx_C × sx_C × sx_C × sx_C} (h : f_X12_cutAnswer N xA v1 xB xD xE xF xG = some res) : sx_Runs D b K yX12_cutAnswer YX12_cutAnswer (sx_rm 7) [.ref (b + 38), .int v1] (sx_hp b uG uN uD uR uF uP uL uT uA uM uH xA xB xC xD xE xF xG xH xI xJ xK xL uO G) (sx_Ex (some (.int res.1)) (sx_hp b uG uN uD uR uF uP uL uT uA uM uH xA (res.2.1) xC (res.2.2.1) (res.2.2.2.1) (res.2.2.2.2.1) (res.2.2.2.2.2) xH xI xJ xK xL uO G)) := by
  rw [f_X12_cutAnswer] at h
  refine sx_run (by decide +kernel) rfl rfl (Nat.le_of_ble_eq_true rfl) ?_
  refine at_aload_n 0 dX12_cutAnswer_0 rfl ?_
  refine at_iconst 0 dX12_cutAnswer_1 ic_0 ?_
  refine at_putf cl_X12 (by decide) fl_X12_73 rfl hg_38 rfl rfl (Nat.le_of_ble_eq_true rfl) hs_38_0 dX12_cutAnswer_2 ?_
  refine at_aload_n 0 dX12_cutAnswer_5 rfl ?_
  refine at_iload_n 1 dX12_cutAnswer_6 rfl ?_
  obtain ⟨q1, hq1, h⟩ := sp_bind h
  refine at_callVi (st := []) hK mt_X12_isLine ml_X12_304 cl_X12 hg_38 (t_X12_isLine hK hq1) rfl rfl (Nat.le_of_ble_eq_true rfl) ⟨Nat.le_of_ble_eq_true rfl, Nat.le_of_ble_eq_true rfl⟩ ⟨Nat.le_refl _, Nat.le_refl _⟩ dX12_cutAnswer_7 ?_
  refine at_zne 15 dX12_cutAnswer_10 (by decide) (fun c2 => ?_) (fun c2 => ?_)
  · rw [if_pos c2] at h
    refine at_aload_n 0 dX12_cutAnswer_15 rfl ?_
    refine at_iload_n 1 dX12_cutAnswer_16 rfl ?_
    obtain ⟨q3, hq3, h⟩ := sp_bind h
    refine at_callVi (st := []) hK mt_X12_isOpen ml_X12_310 cl_X12 hg_38 (t_X12_isOpen hK hq3) rfl rfl (Nat.le_of_ble_eq_true rfl) ⟨Nat.le_of_ble_eq_true rfl, Nat.le_of_ble_eq_true rfl⟩ ⟨Nat.le_refl _, Nat.le_refl _⟩ dX12_cutAnswer_17 ?_
    refine at_zeq 45 dX12_cutAnswer_20 (by decide) (fun c4 => ?_) (fun c4 => ?_)
    · rw [if_neg c4] at h
      refine at_bipush (-2) dX12_cutAnswer_45 bp_m2 ?_
      cases h; exact at_iret rfl (Nat.le_refl _) (Nat.le_refl _) ⟨rfl, rfl⟩ dX12_cutAnswer_47
    · rw [if_pos c4] at h
      refine at_aload_n 0 dX12_cutAnswer_23 rfl ?_
      obtain ⟨q5, hq5, h⟩ := sp_bind h
      refine at_callVi (st := []) hK mt_X12_isOver ml_X12_313 cl_X12 hg_38 (t_X12_isOver hK hq5) rfl rfl (Nat.le_of_ble_eq_true rfl) ⟨Nat.le_of_ble_eq_true rfl, Nat.le_of_ble_eq_true rfl⟩ ⟨Nat.le_refl _, Nat.le_refl _⟩ dX12_cutAnswer_24 ?_
      refine at_zne 45 dX12_cutAnswer_27 (by decide) (fun c6 => ?_) (fun c6 => ?_)
      · rw [if_pos c6] at h
        refine at_bipush (-2) dX12_cutAnswer_45 bp_m2 ?_
        cases h; exact at_iret rfl (Nat.le_refl _) (Nat.le_refl _) ⟨rfl, rfl⟩ dX12_cutAnswer_47
      · rw [if_neg c6] at h
        refine at_aload_n 0 dX12_cutAnswer_30 rfl ?_
        refine at_aload_n 0 dX12_cutAnswer_31 rfl ?_
        refine at_getf cl_X12 (by decide) fl_X12_201 hg_38 rfl dX12_cutAnswer_32 ?_
        refine at_iconst 1 dX12_cutAnswer_35 ic_1 ?_
        refine at_iload_n 1 dX12_cutAnswer_36 rfl ?_
        refine at_ishl dX12_cutAnswer_37 ?_
        refine at_ior dX12_cutAnswer_38 ?_
        obtain ⟨q7, hq7, h⟩ := sp_bind h
        refine at_callVi (st := []) hK mt_X12_hangs ml_X12_230 cl_X12 hg_38 (t_X12_hangs hK hq7) rfl rfl (Nat.le_of_ble_eq_true rfl) ⟨Nat.le_of_ble_eq_true rfl, Nat.le_of_ble_eq_true rfl⟩ ⟨Nat.le_refl _, Nat.le_refl _⟩ dX12_cutAnswer_39 ?_
        refine at_zeq 48 dX12_cutAnswer_42 (by decide) (fun c8 => ?_) (fun c8 => ?_)
        · rw [if_neg c8] at h
          refine at_aload_n 0 dX12_cutAnswer_48 rfl ?_
          refine at_aload_n 0 dX12_cutAnswer_49 rfl ?_
          refine at_getf cl_X12 (by decide) fl_X12_201 hg_38 rfl dX12_cutAnswer_50 ?_
          refine at_iconst 1 dX12_cutAnswer_53 ic_1 ?_
          refine at_iload_n 1 dX12_cutAnswer_54 rfl ?_
          refine at_ishl dX12_cutAnswer_55 ?_
          refine at_ior dX12_cutAnswer_56 ?_
          refine at_aload_n 0 dX12_cutAnswer_57 rfl ?_
          refine at_getf cl_X12 (by decide) fl_X12_204 hg_38 rfl dX12_cutAnswer_58 ?_
          obtain ⟨q9, hq9, h⟩ := sp_bind h
          refine at_callVi (st := []) hK mt_X12_cutBy ml_X12_358 cl_X12 hg_38 (t_X12_cutBy hK hq9) rfl rfl (Nat.le_of_ble_eq_true rfl) ⟨Nat.le_of_ble_eq_true rfl, Nat.le_of_ble_eq_true rfl⟩ ⟨Nat.le_refl _, Nat.le_refl _⟩ dX12_cutAnswer_61 ?_
          refine at_istore_n [(0, .ref (b + 38)), (1, .int v1), (2, .int (q9.1))] dX12_cutAnswer_64 (Nat.le_of_ble_eq_true rfl) rfl ?_
          refine at_iload_n 2 dX12_cutAnswer_65 rfl ?_
          refine at_iconst (-1) dX12_cutAnswer_66 ic_m1 ?_
          refine at_icmp_ne 75 dX12_cutAnswer_67 (by decide) (fun c10 => ?_) (fun c10 => ?_)
          · rw [if_neg c10] at h
            refine at_iload_n 2 dX12_cutAnswer_75 rfl ?_
            cases h; exact at_iret rfl (Nat.le_refl _) (Nat.le_refl _) ⟨rfl, rfl⟩ dX12_cutAnswer_76
          · rw [if_pos c10] at h
            refine at_bipush (-2) dX12_cutAnswer_70 bp_m2 ?_
            refine at_goto 76 dX12_cutAnswer_72 (by decide) ?_
            cases h; exact at_iret rfl (Nat.le_refl _) (Nat.le_refl _) ⟨rfl, rfl⟩ dX12_cutAnswer_76
        · rw [if_pos c8] at h
          refine at_bipush (-2) dX12_cutAnswer_45 bp_m2 ?_
          cases h; exact at_iret rfl (Nat.le_refl _) (Nat.le_refl _) ⟨rfl, rfl⟩ dX12_cutAnswer_47
  · rw [if_neg c2] at h
    refine at_iconst (-1) dX12_cutAnswer_13 ic_m1 ?_
    cases h; exact at_iret rfl (Nat.le_refl _) (Nat.le_refl _) ⟨rfl, rfl⟩ dX12_cutAnswer_14
set_option maxRecDepth 100000 in
theorem t_X12_verifiesCut_37 {D : va_G} {b : Nat} {K : State → Heap → Prop} {sa : Nat → Nat} (hK : sx_Kk b K sa) (N : Nat) {δ : Nat} {kR : Int32 → Int32 → sx_C → sx_C → sx_C → sx_C → sx_C → Option (sx_C × sx_C × sx_C × sx_C × sx_C)} {uG uN uD uR uF uP uL uT uA uM uH xA xB xC xH xI xK xL uO : sx_C} {G : sx_H} (res : sx_C × sx_C × sx_C × sx_C × sx_C) (hR : ∀ (v1 : Int32) (v2 : Int32) (xD : sx_C) (xE : sx_C) (xF : sx_C) (xG : sx_C) (xJ : sx_C) (res : sx_C × sx_C × sx_C × sx_C × sx_C), kR v1 v2 xD xE xF xG xJ = some res → sx_Runs D b K yX12_verifiesCut YX12_verifiesCut (sx_rm (7 + δ)) [.ref (b + 38), .int v1, .int v2] (sx_hp b uG uN uD uR uF uP uL uT uA uM uH xA xB xC xD xE xF xG xH xI xJ xK xL uO G) (sx_Ex none (sx_hp b uG uN uD uR uF uP uL uT uA uM uH xA xB xC (res.1) (res.2.1) (res.2.2.1) (res.2.2.2.1) xH xI (res.2.2.2.2) xK xL uO G))) : ∀ (s1 : Int32) (s2 : Int32) (xD : sx_C) (xE : sx_C) (xF : sx_C) (xG : sx_C) (xJ : sx_C), f_X12_verifiesCut_37 N kR xA s1 s2 xD xE xF xG xJ = some res → sx_At D b K YX12_verifiesCut (sx_rm (7 + δ + 1)) (sx_Ex none (sx_hp b uG uN uD uR uF uP uL uT uA uM uH xA xB xC (res.1) (res.2.1) (res.2.2.1) (res.2.2.2.1) xH xI (res.2.2.2.2) xK xL uO G)) 37 [] [.int s2, .int s1, .ref (b + 38)] (sx_hp b uG uN uD uR uF uP uL uT uA uM uH xA xB xC xD xE xF xG xH xI xJ xK xL uO G) 0 0 := by
  intro s1 s2 xD xE xF xG xJ h
  rw [f_X12_verifiesCut_37] at h
  refine at_iadd dX12_verifiesCut_37 ?_
  refine at_putf cl_X12 (by decide) fl_X12_352 rfl hg_38 rfl rfl (Nat.le_of_ble_eq_true rfl) hs_38_49 dX12_verifiesCut_38 ?_
  cases h; exact at_vret rfl (Nat.le_refl _) (Nat.le_refl _) ⟨rfl, rfl⟩ dX12_verifiesCut_41
set_option maxRecDepth 100000 in
theorem t_X12_verifiesCut_129 {D : va_G} {b : Nat} {K : State → Heap → Prop} {sa : Nat → Nat} (hK : sx_Kk b K sa) (N : Nat) {δ : Nat} {kR : Int32 → Int32 → sx_C → sx_C → sx_C → sx_C → sx_C → Option (sx_C × sx_C × sx_C × sx_C × sx_C)} {k53 : Int32 → Int32 → Int32 → Int32 → sx_C → sx_C → sx_C → sx_C → sx_C → Option (sx_C × sx_C × sx_C × sx_C × sx_C)} {uG uN uD uR uF uP uL uT uA uM uH xA xB xC xH xI xK xL uO : sx_C} {G : sx_H} (res : sx_C × sx_C × sx_C × sx_C × sx_C) (hR : ∀ (v1 : Int32) (v2 : Int32) (xD : sx_C) (xE : sx_C) (xF : sx_C) (xG : sx_C) (xJ : sx_C) (res : sx_C × sx_C × sx_C × sx_C × sx_C), kR v1 v2 xD xE xF xG xJ = some res → sx_Runs D b K yX12_verifiesCut YX12_verifiesCut (sx_rm (7 + δ)) [.ref (b + 38), .int v1, .int v2] (sx_hp b uG uN uD uR uF uP uL uT uA uM uH xA xB xC xD xE xF xG xH xI xJ xK xL uO G) (sx_Ex none (sx_hp b uG uN uD uR uF uP uL uT uA uM uH xA xB xC (res.1) (res.2.1) (res.2.2.1) (res.2.2.2.1) xH xI (res.2.2.2.2) xK xL uO G))) (hk53 : ∀ (v1 : Int32) (v2 : Int32) (v4 : Int32) (v5 : Int32) (xD : sx_C) (xE : sx_C) (xF : sx_C) (xG : sx_C) (xJ : sx_C), k53 v1 v2 v4 v5 xD xE xF xG xJ = some res → sx_At D b K YX12_verifiesCut (sx_rm (7 + δ + 1)) (sx_Ex none (sx_hp b uG uN uD uR uF uP uL uT uA uM uH xA xB xC (res.1) (res.2.1) (res.2.2.1) (res.2.2.2.1) xH xI (res.2.2.2.2) xK xL uO G)) 53 [(0, .ref (b + 38)), (1, .int v1), (2, .int v2), (4, .int v4), (5, .int v5)] [] (sx_hp b uG uN uD uR uF uP uL uT uA uM uH xA xB xC xD xE xF xG xH xI xJ xK xL uO G) 0 0) : ∀ (v1 : Int32) (v2 : Int32) (v4 : Int32) (v5 : Int32) (xD : sx_C) (xE : sx_C) (xF : sx_C) (xG : sx_C) (xJ : sx_C), f_X12_verifiesCut_129 N kR k53 xA v1 v2 v4 v5 xD xE xF xG xJ = some res → sx_At D b K YX12_verifiesCut (sx_rm (7 + δ + 1)) (sx_Ex none (sx_hp b uG uN uD uR uF uP uL uT uA uM uH xA xB xC (res.1) (res.2.1) (res.2.2.1) (res.2.2.2.1) xH xI (res.2.2.2.2) xK xL uO G)) 129 [(0, .ref (b + 38)), (1, .int v1), (2, .int v2), (4, .int v4), (5, .int v5)] [] (sx_hp b uG uN uD uR uF uP uL uT uA uM uH xA xB xC xD xE xF xG xH xI xJ xK xL uO G) 0 0 := by
  intro v1 v2 v4 v5 xD xE xF xG xJ h
  rw [f_X12_verifiesCut_129] at h
  refine at_iinc 4 1 [(0, .ref (b + 38)), (1, .int v1), (2, .int v2), (4, .int v4), (5, .int (v5 + 1))] dX12_verifiesCut_129 rfl ic_1 (Nat.le_of_ble_eq_true rfl) rfl ?_
  refine at_goto 53 dX12_verifiesCut_132 (by decide) ?_
  exact hk53 _ _ _ _ _ _ _ _ _ h
set_option maxRecDepth 100000 in
theorem t_X12_verifiesCut_126 {D : va_G} {b : Nat} {K : State → Heap → Prop} {sa : Nat → Nat} (hK : sx_Kk b K sa) (N : Nat) {δ : Nat} {kR : Int32 → Int32 → sx_C → sx_C → sx_C → sx_C → sx_C → Option (sx_C × sx_C × sx_C × sx_C × sx_C)} {k53 : Int32 → Int32 → Int32 → Int32 → sx_C → sx_C → sx_C → sx_C → sx_C → Option (sx_C × sx_C × sx_C × sx_C × sx_C)} {uG uN uD uR uF uP uL uT uA uM uH xA xB xC xH xI xK xL uO : sx_C} {G : sx_H} (res : sx_C × sx_C × sx_C × sx_C × sx_C) (hR : ∀ (v1 : Int32) (v2 : Int32) (xD : sx_C) (xE : sx_C) (xF : sx_C) (xG : sx_C) (xJ : sx_C) (res : sx_C × sx_C × sx_C × sx_C × sx_C), kR v1 v2 xD xE xF xG xJ = some res → sx_Runs D b K yX12_verifiesCut YX12_verifiesCut (sx_rm (7 + δ)) [.ref (b + 38), .int v1, .int v2] (sx_hp b uG uN uD uR uF uP uL uT uA uM uH xA xB xC xD xE xF xG xH xI xJ xK xL uO G) (sx_Ex none (sx_hp b uG uN uD uR uF uP uL uT uA uM uH xA xB xC (res.1) (res.2.1) (res.2.2.1) (res.2.2.2.1) xH xI (res.2.2.2.2) xK xL uO G))) (hk53 : ∀ (v1 : Int32) (v2 : Int32) (v4 : Int32) (v5 : Int32) (xD : sx_C) (xE : sx_C) (xF : sx_C) (xG : sx_C) (xJ : sx_C), k53 v1 v2 v4 v5 xD xE xF xG xJ = some res → sx_At D b K YX12_verifiesCut (sx_rm (7 + δ + 1)) (sx_Ex none (sx_hp b uG uN uD uR uF uP uL uT uA uM uH xA xB xC (res.1) (res.2.1) (res.2.2.1) (res.2.2.2.1) xH xI (res.2.2.2.2) xK xL uO G)) 53 [(0, .ref (b + 38)), (1, .int v1), (2, .int v2), (4, .int v4), (5, .int v5)] [] (sx_hp b uG uN uD uR uF uP uL uT uA uM uH xA xB xC xD xE xF xG xH xI xJ xK xL uO G) 0 0) : ∀ (v1 : Int32) (v2 : Int32) (v4 : Int32) (v5 : Int32) (s1 : Int32) (s2 : Int32) (xD : sx_C) (xE : sx_C) (xF : sx_C) (xG : sx_C) (xJ : sx_C), f_X12_verifiesCut_126 N kR k53 xA v1 v2 v4 v5 s1 s2 xD xE xF xG xJ = some res → sx_At D b K YX12_verifiesCut (sx_rm (7 + δ + 1)) (sx_Ex none (sx_hp b uG uN uD uR uF uP uL uT uA uM uH xA xB xC (res.1) (res.2.1) (res.2.2.1) (res.2.2.2.1) xH xI (res.2.2.2.2) xK xL uO G)) 126 [(0, .ref (b + 38)), (1, .int v1), (2, .int v2), (4, .int v4), (5, .int v5)] [.int s2, .int s1, .ref (b + 38)] (sx_hp b uG uN uD uR uF uP uL uT uA uM uH xA xB xC xD xE xF xG xH xI xJ xK xL uO G) 0 0 := by
  intro v1 v2 v4 v5 s1 s2 xD xE xF xG xJ h
  rw [f_X12_verifiesCut_126] at h
  obtain ⟨q7, hq7, h⟩ := sp_bind h
  refine at_callVv (st := []) hK mt_X12_verifiesCut ml_X12_361 cl_X12 hg_38 (hR _ _ _ _ _ _ _ _ hq7) rfl rfl (Nat.le_of_ble_eq_true rfl) ⟨(by show (7 + δ) + 1 ≤ 7 + δ + 1; omega), (by show 8 + (8 + 11) + 100 * (7 + δ) ≤ 100 * (7 + δ + 1); omega)⟩ ⟨Nat.le_refl _, Nat.le_refl _⟩ dX12_verifiesCut_126 ?_
  exact t_X12_verifiesCut_129 hK N _ hR hk53 _ _ _ _ _ _ _ _ _ h
set_option maxRecDepth 100000 in
theorem t_X12_verifiesCut_105 {D : va_G} {b : Nat} {K : State → Heap → Prop} {sa : Nat → Nat} (hK : sx_Kk b K sa) (N : Nat) {δ : Nat} {kR : Int32 → Int32 → sx_C → sx_C → sx_C → sx_C → sx_C → Option (sx_C × sx_C × sx_C × sx_C × sx_C)} {k53 : Int32 → Int32 → Int32 → Int32 → sx_C → sx_C → sx_C → sx_C → sx_C → Option (sx_C × sx_C × sx_C × sx_C × sx_C)} {uG uN uD uR uF uP uL uT uA uM uH xA xB xC xH xI xK xL uO : sx_C} {G : sx_H} (res : sx_C × sx_C × sx_C × sx_C × sx_C) (hR : ∀ (v1 : Int32) (v2 : Int32) (xD : sx_C) (xE : sx_C) (xF : sx_C) (xG : sx_C) (xJ : sx_C) (res : sx_C × sx_C × sx_C × sx_C × sx_C), kR v1 v2 xD xE xF xG xJ = some res → sx_Runs D b K yX12_verifiesCut YX12_verifiesCut (sx_rm (7 + δ)) [.ref (b + 38), .int v1, .int v2] (sx_hp b uG uN uD uR uF uP uL uT uA uM uH xA xB xC xD xE xF xG xH xI xJ xK xL uO G) (sx_Ex none (sx_hp b uG uN uD uR uF uP uL uT uA uM uH xA xB xC (res.1) (res.2.1) (res.2.2.1) (res.2.2.2.1) xH xI (res.2.2.2.2) xK xL uO G))) (hk53 : ∀ (v1 : Int32) (v2 : Int32) (v4 : Int32) (v5 : Int32) (xD : sx_C) (xE : sx_C) (xF : sx_C) (xG : sx_C) (xJ : sx_C), k53 v1 v2 v4 v5 xD xE xF xG xJ = some res → sx_At D b K YX12_verifiesCut (sx_rm (7 + δ + 1)) (sx_Ex none (sx_hp b uG uN uD uR uF uP uL uT uA uM uH xA xB xC (res.1) (res.2.1) (res.2.2.1) (res.2.2.2.1) xH xI (res.2.2.2.2) xK xL uO G)) 53 [(0, .ref (b + 38)), (1, .int v1), (2, .int v2), (4, .int v4), (5, .int v5)] [] (sx_hp b uG uN uD uR uF uP uL uT uA uM uH xA xB xC xD xE xF xG xH xI xJ xK xL uO G) 0 0) : ∀ (v1 : Int32) (v2 : Int32) (v4 : Int32) (v5 : Int32) (v6 : Int32) (s0 : Int32) (xD : sx_C) (xE : sx_C) (xF : sx_C) (xG : sx_C) (xJ : sx_C), f_X12_verifiesCut_105 N kR k53 xA v1 v2 v4 v5 v6 s0 xD xE xF xG xJ = some res → sx_At D b K YX12_verifiesCut (sx_rm (7 + δ + 1)) (sx_Ex none (sx_hp b uG uN uD uR uF uP uL uT uA uM uH xA xB xC (res.1) (res.2.1) (res.2.2.1) (res.2.2.2.1) xH xI (res.2.2.2.2) xK xL uO G)) 105 [(0, .ref (b + 38)), (1, .int v1), (2, .int v2), (4, .int v4), (5, .int v5), (6, .int v6)] [.int s0] (sx_hp b uG uN uD uR uF uP uL uT uA uM uH xA xB xC xD xE xF xG xH xI xJ xK xL uO G) 0 0 := by
  intro v1 v2 v4 v5 v6 s0 xD xE xF xG xJ h
  rw [f_X12_verifiesCut_105] at h
  refine at_istore [(0, .ref (b + 38)), (1, .int v1), (2, .int v2), (4, .int v4), (5, .int v5), (6, .int v6), (7, .int s0)] dX12_verifiesCut_105 (Nat.le_of_ble_eq_true rfl) rfl ?_
  refine at_aload_n 0 dX12_verifiesCut_107 rfl ?_
  refine at_iload 5 dX12_verifiesCut_108 rfl ?_
  refine at_iload 6 dX12_verifiesCut_110 rfl ?_
  refine at_iconst (-1) dX12_verifiesCut_112 ic_m1 ?_
  refine at_icmp_ne 120 dX12_verifiesCut_113 (by decide) (fun c6 => ?_) (fun c6 => ?_)
  · rw [if_neg c6] at h
    refine at_iload_n 2 dX12_verifiesCut_120 rfl ?_
    refine at_iconst 1 dX12_verifiesCut_121 ic_1 ?_
    refine at_iload 6 dX12_verifiesCut_122 rfl ?_
    refine at_ishl dX12_verifiesCut_124 ?_
    refine at_ior dX12_verifiesCut_125 ?_
    refine at_sub [0, 1, 2, 3, 4] [(0, .ref (b + 38)), (1, .int v1), (2, .int v2), (4, .int v4), (5, .int v5)] rfl ?_
    exact t_X12_verifiesCut_126 hK N _ hR hk53 _ _ _ _ _ _ _ _ _ _ _ h
  · rw [if_pos c6] at h
    refine at_iload_n 2 dX12_verifiesCut_116 rfl ?_
    refine at_goto 126 dX12_verifiesCut_117 (by decide) ?_
    refine at_sub [0, 1, 2, 3, 4] [(0, .ref (b + 38)), (1, .int v1), (2, .int v2), (4, .int v4), (5, .int v5)] rfl ?_
    exact t_X12_verifiesCut_126 hK N _ hR hk53 _ _ _ _ _ _ _ _ _ _ _ h
set_option maxRecDepth 100000 in
theorem t_X12_verifiesCut_53 {D : va_G} {b : Nat} {K : State → Heap → Prop} {sa : Nat → Nat} (hK : sx_Kk b K sa) (N : Nat) {δ : Nat} {kR : Int32 → Int32 → sx_C → sx_C → sx_C → sx_C → sx_C → Option (sx_C × sx_C × sx_C × sx_C × sx_C)} {uG uN uD uR uF uP uL uT uA uM uH xA xB xC xH xI xK xL uO : sx_C} {G : sx_H} (res : sx_C × sx_C × sx_C × sx_C × sx_C) (hR : ∀ (v1 : Int32) (v2 : Int32) (xD : sx_C) (xE : sx_C) (xF : sx_C) (xG : sx_C) (xJ : sx_C) (res : sx_C × sx_C × sx_C × sx_C × sx_C), kR v1 v2 xD xE xF xG xJ = some res → sx_Runs D b K yX12_verifiesCut YX12_verifiesCut (sx_rm (7 + δ)) [.ref (b + 38), .int v1, .int v2] (sx_hp b uG uN uD uR uF uP uL uT uA uM uH xA xB xC xD xE xF xG xH xI xJ xK xL uO G) (sx_Ex none (sx_hp b uG uN uD uR uF uP uL uT uA uM uH xA xB xC (res.1) (res.2.1) (res.2.2.1) (res.2.2.2.1) xH xI (res.2.2.2.2) xK xL uO G))) : ∀ (n0 : Nat) (v1 : Int32) (v2 : Int32) (v4 : Int32) (v5 : Int32) (xD : sx_C) (xE : sx_C) (xF : sx_C) (xG : sx_C) (xJ : sx_C), f_X12_verifiesCut_53 N kR xA n0 v1 v2 v4 v5 xD xE xF xG xJ = some res → sx_At D b K YX12_verifiesCut (sx_rm (7 + δ + 1)) (sx_Ex none (sx_hp b uG uN uD uR uF uP uL uT uA uM uH xA xB xC (res.1) (res.2.1) (res.2.2.1) (res.2.2.2.1) xH xI (res.2.2.2.2) xK xL uO G)) 53 [(0, .ref (b + 38)), (1, .int v1), (2, .int v2), (4, .int v4), (5, .int v5)] [] (sx_hp b uG uN uD uR uF uP uL uT uA uM uH xA xB xC xD xE xF xG xH xI xJ xK xL uO G) 0 0 := by
  intro n0
  induction n0 with
  | zero => intro _ _ _ _ _ _ _ _ _ h; cases h
  | succ n0 ih =>
    intro v1 v2 v4 v5 xD xE xF xG xJ h
    rw [f_X12_verifiesCut_53] at h
    refine at_iload 4 dX12_verifiesCut_53 rfl ?_
    refine at_aload_n 0 dX12_verifiesCut_55 rfl ?_
    refine at_getf cl_X12 (by decide) fl_X12_198 hg_38 rfl dX12_verifiesCut_56 ?_
    refine at_icmp_ge 135 dX12_verifiesCut_59 (by decide) (fun c1 => ?_) (fun c1 => ?_)
    · rw [if_pos c1] at h
      cases h; exact at_vret rfl (Nat.le_refl _) (Nat.le_refl _) ⟨rfl, rfl⟩ dX12_verifiesCut_135
    · rw [if_neg c1] at h
      refine at_iload 3 dX12_verifiesCut_62 rfl ?_
      refine at_iload 4 dX12_verifiesCut_64 rfl ?_
      refine at_ishr dX12_verifiesCut_66 ?_
      refine at_iconst 1 dX12_verifiesCut_67 ic_1 ?_
      refine at_iand dX12_verifiesCut_68 ?_
      refine at_if_ne 75 dX12_verifiesCut_69 (by decide) (fun c2 => ?_) (fun c2 => ?_)
      · rw [if_neg c2] at h
        refine at_iload_n 1 dX12_verifiesCut_75 rfl ?_
        refine at_iconst 1 dX12_verifiesCut_76 ic_1 ?_
        refine at_iload 4 dX12_verifiesCut_77 rfl ?_
        refine at_ishl dX12_verifiesCut_79 ?_
        refine at_ior dX12_verifiesCut_80 ?_
        refine at_istore [(0, .ref (b + 38)), (1, .int v1), (2, .int v2), (4, .int v4), (5, .int v5), (6, .int (v1 ||| (sp_shl 1 v5)))] dX12_verifiesCut_81 (Nat.le_of_ble_eq_true rfl) rfl ?_
        refine at_aload_n 0 dX12_verifiesCut_83 rfl ?_
        refine at_iload 5 dX12_verifiesCut_84 rfl ?_
        refine at_iload_n 2 dX12_verifiesCut_86 rfl ?_
        obtain ⟨q3, hq3, h⟩ := sp_bind h
        refine at_callVi (st := []) hK mt_X12_has ml_X12_301 cl_X12 hg_38 (t_X12_has hK hq3) rfl rfl (Nat.le_of_ble_eq_true rfl) ⟨(by show 3 + 1 ≤ 7 + δ + 1; omega), (by show 8 + (3 + 11) + 100 * 3 ≤ 100 * (7 + δ + 1); omega)⟩ ⟨Nat.le_refl _, Nat.le_refl _⟩ dX12_verifiesCut_87 ?_
        refine at_iconst 2 dX12_verifiesCut_90 ic_2 ?_
        refine at_icmp_ne 104 dX12_verifiesCut_91 (by decide) (fun c4 => ?_) (fun c4 => ?_)
        · rw [if_neg c4] at h
          refine at_iconst (-1) dX12_verifiesCut_104 ic_m1 ?_
          exact t_X12_verifiesCut_105 hK N _ hR ih _ _ _ _ _ _ _ _ _ _ _ h
        · rw [if_pos c4] at h
          refine at_aload_n 0 dX12_verifiesCut_94 rfl ?_
          refine at_iload 5 dX12_verifiesCut_95 rfl ?_
          refine at_iload_n 2 dX12_verifiesCut_97 rfl ?_
          obtain ⟨q5, hq5, h⟩ := sp_bind h
          refine at_callVi (st := []) hK mt_X12_cutBy ml_X12_358 cl_X12 hg_38 (t_X12_cutBy hK hq5) rfl rfl (Nat.le_of_ble_eq_true rfl) ⟨(by show 6 + 1 ≤ 7 + δ + 1; omega), (by show 8 + (5 + 11) + 100 * 6 ≤ 100 * (7 + δ + 1); omega)⟩ ⟨Nat.le_refl _, Nat.le_refl _⟩ dX12_verifiesCut_98 ?_
          refine at_goto 105 dX12_verifiesCut_101 (by decide) ?_
          exact t_X12_verifiesCut_105 hK N _ hR ih _ _ _ _ _ _ _ _ _ _ _ h
      · rw [if_pos c2] at h
        refine at_goto 129 dX12_verifiesCut_72 (by decide) ?_
        exact t_X12_verifiesCut_129 hK N _ hR ih _ _ _ _ _ _ _ _ _ h
set_option maxRecDepth 100000 in
theorem t_X12_verifiesCut_rec {D : va_G} {b : Nat} {K : State → Heap → Prop} {sa : Nat → Nat} (hK : sx_Kk b K sa) {N : Nat} {uG uN uD uR uF uP uL uT uA uM uH xA xB xC xH xI xK xL uO : sx_C} {G : sx_H} : ∀ (δ : Nat), ∀ (v1 : Int32) (v2 : Int32) (xD : sx_C) (xE : sx_C) (xF : sx_C) (xG : sx_C) (xJ : sx_C) (res : sx_C × sx_C × sx_C × sx_C × sx_C), f_X12_verifiesCut N xA δ v1 v2 xD xE xF xG xJ = some res → sx_Runs D b K yX12_verifiesCut YX12_verifiesCut (sx_rm (7 + δ)) [.ref (b + 38), .int v1, .int v2] (sx_hp b uG uN uD uR uF uP uL uT uA uM uH xA xB xC xD xE xF xG xH xI xJ xK xL uO G) (sx_Ex none (sx_hp b uG uN uD uR uF uP uL uT uA uM uH xA xB xC (res.1) (res.2.1) (res.2.2.1) (res.2.2.2.1) xH xI (res.2.2.2.2) xK xL uO G)) := by
  intro δ
  induction δ with
  | zero => intro _ _ _ _ _ _ _ _ h; cases h
  | succ δ ihR =>
    intro v1 v2 xD xE xF xG xJ res h
    have hR := ihR
    rw [f_X12_verifiesCut] at h
    refine sx_run (by decide +kernel) rfl rfl (Nat.le_of_ble_eq_true rfl) ?_
    refine at_aload_n 0 dX12_verifiesCut_0 rfl ?_
    refine at_iload_n 1 dX12_verifiesCut_1 rfl ?_
    refine at_iload_n 2 dX12_verifiesCut_2 rfl ?_
    obtain ⟨q8, hq8, h⟩ := sp_bind h
    refine at_callVi (st := []) hK mt_X12_has ml_X12_301 cl_X12 hg_38 (t_X12_has hK hq8) rfl rfl (Nat.le_of_ble_eq_true rfl) ⟨(by show 3 + 1 ≤ 7 + δ + 1; omega), (by show 8 + (3 + 11) + 100 * 3 ≤ 100 * (7 + δ + 1); omega)⟩ ⟨Nat.le_refl _, Nat.le_refl _⟩ dX12_verifiesCut_3 ?_
    refine at_istore_n [(0, .ref (b + 38)), (1, .int v1), (2, .int v2), (3, .int (q8.1))] dX12_verifiesCut_6 (Nat.le_of_ble_eq_true rfl) rfl ?_
    refine at_iload_n 3 dX12_verifiesCut_7 rfl ?_
    refine at_iconst 2 dX12_verifiesCut_8 ic_2 ?_
    refine at_icmp_eq 42 dX12_verifiesCut_9 (by decide) (fun c9 => ?_) (fun c9 => ?_)
    · rw [if_pos c9] at h
      refine at_aload_n 0 dX12_verifiesCut_42 rfl ?_
      refine at_iload_n 1 dX12_verifiesCut_43 rfl ?_
      refine at_iload_n 2 dX12_verifiesCut_44 rfl ?_
      obtain ⟨q10, hq10, h⟩ := sp_bind h
      refine at_callVi (st := []) hK mt_X12_open ml_X12_226 cl_X12 hg_38 (t_X12_open hK hq10) rfl rfl (Nat.le_of_ble_eq_true rfl) ⟨(by show 1 + 1 ≤ 7 + δ + 1; omega), (by show 8 + (3 + 11) + 100 * 1 ≤ 100 * (7 + δ + 1); omega)⟩ ⟨Nat.le_refl _, Nat.le_refl _⟩ dX12_verifiesCut_45 ?_
      refine at_istore [(0, .ref (b + 38)), (1, .int v1), (2, .int v2), (3, .int (q8.1)), (4, .int q10)] dX12_verifiesCut_48 (Nat.le_of_ble_eq_true rfl) rfl ?_
      refine at_iconst 0 dX12_verifiesCut_50 ic_0 ?_
      refine at_istore [(0, .ref (b + 38)), (1, .int v1), (2, .int v2), (3, .int (q8.1)), (4, .int q10), (5, .int 0)] dX12_verifiesCut_51 (Nat.le_of_ble_eq_true rfl) rfl ?_
      refine at_sub [0, 1, 2, 4, 5] [(0, .ref (b + 38)), (1, .int v1), (2, .int v2), (4, .int q10), (5, .int 0)] rfl ?_
      exact t_X12_verifiesCut_53 hK N _ hR N _ _ _ _ _ _ _ _ _ h
    · rw [if_neg c9] at h
      refine at_aload_n 0 dX12_verifiesCut_12 rfl ?_
      refine at_dup dX12_verifiesCut_13 rfl ?_
      refine at_getf cl_X12 (by decide) fl_X12_349 hg_38 rfl dX12_verifiesCut_14 ?_
      refine at_iconst 1 dX12_verifiesCut_17 ic_1 ?_
      refine at_iadd dX12_verifiesCut_18 ?_
      refine at_putf cl_X12 (by decide) fl_X12_349 rfl hg_38 rfl rfl (Nat.le_of_ble_eq_true rfl) hs_38_48 dX12_verifiesCut_19 ?_
      refine at_aload_n 0 dX12_verifiesCut_22 rfl ?_
      refine at_dup dX12_verifiesCut_23 rfl ?_
      refine at_getf cl_X12 (by decide) fl_X12_352 hg_38 rfl dX12_verifiesCut_24 ?_
      refine at_iload_n 3 dX12_verifiesCut_27 rfl ?_
      refine at_iconst 1 dX12_verifiesCut_28 ic_1 ?_
      refine at_icmp_ne 36 dX12_verifiesCut_29 (by decide) (fun c11 => ?_) (fun c11 => ?_)
      · rw [if_neg c11] at h
        refine at_iconst 0 dX12_verifiesCut_36 ic_0 ?_
        refine at_sub [] [] rfl ?_
        exact t_X12_verifiesCut_37 hK N _ hR _ _ _ _ _ _ _ h
      · rw [if_pos c11] at h
        refine at_iconst 1 dX12_verifiesCut_32 ic_1 ?_
        refine at_goto 37 dX12_verifiesCut_33 (by decide) ?_
        refine at_sub [] [] rfl ?_
        exact t_X12_verifiesCut_37 hK N _ hR _ _ _ _ _ _ _ h
theorem t_X12_verifiesCut {D : va_G} {b : Nat} {K : State → Heap → Prop} {sa : Nat → Nat} (hK : sx_Kk b K sa) {N : Nat} {uG uN uD uR uF uP uL uT uA uM uH xA xB xC xH xI xK xL uO : sx_C} {G : sx_H} {v1 : Int32} {v2 : Int32} {xD : sx_C} {xE : sx_C} {xF : sx_C} {xG : sx_C} {xJ : sx_C} {δ : Nat} {res : sx_C × sx_C × sx_C × sx_C × sx_C} (h : f_X12_verifiesCut N xA δ v1 v2 xD xE xF xG xJ = some res) : sx_Runs D b K yX12_verifiesCut YX12_verifiesCut (sx_rm (7 + δ)) [.ref (b + 38), .int v1, .int v2] (sx_hp b uG uN uD uR uF uP uL uT uA uM uH xA xB xC xD xE xF xG xH xI xJ xK xL uO G) (sx_Ex none (sx_hp b uG uN uD uR uF uP uL uT uA uM uH xA xB xC (res.1) (res.2.1) (res.2.2.1) (res.2.2.2.1) xH xI (res.2.2.2.2) xK xL uO G)) := t_X12_verifiesCut_rec hK δ _ _ _ _ _ _ _ _ h
set_option maxRecDepth 100000 in
theorem t_X12_verifiedForCut {D : va_G} {b : Nat} {K : State → Heap → Prop} {sa : Nat → Nat} (hK : sx_Kk b K sa) {N : Nat} {uG uN uD uR uF uP uL uT uA uM uH xA xC xH xI xK xL uO : sx_C} {G : sx_H} {v1 : Int32} {xB : sx_C} {xD : sx_C} {xE : sx_C} {xF : sx_C} {xG : sx_C} {xJ : sx_C} {res : Int32 × sx_C × sx_C × sx_C × sx_C × sx_C × sx_C} (h : f_X12_verifiedForCut N xA v1 xB xD xE xF xG xJ = some res) : sx_Runs D b K yX12_verifiedForCut YX12_verifiedForCut (sx_rm 48) [.ref (b + 38), .int v1] (sx_hp b uG uN uD uR uF uP uL uT uA uM uH xA xB xC xD xE xF xG xH xI xJ xK xL uO G) (sx_Ex (some (.int res.1)) (sx_hp b uG uN uD uR uF uP uL uT uA uM uH xA (res.2.1) xC (res.2.2.1) (res.2.2.2.1) (res.2.2.2.2.1) (res.2.2.2.2.2.1) xH xI (res.2.2.2.2.2.2) xK xL uO G)) := by
  rw [f_X12_verifiedForCut] at h
  refine sx_run (by decide +kernel) rfl rfl (Nat.le_of_ble_eq_true rfl) ?_
  refine at_aload_n 0 dX12_verifiedForCut_0 rfl ?_
  refine at_iconst 0 dX12_verifiedForCut_1 ic_0 ?_
  refine at_putf cl_X12 (by decide) fl_X12_73 rfl hg_38 rfl rfl (Nat.le_of_ble_eq_true rfl) hs_38_0 dX12_verifiedForCut_2 ?_
  refine at_iload_n 1 dX12_verifiedForCut_5 rfl ?_
  refine at_if_lt 14 dX12_verifiedForCut_6 (by decide) (fun c1 => ?_) (fun c1 => ?_)
  · rw [if_pos c1] at h
    refine at_iconst (-1) dX12_verifiedForCut_14 ic_m1 ?_
    cases h; exact at_iret rfl (Nat.le_refl _) (Nat.le_refl _) ⟨rfl, rfl⟩ dX12_verifiedForCut_15
  · rw [if_neg c1] at h
    refine at_iload_n 1 dX12_verifiedForCut_9 rfl ?_
    refine at_iconst 1 dX12_verifiedForCut_10 ic_1 ?_
    refine at_icmp_le 16 dX12_verifiedForCut_11 (by decide) (fun c2 => ?_) (fun c2 => ?_)
    · rw [if_pos c2] at h
      refine at_aload_n 0 dX12_verifiedForCut_16 rfl ?_
      obtain ⟨q3, hq3, h⟩ := sp_bind h
      refine at_callVi (st := []) hK mt_X12_openNow ml_X12_298 cl_X12 hg_38 (t_X12_openNow hK hq3) rfl rfl (Nat.le_of_ble_eq_true rfl) ⟨Nat.le_of_ble_eq_true rfl, Nat.le_of_ble_eq_true rfl⟩ ⟨Nat.le_refl _, Nat.le_refl _⟩ dX12_verifiedForCut_17 ?_
      obtain ⟨q4, hq4, h⟩ := sp_bind h
      refine at_callSi (st := []) hK mt_X12_bits ml_X12_250 (t_X12_bits hK hq4) rfl rfl (Nat.le_of_ble_eq_true rfl) ⟨Nat.le_of_ble_eq_true rfl, Nat.le_of_ble_eq_true rfl⟩ ⟨Nat.le_refl _, Nat.le_refl _⟩ dX12_verifiedForCut_20 ?_
      refine at_bipush 10 dX12_verifiedForCut_23 bp_10 ?_
      refine at_icmp_gt 43 dX12_verifiedForCut_25 (by decide) (fun c5 => ?_) (fun c5 => ?_)
      · rw [if_pos c5] at h
        refine at_bipush (-2) dX12_verifiedForCut_43 bp_m2 ?_
        cases h; exact at_iret rfl (Nat.le_refl _) (Nat.le_refl _) ⟨rfl, rfl⟩ dX12_verifiedForCut_45
      · rw [if_neg c5] at h
        refine at_aload_n 0 dX12_verifiedForCut_28 rfl ?_
        refine at_aload_n 0 dX12_verifiedForCut_29 rfl ?_
        refine at_getf cl_X12 (by decide) fl_X12_201 hg_38 rfl dX12_verifiedForCut_30 ?_
        refine at_aload_n 0 dX12_verifiedForCut_33 rfl ?_
        refine at_getf cl_X12 (by decide) fl_X12_204 hg_38 rfl dX12_verifiedForCut_34 ?_
        obtain ⟨q6, hq6, h⟩ := sp_bind h
        refine at_callVi (st := []) hK mt_X12_isKeen ml_X12_272 cl_X12 hg_38 (t_X12_isKeen hK hq6) rfl rfl (Nat.le_of_ble_eq_true rfl) ⟨Nat.le_of_ble_eq_true rfl, Nat.le_of_ble_eq_true rfl⟩ ⟨Nat.le_refl _, Nat.le_refl _⟩ dX12_verifiedForCut_37 ?_
        refine at_zeq 46 dX12_verifiedForCut_40 (by decide) (fun c7 => ?_) (fun c7 => ?_)
        · rw [if_neg c7] at h
          refine at_aload_n 0 dX12_verifiedForCut_46 rfl ?_
          refine at_iconst 0 dX12_verifiedForCut_47 ic_0 ?_
          refine at_putf cl_X12 (by decide) fl_X12_349 rfl hg_38 rfl rfl (Nat.le_of_ble_eq_true rfl) hs_38_48 dX12_verifiedForCut_48 ?_
          refine at_aload_n 0 dX12_verifiedForCut_51 rfl ?_
          refine at_iconst 0 dX12_verifiedForCut_52 ic_0 ?_
          refine at_putf cl_X12 (by decide) fl_X12_352 rfl hg_38 rfl rfl (Nat.le_of_ble_eq_true rfl) hs_38_49 dX12_verifiedForCut_53 ?_
          refine at_aload_n 0 dX12_verifiedForCut_56 rfl ?_
          refine at_aload_n 0 dX12_verifiedForCut_57 rfl ?_
          refine at_getf cl_X12 (by decide) fl_X12_201 hg_38 rfl dX12_verifiedForCut_58 ?_
          refine at_aload_n 0 dX12_verifiedForCut_61 rfl ?_
          refine at_getf cl_X12 (by decide) fl_X12_204 hg_38 rfl dX12_verifiedForCut_62 ?_
          obtain ⟨q8, hq8, h⟩ := sp_bind h
          refine at_callVv (st := []) hK mt_X12_verifiesCut ml_X12_361 cl_X12 hg_38 (t_X12_verifiesCut hK hq8) rfl rfl (Nat.le_of_ble_eq_true rfl) ⟨Nat.le_of_ble_eq_true rfl, Nat.le_of_ble_eq_true rfl⟩ ⟨Nat.le_refl _, Nat.le_refl _⟩ dX12_verifiedForCut_65 ?_
          refine at_iload_n 1 dX12_verifiedForCut_68 rfl ?_
          refine at_if_ne 79 dX12_verifiedForCut_69 (by decide) (fun c9 => ?_) (fun c9 => ?_)
          · rw [if_neg c9] at h
            refine at_aload_n 0 dX12_verifiedForCut_79 rfl ?_
            refine at_getf cl_X12 (by decide) fl_X12_352 hg_38 rfl dX12_verifiedForCut_80 ?_
            cases h; exact at_iret rfl (Nat.le_refl _) (Nat.le_refl _) ⟨rfl, rfl⟩ dX12_verifiedForCut_83
          · rw [if_pos c9] at h
            refine at_aload_n 0 dX12_verifiedForCut_72 rfl ?_
            refine at_getf cl_X12 (by decide) fl_X12_349 hg_38 rfl dX12_verifiedForCut_73 ?_
            refine at_goto 83 dX12_verifiedForCut_76 (by decide) ?_
            cases h; exact at_iret rfl (Nat.le_refl _) (Nat.le_refl _) ⟨rfl, rfl⟩ dX12_verifiedForCut_83
        · rw [if_pos c7] at h
          refine at_bipush (-2) dX12_verifiedForCut_43 bp_m2 ?_
          cases h; exact at_iret rfl (Nat.le_refl _) (Nat.le_refl _) ⟨rfl, rfl⟩ dX12_verifiedForCut_45
    · rw [if_neg c2] at h
      refine at_iconst (-1) dX12_verifiedForCut_14 ic_m1 ?_
      cases h; exact at_iret rfl (Nat.le_refl _) (Nat.le_refl _) ⟨rfl, rfl⟩ dX12_verifiedForCut_15
set_option maxRecDepth 100000 in
theorem t_X12_laysThrees_54 {D : va_G} {b : Nat} {K : State → Heap → Prop} {sa : Nat → Nat} (hK : sx_Kk b K sa) (N : Nat) {uG uN uD uR uF uP uL uT uA uM uH xA xB xC xD xE xF xG xH xI xJ xL uO : sx_C} {G : sx_H} (res : sx_C) : ∀ (n0 : Nat) (v1 : Int32) (v3 : Int32) (xK : sx_C), f_X12_laysThrees_54 N xA n0 v1 v3 xK = some res → sx_At D b K YX12_laysThrees (sx_rm 3) (sx_Ex none (sx_hp b uG uN uD uR uF uP uL uT uA uM uH xA xB xC xD xE xF xG xH xI xJ res xL uO G)) 54 [(0, .ref (b + 38)), (1, .int v1), (3, .int v3)] [] (sx_hp b uG uN uD uR uF uP uL uT uA uM uH xA xB xC xD xE xF xG xH xI xJ xK xL uO G) 0 0 := by
  intro n0
  induction n0 with
  | zero => intro _ _ _ h; cases h
  | succ n0 ih =>
    intro v1 v3 xK h
    rw [f_X12_laysThrees_54] at h
    refine at_iload_n 2 dX12_laysThrees_54 rfl ?_
    refine at_iconst 2 dX12_laysThrees_55 ic_2 ?_
    refine at_iload_n 1 dX12_laysThrees_56 rfl ?_
    refine at_imul dX12_laysThrees_57 ?_
    refine at_icmp_ge 74 dX12_laysThrees_58 (by decide) (fun c5 => ?_) (fun c5 => ?_)
    · rw [if_pos c5] at h
      cases h; exact at_vret rfl (Nat.le_refl _) (Nat.le_refl _) ⟨rfl, rfl⟩ dX12_laysThrees_74
    · rw [if_neg c5] at h
      refine at_aload_n 0 dX12_laysThrees_61 rfl ?_
      refine at_getf cl_X12 (by decide) fl_X12_57 hg_38 rfl dX12_laysThrees_62 ?_
      refine at_iload_n 2 dX12_laysThrees_65 rfl ?_
      refine at_iconst 0 dX12_laysThrees_66 ic_0 ?_
      obtain ⟨hi6, h⟩ := sp_chk h
      refine at_bast hg_53 hi6 hs_53 dX12_laysThrees_67 ?_
      refine at_iinc 2 1 [(0, .ref (b + 38)), (1, .int v1), (3, .int (v3 + 1))] dX12_laysThrees_68 rfl ic_1 (Nat.le_of_ble_eq_true rfl) rfl ?_
      refine at_goto 54 dX12_laysThrees_71 (by decide) ?_
      exact ih _ _ _ h
set_option maxRecDepth 100000 in
theorem t_X12_laysThrees_46 {D : va_G} {b : Nat} {K : State → Heap → Prop} {sa : Nat → Nat} (hK : sx_Kk b K sa) (N : Nat) {k9 : Int32 → Int32 → Int32 → sx_C → Option (sx_C)} {uG uN uD uR uF uP uL uT uA uM uH xA xB xC xD xE xF xG xH xI xJ xL uO : sx_C} {G : sx_H} (res : sx_C) (hk9 : ∀ (v1 : Int32) (v2 : Int32) (v3 : Int32) (xK : sx_C), k9 v1 v2 v3 xK = some res → sx_At D b K YX12_laysThrees (sx_rm 3) (sx_Ex none (sx_hp b uG uN uD uR uF uP uL uT uA uM uH xA xB xC xD xE xF xG xH xI xJ res xL uO G)) 9 [(0, .ref (b + 38)), (1, .int v1), (2, .int v2), (3, .int v3)] [] (sx_hp b uG uN uD uR uF uP uL uT uA uM uH xA xB xC xD xE xF xG xH xI xJ xK xL uO G) 0 0) : ∀ (v1 : Int32) (v2 : Int32) (v3 : Int32) (xK : sx_C), f_X12_laysThrees_46 N k9 xA v1 v2 v3 xK = some res → sx_At D b K YX12_laysThrees (sx_rm 3) (sx_Ex none (sx_hp b uG uN uD uR uF uP uL uT uA uM uH xA xB xC xD xE xF xG xH xI xJ res xL uO G)) 46 [(0, .ref (b + 38)), (1, .int v1), (2, .int v2), (3, .int v3)] [] (sx_hp b uG uN uD uR uF uP uL uT uA uM uH xA xB xC xD xE xF xG xH xI xJ xK xL uO G) 0 0 := by
  intro v1 v2 v3 xK h
  rw [f_X12_laysThrees_46] at h
  refine at_iinc 3 1 [(0, .ref (b + 38)), (1, .int v1), (2, .int v2), (3, .int (v3 + 1))] dX12_laysThrees_46 rfl ic_1 (Nat.le_of_ble_eq_true rfl) rfl ?_
  refine at_goto 9 dX12_laysThrees_49 (by decide) ?_
  exact hk9 _ _ _ _ h
set_option maxRecDepth 100000 in
theorem t_X12_laysThrees_9 {D : va_G} {b : Nat} {K : State → Heap → Prop} {sa : Nat → Nat} (hK : sx_Kk b K sa) (N : Nat) {uG uN uD uR uF uP uL uT uA uM uH xA xB xC xD xE xF xG xH xI xJ xL uO : sx_C} {G : sx_H} (res : sx_C) : ∀ (n0 : Nat) (v1 : Int32) (v2 : Int32) (v3 : Int32) (xK : sx_C), f_X12_laysThrees_9 N xA n0 v1 v2 v3 xK = some res → sx_At D b K YX12_laysThrees (sx_rm 3) (sx_Ex none (sx_hp b uG uN uD uR uF uP uL uT uA uM uH xA xB xC xD xE xF xG xH xI xJ res xL uO G)) 9 [(0, .ref (b + 38)), (1, .int v1), (2, .int v2), (3, .int v3)] [] (sx_hp b uG uN uD uR uF uP uL uT uA uM uH xA xB xC xD xE xF xG xH xI xJ xK xL uO G) 0 0 := by
  intro n0
  induction n0 with
  | zero => intro _ _ _ _ h; cases h
  | succ n0 ih =>
    intro v1 v2 v3 xK h
    rw [f_X12_laysThrees_9] at h
    refine at_iload_n 3 dX12_laysThrees_9 rfl ?_
    refine at_aload_n 0 dX12_laysThrees_10 rfl ?_
    refine at_getf cl_X12 (by decide) fl_X12_198 hg_38 rfl dX12_laysThrees_11 ?_
    refine at_icmp_ge 52 dX12_laysThrees_14 (by decide) (fun c1 => ?_) (fun c1 => ?_)
    · rw [if_pos c1] at h
      refine at_iconst 0 dX12_laysThrees_52 ic_0 ?_
      refine at_istore_n [(0, .ref (b + 38)), (1, .int v1), (2, .int v2), (3, .int 0)] dX12_laysThrees_53 (Nat.le_of_ble_eq_true rfl) rfl ?_
      refine at_sub [0, 1, 3] [(0, .ref (b + 38)), (1, .int v1), (3, .int 0)] rfl ?_
      exact t_X12_laysThrees_54 hK N _ N _ _ _ h
    · rw [if_neg c1] at h
      refine at_aload_n 0 dX12_laysThrees_17 rfl ?_
      refine at_getf cl_X12 (by decide) fl_X12_61 hg_38 rfl dX12_laysThrees_18 ?_
      refine at_iload_n 3 dX12_laysThrees_21 rfl ?_
      refine at_iconst 0 dX12_laysThrees_22 ic_0 ?_
      obtain ⟨hi2, h⟩ := sp_chk h
      refine at_iast hg_54 hi2 hs_54 dX12_laysThrees_23 ?_
      refine at_iload_n 2 dX12_laysThrees_24 rfl ?_
      refine at_iload_n 3 dX12_laysThrees_25 rfl ?_
      refine at_ishr dX12_laysThrees_26 ?_
      refine at_iconst 1 dX12_laysThrees_27 ic_1 ?_
      refine at_iand dX12_laysThrees_28 ?_
      refine at_if_ne 35 dX12_laysThrees_29 (by decide) (fun c3 => ?_) (fun c3 => ?_)
      · rw [if_neg c3] at h
        refine at_aload_n 0 dX12_laysThrees_35 rfl ?_
        refine at_getf cl_X12 (by decide) fl_X12_61 hg_38 rfl dX12_laysThrees_36 ?_
        refine at_iload_n 3 dX12_laysThrees_39 rfl ?_
        refine at_iload_n 1 dX12_laysThrees_40 rfl ?_
        obtain ⟨hi4, h⟩ := sp_chk h
        refine at_iast hg_54 hi4 hs_54 dX12_laysThrees_41 ?_
        refine at_iload_n 1 dX12_laysThrees_42 rfl ?_
        refine at_iconst 3 dX12_laysThrees_43 ic_3 ?_
        refine at_imul dX12_laysThrees_44 ?_
        refine at_istore_n [(0, .ref (b + 38)), (1, .int (v1 * 3)), (2, .int v2), (3, .int v3)] dX12_laysThrees_45 (Nat.le_of_ble_eq_true rfl) rfl ?_
        exact t_X12_laysThrees_46 hK N _ ih _ _ _ _ h
      · rw [if_pos c3] at h
        refine at_goto 46 dX12_laysThrees_32 (by decide) ?_
        exact t_X12_laysThrees_46 hK N _ ih _ _ _ _ h
set_option maxRecDepth 100000 in
theorem t_X12_laysThrees {D : va_G} {b : Nat} {K : State → Heap → Prop} {sa : Nat → Nat} (hK : sx_Kk b K sa) {N : Nat} {uG uN uD uR uF uP uL uT uA uM uH xA xB xC xD xE xF xG xH xI xJ xL uO : sx_C} {G : sx_H} {xK : sx_C} {res : sx_C} (h : f_X12_laysThrees N xA xK = some res) : sx_Runs D b K yX12_laysThrees YX12_laysThrees (sx_rm 3) [.ref (b + 38)] (sx_hp b uG uN uD uR uF uP uL uT uA uM uH xA xB xC xD xE xF xG xH xI xJ xK xL uO G) (sx_Ex none (sx_hp b uG uN uD uR uF uP uL uT uA uM uH xA xB xC xD xE xF xG xH xI xJ res xL uO G)) := by
  rw [f_X12_laysThrees] at h
  refine sx_run (by decide +kernel) rfl rfl (Nat.le_of_ble_eq_true rfl) ?_
  refine at_iconst 1 dX12_laysThrees_0 ic_1 ?_
  refine at_istore_n [(0, .ref (b + 38)), (1, .int 1)] dX12_laysThrees_1 (Nat.le_of_ble_eq_true rfl) rfl ?_
  refine at_aload_n 0 dX12_laysThrees_2 rfl ?_
  obtain ⟨q7, hq7, h⟩ := sp_bind h
  refine at_callVi (st := []) hK mt_X12_openNow ml_X12_298 cl_X12 hg_38 (t_X12_openNow hK hq7) rfl rfl (Nat.le_of_ble_eq_true rfl) ⟨Nat.le_of_ble_eq_true rfl, Nat.le_of_ble_eq_true rfl⟩ ⟨Nat.le_refl _, Nat.le_refl _⟩ dX12_laysThrees_3 ?_
  refine at_istore_n [(0, .ref (b + 38)), (1, .int 1), (2, .int q7)] dX12_laysThrees_6 (Nat.le_of_ble_eq_true rfl) rfl ?_
  refine at_iconst 0 dX12_laysThrees_7 ic_0 ?_
  refine at_istore_n [(0, .ref (b + 38)), (1, .int 1), (2, .int q7), (3, .int 0)] dX12_laysThrees_8 (Nat.le_of_ble_eq_true rfl) rfl ?_
  exact t_X12_laysThrees_9 hK N _ N _ _ _ _ h
set_option maxRecDepth 100000 in
theorem t_X12_winner_148 {D : va_G} {b : Nat} {K : State → Heap → Prop} {sa : Nat → Nat} (hK : sx_Kk b K sa) (N : Nat) {δ : Nat} {kR : Int32 → Int32 → Int32 → Int32 → sx_C → sx_C → Option (Int32 × sx_C × sx_C)} {uG uN uD uR uF uP uL uT uA uM uH xA xB xC xE xF xG xH xI xJ xL uO : sx_C} {G : sx_H} (res : Int32 × sx_C × sx_C) (hR : ∀ (v1 : Int32) (v2 : Int32) (v3 : Int32) (v4 : Int32) (xD : sx_C) (xK : sx_C) (res : Int32 × sx_C × sx_C), kR v1 v2 v3 v4 xD xK = some res → sx_Runs D b K yX12_winner YX12_winner (sx_rm (4 + δ)) [.ref (b + 38), .int v1, .int v2, .int v3, .int v4] (sx_hp b uG uN uD uR uF uP uL uT uA uM uH xA xB xC xD xE xF xG xH xI xJ xK xL uO G) (sx_Ex (some (.int res.1)) (sx_hp b uG uN uD uR uF uP uL uT uA uM uH xA xB xC (res.2.1) xE xF xG xH xI xJ (res.2.2) xL uO G))) : ∀ (v1 : Int32) (v4 : Int32) (v5 : Int32) (xD : sx_C) (xK : sx_C), f_X12_winner_148 N kR xA v1 v4 v5 xD xK = some res → sx_At D b K YX12_winner (sx_rm (4 + δ + 1)) (sx_Ex (some (.int res.1)) (sx_hp b uG uN uD uR uF uP uL uT uA uM uH xA xB xC (res.2.1) xE xF xG xH xI xJ (res.2.2) xL uO G)) 148 [(0, .ref (b + 38)), (1, .int v1), (4, .int v4), (5, .int v5)] [] (sx_hp b uG uN uD uR uF uP uL uT uA uM uH xA xB xC xD xE xF xG xH xI xJ xK xL uO G) 0 0 := by
  intro v1 v4 v5 xD xK h
  rw [f_X12_winner_148] at h
  refine at_aload_n 0 dX12_winner_148 rfl ?_
  refine at_getf cl_X12 (by decide) fl_X12_57 hg_38 rfl dX12_winner_149 ?_
  refine at_iconst 2 dX12_winner_152 ic_2 ?_
  refine at_iload_n 1 dX12_winner_153 rfl ?_
  refine at_imul dX12_winner_154 ?_
  refine at_iload 2 dX12_winner_155 rfl ?_
  refine at_iadd dX12_winner_157 ?_
  refine at_iload 3 dX12_winner_158 rfl ?_
  refine at_iconst 1 dX12_winner_160 ic_1 ?_
  refine at_iadd dX12_winner_161 ?_
  refine at_i2b dX12_winner_162 ?_
  obtain ⟨hi9, h⟩ := sp_chk h
  refine at_bast hg_53 hi9 hs_53 dX12_winner_163 ?_
  refine at_iload 3 dX12_winner_164 rfl ?_
  cases h; exact at_iret rfl (Nat.le_refl _) (Nat.le_refl _) ⟨rfl, rfl⟩ dX12_winner_166
set_option maxRecDepth 100000 in
theorem t_X12_winner_142 {D : va_G} {b : Nat} {K : State → Heap → Prop} {sa : Nat → Nat} (hK : sx_Kk b K sa) (N : Nat) {δ : Nat} {kR : Int32 → Int32 → Int32 → Int32 → sx_C → sx_C → Option (Int32 × sx_C × sx_C)} {k59 : Int32 → Int32 → Int32 → Int32 → Int32 → Int32 → Int32 → sx_C → sx_C → Option (Int32 × sx_C × sx_C)} {uG uN uD uR uF uP uL uT uA uM uH xA xB xC xE xF xG xH xI xJ xL uO : sx_C} {G : sx_H} (res : Int32 × sx_C × sx_C) (hR : ∀ (v1 : Int32) (v2 : Int32) (v3 : Int32) (v4 : Int32) (xD : sx_C) (xK : sx_C) (res : Int32 × sx_C × sx_C), kR v1 v2 v3 v4 xD xK = some res → sx_Runs D b K yX12_winner YX12_winner (sx_rm (4 + δ)) [.ref (b + 38), .int v1, .int v2, .int v3, .int v4] (sx_hp b uG uN uD uR uF uP uL uT uA uM uH xA xB xC xD xE xF xG xH xI xJ xK xL uO G) (sx_Ex (some (.int res.1)) (sx_hp b uG uN uD uR uF uP uL uT uA uM uH xA xB xC (res.2.1) xE xF xG xH xI xJ (res.2.2) xL uO G))) (hk59 : ∀ (v1 : Int32) (v2 : Int32) (v3 : Int32) (v4 : Int32) (v5 : Int32) (v6 : Int32) (v7 : Int32) (xD : sx_C) (xK : sx_C), k59 v1 v2 v3 v4 v5 v6 v7 xD xK = some res → sx_At D b K YX12_winner (sx_rm (4 + δ + 1)) (sx_Ex (some (.int res.1)) (sx_hp b uG uN uD uR uF uP uL uT uA uM uH xA xB xC (res.2.1) xE xF xG xH xI xJ (res.2.2) xL uO G)) 59 [(0, .ref (b + 38)), (1, .int v1), (2, .int v2), (3, .int v3), (4, .int v4), (5, .int v5), (6, .int v6), (7, .int v7)] [] (sx_hp b uG uN uD uR uF uP uL uT uA uM uH xA xB xC xD xE xF xG xH xI xJ xK xL uO G) 0 0) : ∀ (v1 : Int32) (v2 : Int32) (v3 : Int32) (v4 : Int32) (v5 : Int32) (v6 : Int32) (v7 : Int32) (xD : sx_C) (xK : sx_C), f_X12_winner_142 N kR k59 xA v1 v2 v3 v4 v5 v6 v7 xD xK = some res → sx_At D b K YX12_winner (sx_rm (4 + δ + 1)) (sx_Ex (some (.int res.1)) (sx_hp b uG uN uD uR uF uP uL uT uA uM uH xA xB xC (res.2.1) xE xF xG xH xI xJ (res.2.2) xL uO G)) 142 [(0, .ref (b + 38)), (1, .int v1), (2, .int v2), (3, .int v3), (4, .int v4), (5, .int v5), (6, .int v6), (7, .int v7)] [] (sx_hp b uG uN uD uR uF uP uL uT uA uM uH xA xB xC xD xE xF xG xH xI xJ xK xL uO G) 0 0 := by
  intro v1 v2 v3 v4 v5 v6 v7 xD xK h
  rw [f_X12_winner_142] at h
  refine at_iinc 7 1 [(0, .ref (b + 38)), (1, .int v1), (2, .int v2), (3, .int v3), (4, .int v4), (5, .int v5), (6, .int v6), (7, .int (v7 + 1))] dX12_winner_142 rfl ic_1 (Nat.le_of_ble_eq_true rfl) rfl ?_
  refine at_goto 59 dX12_winner_145 (by decide) ?_
  exact hk59 _ _ _ _ _ _ _ _ _ h
set_option maxRecDepth 100000 in
theorem t_X12_winner_140 {D : va_G} {b : Nat} {K : State → Heap → Prop} {sa : Nat → Nat} (hK : sx_Kk b K sa) (N : Nat) {δ : Nat} {kR : Int32 → Int32 → Int32 → Int32 → sx_C → sx_C → Option (Int32 × sx_C × sx_C)} {k59 : Int32 → Int32 → Int32 → Int32 → Int32 → Int32 → Int32 → sx_C → sx_C → Option (Int32 × sx_C × sx_C)} {uG uN uD uR uF uP uL uT uA uM uH xA xB xC xE xF xG xH xI xJ xL uO : sx_C} {G : sx_H} (res : Int32 × sx_C × sx_C) (hR : ∀ (v1 : Int32) (v2 : Int32) (v3 : Int32) (v4 : Int32) (xD : sx_C) (xK : sx_C) (res : Int32 × sx_C × sx_C), kR v1 v2 v3 v4 xD xK = some res → sx_Runs D b K yX12_winner YX12_winner (sx_rm (4 + δ)) [.ref (b + 38), .int v1, .int v2, .int v3, .int v4] (sx_hp b uG uN uD uR uF uP uL uT uA uM uH xA xB xC xD xE xF xG xH xI xJ xK xL uO G) (sx_Ex (some (.int res.1)) (sx_hp b uG uN uD uR uF uP uL uT uA uM uH xA xB xC (res.2.1) xE xF xG xH xI xJ (res.2.2) xL uO G))) (hk59 : ∀ (v1 : Int32) (v2 : Int32) (v3 : Int32) (v4 : Int32) (v5 : Int32) (v6 : Int32) (v7 : Int32) (xD : sx_C) (xK : sx_C), k59 v1 v2 v3 v4 v5 v6 v7 xD xK = some res → sx_At D b K YX12_winner (sx_rm (4 + δ + 1)) (sx_Ex (some (.int res.1)) (sx_hp b uG uN uD uR uF uP uL uT uA uM uH xA xB xC (res.2.1) xE xF xG xH xI xJ (res.2.2) xL uO G)) 59 [(0, .ref (b + 38)), (1, .int v1), (2, .int v2), (3, .int v3), (4, .int v4), (5, .int v5), (6, .int v6), (7, .int v7)] [] (sx_hp b uG uN uD uR uF uP uL uT uA uM uH xA xB xC xD xE xF xG xH xI xJ xK xL uO G) 0 0) : ∀ (v1 : Int32) (v2 : Int32) (v3 : Int32) (v4 : Int32) (v6 : Int32) (v7 : Int32) (s0 : Int32) (xD : sx_C) (xK : sx_C), f_X12_winner_140 N kR k59 xA v1 v2 v3 v4 v6 v7 s0 xD xK = some res → sx_At D b K YX12_winner (sx_rm (4 + δ + 1)) (sx_Ex (some (.int res.1)) (sx_hp b uG uN uD uR uF uP uL uT uA uM uH xA xB xC (res.2.1) xE xF xG xH xI xJ (res.2.2) xL uO G)) 140 [(0, .ref (b + 38)), (1, .int v1), (2, .int v2), (3, .int v3), (4, .int v4), (6, .int v6), (7, .int v7)] [.int s0] (sx_hp b uG uN uD uR uF uP uL uT uA uM uH xA xB xC xD xE xF xG xH xI xJ xK xL uO G) 0 0 := by
  intro v1 v2 v3 v4 v6 v7 s0 xD xK h
  rw [f_X12_winner_140] at h
  refine at_istore [(0, .ref (b + 38)), (1, .int v1), (2, .int v2), (3, .int v3), (4, .int v4), (5, .int s0), (6, .int v6), (7, .int v7)] dX12_winner_140 (Nat.le_of_ble_eq_true rfl) rfl ?_
  exact t_X12_winner_142 hK N _ hR hk59 _ _ _ _ _ _ _ _ _ h
set_option maxRecDepth 100000 in
theorem t_X12_winner_59 {D : va_G} {b : Nat} {K : State → Heap → Prop} {sa : Nat → Nat} (hK : sx_Kk b K sa) (N : Nat) {δ : Nat} {kR : Int32 → Int32 → Int32 → Int32 → sx_C → sx_C → Option (Int32 × sx_C × sx_C)} {uG uN uD uR uF uP uL uT uA uM uH xA xB xC xE xF xG xH xI xJ xL uO : sx_C} {G : sx_H} (res : Int32 × sx_C × sx_C) (hR : ∀ (v1 : Int32) (v2 : Int32) (v3 : Int32) (v4 : Int32) (xD : sx_C) (xK : sx_C) (res : Int32 × sx_C × sx_C), kR v1 v2 v3 v4 xD xK = some res → sx_Runs D b K yX12_winner YX12_winner (sx_rm (4 + δ)) [.ref (b + 38), .int v1, .int v2, .int v3, .int v4] (sx_hp b uG uN uD uR uF uP uL uT uA uM uH xA xB xC xD xE xF xG xH xI xJ xK xL uO G) (sx_Ex (some (.int res.1)) (sx_hp b uG uN uD uR uF uP uL uT uA uM uH xA xB xC (res.2.1) xE xF xG xH xI xJ (res.2.2) xL uO G))) : ∀ (n0 : Nat) (v1 : Int32) (v2 : Int32) (v3 : Int32) (v4 : Int32) (v5 : Int32) (v6 : Int32) (v7 : Int32) (xD : sx_C) (xK : sx_C), f_X12_winner_59 N kR xA n0 v1 v2 v3 v4 v5 v6 v7 xD xK = some res → sx_At D b K YX12_winner (sx_rm (4 + δ + 1)) (sx_Ex (some (.int res.1)) (sx_hp b uG uN uD uR uF uP uL uT uA uM uH xA xB xC (res.2.1) xE xF xG xH xI xJ (res.2.2) xL uO G)) 59 [(0, .ref (b + 38)), (1, .int v1), (2, .int v2), (3, .int v3), (4, .int v4), (5, .int v5), (6, .int v6), (7, .int v7)] [] (sx_hp b uG uN uD uR uF uP uL uT uA uM uH xA xB xC xD xE xF xG xH xI xJ xK xL uO G) 0 0 := by
  intro n0
  induction n0 with
  | zero => intro _ _ _ _ _ _ _ _ _ h; cases h
  | succ n0 ih =>
    intro v1 v2 v3 v4 v5 v6 v7 xD xK h
    rw [f_X12_winner_59] at h
    refine at_iload 7 dX12_winner_59 rfl ?_
    refine at_aload_n 0 dX12_winner_61 rfl ?_
    refine at_getf cl_X12 (by decide) fl_X12_198 hg_38 rfl dX12_winner_62 ?_
    refine at_icmp_ge 148 dX12_winner_65 (by decide) (fun c1 => ?_) (fun c1 => ?_)
    · rw [if_pos c1] at h
      refine at_sub [0, 1, 4, 5] [(0, .ref (b + 38)), (1, .int v1), (4, .int v4), (5, .int v5)] rfl ?_
      exact t_X12_winner_148 hK N _ hR _ _ _ _ _ h
    · rw [if_neg c1] at h
      refine at_iload 5 dX12_winner_68 rfl ?_
      refine at_iload 4 dX12_winner_70 rfl ?_
      refine at_icmp_eq 148 dX12_winner_72 (by decide) (fun c2 => ?_) (fun c2 => ?_)
      · rw [if_pos c2] at h
        refine at_sub [0, 1, 4, 5] [(0, .ref (b + 38)), (1, .int v1), (4, .int v4), (5, .int v5)] rfl ?_
        exact t_X12_winner_148 hK N _ hR _ _ _ _ _ h
      · rw [if_neg c2] at h
        refine at_iload 6 dX12_winner_75 rfl ?_
        refine at_iload 7 dX12_winner_77 rfl ?_
        refine at_ishr dX12_winner_79 ?_
        refine at_iconst 1 dX12_winner_80 ic_1 ?_
        refine at_iand dX12_winner_81 ?_
        refine at_if_ne 88 dX12_winner_82 (by decide) (fun c3 => ?_) (fun c3 => ?_)
        · rw [if_neg c3] at h
          refine at_iload 4 dX12_winner_88 rfl ?_
          refine at_if_ne 117 dX12_winner_90 (by decide) (fun c4 => ?_) (fun c4 => ?_)
          · rw [if_neg c4] at h
            refine at_aload_n 0 dX12_winner_117 rfl ?_
            refine at_iload_n 1 dX12_winner_118 rfl ?_
            refine at_iconst 2 dX12_winner_119 ic_2 ?_
            refine at_aload_n 0 dX12_winner_120 rfl ?_
            refine at_getf cl_X12 (by decide) fl_X12_61 hg_38 rfl dX12_winner_121 ?_
            refine at_iload 7 dX12_winner_124 rfl ?_
            obtain ⟨w5, hw5, h⟩ := sp_bind h
            refine at_iald hg_54 hw5 dX12_winner_126 ?_
            refine at_imul dX12_winner_127 ?_
            refine at_iadd dX12_winner_128 ?_
            refine at_iload_n 2 dX12_winner_129 rfl ?_
            refine at_iload_n 3 dX12_winner_130 rfl ?_
            refine at_iconst 1 dX12_winner_131 ic_1 ?_
            refine at_iload 7 dX12_winner_132 rfl ?_
            refine at_ishl dX12_winner_134 ?_
            refine at_ior dX12_winner_135 ?_
            refine at_iconst 0 dX12_winner_136 ic_0 ?_
            obtain ⟨q6, hq6, h⟩ := sp_bind h
            refine at_callVi (st := []) hK mt_X12_winner ml_X12_364 cl_X12 hg_38 (hR _ _ _ _ _ _ _ hq6) rfl rfl (Nat.le_of_ble_eq_true rfl) ⟨(by show (4 + δ) + 1 ≤ 4 + δ + 1; omega), (by show 8 + (8 + 11) + 100 * (4 + δ) ≤ 100 * (4 + δ + 1); omega)⟩ ⟨Nat.le_refl _, Nat.le_refl _⟩ dX12_winner_137 ?_
            refine at_sub [0, 1, 2, 3, 4, 6, 7] [(0, .ref (b + 38)), (1, .int v1), (2, .int v2), (3, .int v3), (4, .int v4), (6, .int v6), (7, .int v7)] rfl ?_
            exact t_X12_winner_140 hK N _ hR ih _ _ _ _ _ _ _ _ _ h
          · rw [if_pos c4] at h
            refine at_aload_n 0 dX12_winner_93 rfl ?_
            refine at_iload_n 1 dX12_winner_94 rfl ?_
            refine at_aload_n 0 dX12_winner_95 rfl ?_
            refine at_getf cl_X12 (by decide) fl_X12_61 hg_38 rfl dX12_winner_96 ?_
            refine at_iload 7 dX12_winner_99 rfl ?_
            obtain ⟨w7, hw7, h⟩ := sp_bind h
            refine at_iald hg_54 hw7 dX12_winner_101 ?_
            refine at_iadd dX12_winner_102 ?_
            refine at_iload_n 2 dX12_winner_103 rfl ?_
            refine at_iconst 1 dX12_winner_104 ic_1 ?_
            refine at_iload 7 dX12_winner_105 rfl ?_
            refine at_ishl dX12_winner_107 ?_
            refine at_ior dX12_winner_108 ?_
            refine at_iload_n 3 dX12_winner_109 rfl ?_
            refine at_iconst 1 dX12_winner_110 ic_1 ?_
            obtain ⟨q8, hq8, h⟩ := sp_bind h
            refine at_callVi (st := []) hK mt_X12_winner ml_X12_364 cl_X12 hg_38 (hR _ _ _ _ _ _ _ hq8) rfl rfl (Nat.le_of_ble_eq_true rfl) ⟨(by show (4 + δ) + 1 ≤ 4 + δ + 1; omega), (by show 8 + (8 + 11) + 100 * (4 + δ) ≤ 100 * (4 + δ + 1); omega)⟩ ⟨Nat.le_refl _, Nat.le_refl _⟩ dX12_winner_111 ?_
            refine at_goto 140 dX12_winner_114 (by decide) ?_
            refine at_sub [0, 1, 2, 3, 4, 6, 7] [(0, .ref (b + 38)), (1, .int v1), (2, .int v2), (3, .int v3), (4, .int v4), (6, .int v6), (7, .int v7)] rfl ?_
            exact t_X12_winner_140 hK N _ hR ih _ _ _ _ _ _ _ _ _ h
        · rw [if_pos c3] at h
          refine at_goto 142 dX12_winner_85 (by decide) ?_
          exact t_X12_winner_142 hK N _ hR ih _ _ _ _ _ _ _ _ _ h
set_option maxRecDepth 100000 in
theorem t_X12_winner_rec {D : va_G} {b : Nat} {K : State → Heap → Prop} {sa : Nat → Nat} (hK : sx_Kk b K sa) {N : Nat} {uG uN uD uR uF uP uL uT uA uM uH xA xB xC xE xF xG xH xI xJ xL uO : sx_C} {G : sx_H} : ∀ (δ : Nat), ∀ (v1 : Int32) (v2 : Int32) (v3 : Int32) (v4 : Int32) (xD : sx_C) (xK : sx_C) (res : Int32 × sx_C × sx_C), f_X12_winner N xA δ v1 v2 v3 v4 xD xK = some res → sx_Runs D b K yX12_winner YX12_winner (sx_rm (4 + δ)) [.ref (b + 38), .int v1, .int v2, .int v3, .int v4] (sx_hp b uG uN uD uR uF uP uL uT uA uM uH xA xB xC xD xE xF xG xH xI xJ xK xL uO G) (sx_Ex (some (.int res.1)) (sx_hp b uG uN uD uR uF uP uL uT uA uM uH xA xB xC (res.2.1) xE xF xG xH xI xJ (res.2.2) xL uO G)) := by
  intro δ
  induction δ with
  | zero => intro _ _ _ _ _ _ _ h; cases h
  | succ δ ihR =>
    intro v1 v2 v3 v4 xD xK res h
    have hR := ihR
    rw [f_X12_winner] at h
    refine sx_run (by decide +kernel) rfl rfl (Nat.le_of_ble_eq_true rfl) ?_
    refine at_aload_n 0 dX12_winner_0 rfl ?_
    refine at_getf cl_X12 (by decide) fl_X12_57 hg_38 rfl dX12_winner_1 ?_
    refine at_iconst 2 dX12_winner_4 ic_2 ?_
    refine at_iload_n 1 dX12_winner_5 rfl ?_
    refine at_imul dX12_winner_6 ?_
    refine at_iload 4 dX12_winner_7 rfl ?_
    refine at_iadd dX12_winner_9 ?_
    obtain ⟨w10, hw10, h⟩ := sp_bind h
    refine at_bald hg_53 hw10 dX12_winner_10 ?_
    refine at_if_le 28 dX12_winner_11 (by decide) (fun c11 => ?_) (fun c11 => ?_)
    · rw [if_pos c11] at h
      refine at_aload_n 0 dX12_winner_28 rfl ?_
      refine at_iload_n 2 dX12_winner_29 rfl ?_
      refine at_iload_n 3 dX12_winner_30 rfl ?_
      obtain ⟨q12, hq12, h⟩ := sp_bind h
      refine at_callVi (st := []) hK mt_X12_has ml_X12_301 cl_X12 hg_38 (t_X12_has hK hq12) rfl rfl (Nat.le_of_ble_eq_true rfl) ⟨(by show 3 + 1 ≤ 4 + δ + 1; omega), (by show 8 + (3 + 11) + 100 * 3 ≤ 100 * (4 + δ + 1); omega)⟩ ⟨Nat.le_refl _, Nat.le_refl _⟩ dX12_winner_31 ?_
      refine at_istore [(0, .ref (b + 38)), (1, .int v1), (2, .int v2), (3, .int v3), (4, .int v4), (5, .int (q12.1))] dX12_winner_34 (Nat.le_of_ble_eq_true rfl) rfl ?_
      refine at_iload 5 dX12_winner_36 rfl ?_
      refine at_iconst 2 dX12_winner_38 ic_2 ?_
      refine at_icmp_ne 148 dX12_winner_39 (by decide) (fun c13 => ?_) (fun c13 => ?_)
      · rw [if_neg c13] at h
        refine at_sub [0, 1, 4, 5] [(0, .ref (b + 38)), (1, .int v1), (4, .int v4), (5, .int (q12.1))] rfl ?_
        exact t_X12_winner_148 hK N _ hR _ _ _ _ _ h
      · rw [if_pos c13] at h
        refine at_iconst 1 dX12_winner_42 ic_1 ?_
        refine at_iload 4 dX12_winner_43 rfl ?_
        refine at_isub dX12_winner_45 ?_
        refine at_istore [(0, .ref (b + 38)), (1, .int v1), (2, .int v2), (3, .int v3), (4, .int v4), (5, .int (1 - v4))] dX12_winner_46 (Nat.le_of_ble_eq_true rfl) rfl ?_
        refine at_aload_n 0 dX12_winner_48 rfl ?_
        refine at_iload_n 2 dX12_winner_49 rfl ?_
        refine at_iload_n 3 dX12_winner_50 rfl ?_
        obtain ⟨q14, hq14, h⟩ := sp_bind h
        refine at_callVi (st := []) hK mt_X12_open ml_X12_226 cl_X12 hg_38 (t_X12_open hK hq14) rfl rfl (Nat.le_of_ble_eq_true rfl) ⟨(by show 1 + 1 ≤ 4 + δ + 1; omega), (by show 8 + (3 + 11) + 100 * 1 ≤ 100 * (4 + δ + 1); omega)⟩ ⟨Nat.le_refl _, Nat.le_refl _⟩ dX12_winner_51 ?_
        refine at_istore [(0, .ref (b + 38)), (1, .int v1), (2, .int v2), (3, .int v3), (4, .int v4), (5, .int (1 - v4)), (6, .int q14)] dX12_winner_54 (Nat.le_of_ble_eq_true rfl) rfl ?_
        refine at_iconst 0 dX12_winner_56 ic_0 ?_
        refine at_istore [(0, .ref (b + 38)), (1, .int v1), (2, .int v2), (3, .int v3), (4, .int v4), (5, .int (1 - v4)), (6, .int q14), (7, .int 0)] dX12_winner_57 (Nat.le_of_ble_eq_true rfl) rfl ?_
        exact t_X12_winner_59 hK N _ hR N _ _ _ _ _ _ _ _ _ h
    · rw [if_neg c11] at h
      refine at_aload_n 0 dX12_winner_14 rfl ?_
      refine at_getf cl_X12 (by decide) fl_X12_57 hg_38 rfl dX12_winner_15 ?_
      refine at_iconst 2 dX12_winner_18 ic_2 ?_
      refine at_iload_n 1 dX12_winner_19 rfl ?_
      refine at_imul dX12_winner_20 ?_
      refine at_iload 4 dX12_winner_21 rfl ?_
      refine at_iadd dX12_winner_23 ?_
      obtain ⟨w15, hw15, h⟩ := sp_bind h
      refine at_bald hg_53 hw15 dX12_winner_24 ?_
      refine at_iconst 1 dX12_winner_25 ic_1 ?_
      refine at_isub dX12_winner_26 ?_
      cases h; exact at_iret rfl (Nat.le_refl _) (Nat.le_refl _) ⟨rfl, rfl⟩ dX12_winner_27
theorem t_X12_winner {D : va_G} {b : Nat} {K : State → Heap → Prop} {sa : Nat → Nat} (hK : sx_Kk b K sa) {N : Nat} {uG uN uD uR uF uP uL uT uA uM uH xA xB xC xE xF xG xH xI xJ xL uO : sx_C} {G : sx_H} {v1 : Int32} {v2 : Int32} {v3 : Int32} {v4 : Int32} {xD : sx_C} {xK : sx_C} {δ : Nat} {res : Int32 × sx_C × sx_C} (h : f_X12_winner N xA δ v1 v2 v3 v4 xD xK = some res) : sx_Runs D b K yX12_winner YX12_winner (sx_rm (4 + δ)) [.ref (b + 38), .int v1, .int v2, .int v3, .int v4] (sx_hp b uG uN uD uR uF uP uL uT uA uM uH xA xB xC xD xE xF xG xH xI xJ xK xL uO G) (sx_Ex (some (.int res.1)) (sx_hp b uG uN uD uR uF uP uL uT uA uM uH xA xB xC (res.2.1) xE xF xG xH xI xJ (res.2.2) xL uO G)) := t_X12_winner_rec hK δ _ _ _ _ _ _ _ h
set_option maxRecDepth 100000 in
theorem t_X12_full {D : va_G} {b : Nat} {K : State → Heap → Prop} {sa : Nat → Nat} (hK : sx_Kk b K sa) {N : Nat} {uG uN uD uR uF uP uL uT uA uM uH xA xC xE xF xG xH xI xJ xL uO : sx_C} {G : sx_H} {v1 : Int32} {xB : sx_C} {xD : sx_C} {xK : sx_C} {res : Int32 × sx_C × sx_C × sx_C} (h : f_X12_full N xA v1 xB xD xK = some res) : sx_Runs D b K yX12_full YX12_full (sx_rm 45) [.ref (b + 38), .int v1] (sx_hp b uG uN uD uR uF uP uL uT uA uM uH xA xB xC xD xE xF xG xH xI xJ xK xL uO G) (sx_Ex (some (.int res.1)) (sx_hp b uG uN uD uR uF uP uL uT uA uM uH xA (res.2.1) xC (res.2.2.1) xE xF xG xH xI xJ (res.2.2.2) xL uO G)) := by
  rw [f_X12_full] at h
  refine sx_run (by decide +kernel) rfl rfl (Nat.le_of_ble_eq_true rfl) ?_
  refine at_aload_n 0 dX12_full_0 rfl ?_
  refine at_iconst 0 dX12_full_1 ic_0 ?_
  refine at_putf cl_X12 (by decide) fl_X12_73 rfl hg_38 rfl rfl (Nat.le_of_ble_eq_true rfl) hs_38_0 dX12_full_2 ?_
  refine at_iload_n 1 dX12_full_5 rfl ?_
  refine at_if_lt 14 dX12_full_6 (by decide) (fun c1 => ?_) (fun c1 => ?_)
  · rw [if_pos c1] at h
    refine at_iconst (-1) dX12_full_14 ic_m1 ?_
    cases h; exact at_iret rfl (Nat.le_refl _) (Nat.le_refl _) ⟨rfl, rfl⟩ dX12_full_15
  · rw [if_neg c1] at h
    refine at_iload_n 1 dX12_full_9 rfl ?_
    refine at_iconst 1 dX12_full_10 ic_1 ?_
    refine at_icmp_le 16 dX12_full_11 (by decide) (fun c2 => ?_) (fun c2 => ?_)
    · rw [if_pos c2] at h
      refine at_aload_n 0 dX12_full_16 rfl ?_
      obtain ⟨q3, hq3, h⟩ := sp_bind h
      refine at_callVi (st := []) hK mt_X12_openNow ml_X12_298 cl_X12 hg_38 (t_X12_openNow hK hq3) rfl rfl (Nat.le_of_ble_eq_true rfl) ⟨Nat.le_of_ble_eq_true rfl, Nat.le_of_ble_eq_true rfl⟩ ⟨Nat.le_refl _, Nat.le_refl _⟩ dX12_full_17 ?_
      obtain ⟨q4, hq4, h⟩ := sp_bind h
      refine at_callSi (st := []) hK mt_X12_bits ml_X12_250 (t_X12_bits hK hq4) rfl rfl (Nat.le_of_ble_eq_true rfl) ⟨Nat.le_of_ble_eq_true rfl, Nat.le_of_ble_eq_true rfl⟩ ⟨Nat.le_refl _, Nat.le_refl _⟩ dX12_full_20 ?_
      refine at_bipush 10 dX12_full_23 bp_10 ?_
      refine at_icmp_le 31 dX12_full_25 (by decide) (fun c5 => ?_) (fun c5 => ?_)
      · rw [if_pos c5] at h
        refine at_aload_n 0 dX12_full_31 rfl ?_
        obtain ⟨q6, hq6, h⟩ := sp_bind h
        refine at_callVv (st := []) hK mt_X12_laysThrees ml_X12_367 cl_X12 hg_38 (t_X12_laysThrees hK hq6) rfl rfl (Nat.le_of_ble_eq_true rfl) ⟨Nat.le_of_ble_eq_true rfl, Nat.le_of_ble_eq_true rfl⟩ ⟨Nat.le_refl _, Nat.le_refl _⟩ dX12_full_32 ?_
        refine at_aload_n 0 dX12_full_35 rfl ?_
        refine at_iconst 0 dX12_full_36 ic_0 ?_
        refine at_aload_n 0 dX12_full_37 rfl ?_
        refine at_getf cl_X12 (by decide) fl_X12_201 hg_38 rfl dX12_full_38 ?_
        refine at_aload_n 0 dX12_full_41 rfl ?_
        refine at_getf cl_X12 (by decide) fl_X12_204 hg_38 rfl dX12_full_42 ?_
        refine at_iload_n 1 dX12_full_45 rfl ?_
        obtain ⟨q7, hq7, h⟩ := sp_bind h
        refine at_callVi (st := []) hK mt_X12_winner ml_X12_364 cl_X12 hg_38 (t_X12_winner hK hq7) rfl rfl (Nat.le_of_ble_eq_true rfl) ⟨Nat.le_of_ble_eq_true rfl, Nat.le_of_ble_eq_true rfl⟩ ⟨Nat.le_refl _, Nat.le_refl _⟩ dX12_full_46 ?_
        cases h; exact at_iret rfl (Nat.le_refl _) (Nat.le_refl _) ⟨rfl, rfl⟩ dX12_full_49
      · rw [if_neg c5] at h
        refine at_bipush (-2) dX12_full_28 bp_m2 ?_
        cases h; exact at_iret rfl (Nat.le_refl _) (Nat.le_refl _) ⟨rfl, rfl⟩ dX12_full_30
    · rw [if_neg c2] at h
      refine at_iconst (-1) dX12_full_14 ic_m1 ?_
      cases h; exact at_iret rfl (Nat.le_refl _) (Nat.le_refl _) ⟨rfl, rfl⟩ dX12_full_15
set_option maxRecDepth 100000 in
theorem t_X12_positions_83 {D : va_G} {b : Nat} {K : State → Heap → Prop} {sa : Nat → Nat} (hK : sx_Kk b K sa) (N : Nat) {k38 : Int32 → Int32 → Int32 → Int32 → sx_C → sx_C → Option (Int32 × sx_C × sx_C)} {k50 : Int32 → Int32 → Int32 → Int32 → Int32 → Int32 → sx_C → sx_C → Option (Int32 × sx_C × sx_C)} {uG uN uD uR uF uP uL uT uA uM uH xA xC xE xF xG xH xI xJ xK xL uO : sx_C} {G : sx_H} (res : Int32 × sx_C × sx_C) (hk38 : ∀ (v1 : Int32) (v2 : Int32) (v3 : Int32) (v4 : Int32) (xB : sx_C) (xD : sx_C), k38 v1 v2 v3 v4 xB xD = some res → sx_At D b K YX12_positions (sx_rm 4) (sx_Ex (some (.int res.1)) (sx_hp b uG uN uD uR uF uP uL uT uA uM uH xA (res.2.1) xC (res.2.2) xE xF xG xH xI xJ xK xL uO G)) 38 [(0, .ref (b + 38)), (1, .int v1), (2, .int v2), (3, .int v3), (4, .int v4)] [] (sx_hp b uG uN uD uR uF uP uL uT uA uM uH xA xB xC xD xE xF xG xH xI xJ xK xL uO G) 0 0) (hk50 : ∀ (v1 : Int32) (v2 : Int32) (v3 : Int32) (v4 : Int32) (v5 : Int32) (v6 : Int32) (xB : sx_C) (xD : sx_C), k50 v1 v2 v3 v4 v5 v6 xB xD = some res → sx_At D b K YX12_positions (sx_rm 4) (sx_Ex (some (.int res.1)) (sx_hp b uG uN uD uR uF uP uL uT uA uM uH xA (res.2.1) xC (res.2.2) xE xF xG xH xI xJ xK xL uO G)) 50 [(0, .ref (b + 38)), (1, .int v1), (2, .int v2), (3, .int v3), (4, .int v4), (5, .int v5), (6, .int v6)] [] (sx_hp b uG uN uD uR uF uP uL uT uA uM uH xA xB xC xD xE xF xG xH xI xJ xK xL uO G) 0 0) : ∀ (v1 : Int32) (v2 : Int32) (v4 : Int32) (v5 : Int32) (v6 : Int32) (s0 : Int32) (s1 : Int32) (xB : sx_C) (xD : sx_C), f_X12_positions_83 N k38 k50 xA v1 v2 v4 v5 v6 s0 s1 xB xD = some res → sx_At D b K YX12_positions (sx_rm 4) (sx_Ex (some (.int res.1)) (sx_hp b uG uN uD uR uF uP uL uT uA uM uH xA (res.2.1) xC (res.2.2) xE xF xG xH xI xJ xK xL uO G)) 83 [(0, .ref (b + 38)), (1, .int v1), (2, .int v2), (4, .int v4), (5, .int v5), (6, .int v6)] [.int s1, .int s0] (sx_hp b uG uN uD uR uF uP uL uT uA uM uH xA xB xC xD xE xF xG xH xI xJ xK xL uO G) 0 0 := by
  intro v1 v2 v4 v5 v6 s0 s1 xB xD h
  rw [f_X12_positions_83] at h
  refine at_iadd dX12_positions_83 ?_
  refine at_istore_n [(0, .ref (b + 38)), (1, .int v1), (2, .int v2), (3, .int (s0 + s1)), (4, .int v4), (5, .int v5), (6, .int v6)] dX12_positions_84 (Nat.le_of_ble_eq_true rfl) rfl ?_
  refine at_iload 6 dX12_positions_85 rfl ?_
  refine at_if_ne 93 dX12_positions_87 (by decide) (fun c4 => ?_) (fun c4 => ?_)
  · rw [if_neg c4] at h
    refine at_iload 6 dX12_positions_93 rfl ?_
    refine at_iconst 1 dX12_positions_95 ic_1 ?_
    refine at_isub dX12_positions_96 ?_
    refine at_iload 5 dX12_positions_97 rfl ?_
    refine at_iand dX12_positions_99 ?_
    refine at_istore [(0, .ref (b + 38)), (1, .int v1), (2, .int v2), (3, .int (s0 + s1)), (4, .int v4), (5, .int v5), (6, .int ((v6 - 1) &&& v5))] dX12_positions_100 (Nat.le_of_ble_eq_true rfl) rfl ?_
    refine at_goto 50 dX12_positions_102 (by decide) ?_
    exact hk50 _ _ _ _ _ _ _ _ h
  · rw [if_pos c4] at h
    refine at_goto 105 dX12_positions_90 (by decide) ?_
    refine at_iload 4 dX12_positions_105 rfl ?_
    refine at_if_ne 112 dX12_positions_107 (by decide) (fun c5 => ?_) (fun c5 => ?_)
    · rw [if_neg c5] at h
      refine at_iload 4 dX12_positions_112 rfl ?_
      refine at_iconst 1 dX12_positions_114 ic_1 ?_
      refine at_isub dX12_positions_115 ?_
      refine at_iload_n 2 dX12_positions_116 rfl ?_
      refine at_iand dX12_positions_117 ?_
      refine at_istore [(0, .ref (b + 38)), (1, .int v1), (2, .int v2), (3, .int (s0 + s1)), (4, .int ((v4 - 1) &&& v2)), (5, .int v5), (6, .int v6)] dX12_positions_118 (Nat.le_of_ble_eq_true rfl) rfl ?_
      refine at_goto 38 dX12_positions_120 (by decide) ?_
      refine at_sub [0, 1, 2, 3, 4] [(0, .ref (b + 38)), (1, .int v1), (2, .int v2), (3, .int (s0 + s1)), (4, .int ((v4 - 1) &&& v2))] rfl ?_
      exact hk38 _ _ _ _ _ _ h
    · rw [if_pos c5] at h
      refine at_iload_n 3 dX12_positions_110 rfl ?_
      cases h; exact at_iret rfl (Nat.le_refl _) (Nat.le_refl _) ⟨rfl, rfl⟩ dX12_positions_111
set_option maxRecDepth 100000 in
theorem t_X12_positions_78 {D : va_G} {b : Nat} {K : State → Heap → Prop} {sa : Nat → Nat} (hK : sx_Kk b K sa) (N : Nat) {k38 : Int32 → Int32 → Int32 → Int32 → sx_C → sx_C → Option (Int32 × sx_C × sx_C)} {k50 : Int32 → Int32 → Int32 → Int32 → Int32 → Int32 → sx_C → sx_C → Option (Int32 × sx_C × sx_C)} {uG uN uD uR uF uP uL uT uA uM uH xA xC xE xF xG xH xI xJ xK xL uO : sx_C} {G : sx_H} (res : Int32 × sx_C × sx_C) (hk38 : ∀ (v1 : Int32) (v2 : Int32) (v3 : Int32) (v4 : Int32) (xB : sx_C) (xD : sx_C), k38 v1 v2 v3 v4 xB xD = some res → sx_At D b K YX12_positions (sx_rm 4) (sx_Ex (some (.int res.1)) (sx_hp b uG uN uD uR uF uP uL uT uA uM uH xA (res.2.1) xC (res.2.2) xE xF xG xH xI xJ xK xL uO G)) 38 [(0, .ref (b + 38)), (1, .int v1), (2, .int v2), (3, .int v3), (4, .int v4)] [] (sx_hp b uG uN uD uR uF uP uL uT uA uM uH xA xB xC xD xE xF xG xH xI xJ xK xL uO G) 0 0) (hk50 : ∀ (v1 : Int32) (v2 : Int32) (v3 : Int32) (v4 : Int32) (v5 : Int32) (v6 : Int32) (xB : sx_C) (xD : sx_C), k50 v1 v2 v3 v4 v5 v6 xB xD = some res → sx_At D b K YX12_positions (sx_rm 4) (sx_Ex (some (.int res.1)) (sx_hp b uG uN uD uR uF uP uL uT uA uM uH xA (res.2.1) xC (res.2.2) xE xF xG xH xI xJ xK xL uO G)) 50 [(0, .ref (b + 38)), (1, .int v1), (2, .int v2), (3, .int v3), (4, .int v4), (5, .int v5), (6, .int v6)] [] (sx_hp b uG uN uD uR uF uP uL uT uA uM uH xA xB xC xD xE xF xG xH xI xJ xK xL uO G) 0 0) : ∀ (v1 : Int32) (v2 : Int32) (v4 : Int32) (v5 : Int32) (v6 : Int32) (s0 : Int32) (xB : sx_C) (xD : sx_C), f_X12_positions_78 N k38 k50 xA v1 v2 v4 v5 v6 s0 xB xD = some res → sx_At D b K YX12_positions (sx_rm 4) (sx_Ex (some (.int res.1)) (sx_hp b uG uN uD uR uF uP uL uT uA uM uH xA (res.2.1) xC (res.2.2) xE xF xG xH xI xJ xK xL uO G)) 78 [(0, .ref (b + 38)), (1, .int v1), (2, .int v2), (4, .int v4), (5, .int v5), (6, .int v6)] [.int s0] (sx_hp b uG uN uD uR uF uP uL uT uA uM uH xA xB xC xD xE xF xG xH xI xJ xK xL uO G) 0 0 := by
  intro v1 v2 v4 v5 v6 s0 xB xD h
  rw [f_X12_positions_78] at h
  refine at_iconst 1 dX12_positions_78 ic_1 ?_
  refine at_goto 83 dX12_positions_79 (by decide) ?_
  exact t_X12_positions_83 hK N _ hk38 hk50 _ _ _ _ _ _ _ _ _ h
set_option maxRecDepth 100000 in
theorem t_X12_positions_50 {D : va_G} {b : Nat} {K : State → Heap → Prop} {sa : Nat → Nat} (hK : sx_Kk b K sa) (N : Nat) {k38 : Int32 → Int32 → Int32 → Int32 → sx_C → sx_C → Option (Int32 × sx_C × sx_C)} {uG uN uD uR uF uP uL uT uA uM uH xA xC xE xF xG xH xI xJ xK xL uO : sx_C} {G : sx_H} (res : Int32 × sx_C × sx_C) (hk38 : ∀ (v1 : Int32) (v2 : Int32) (v3 : Int32) (v4 : Int32) (xB : sx_C) (xD : sx_C), k38 v1 v2 v3 v4 xB xD = some res → sx_At D b K YX12_positions (sx_rm 4) (sx_Ex (some (.int res.1)) (sx_hp b uG uN uD uR uF uP uL uT uA uM uH xA (res.2.1) xC (res.2.2) xE xF xG xH xI xJ xK xL uO G)) 38 [(0, .ref (b + 38)), (1, .int v1), (2, .int v2), (3, .int v3), (4, .int v4)] [] (sx_hp b uG uN uD uR uF uP uL uT uA uM uH xA xB xC xD xE xF xG xH xI xJ xK xL uO G) 0 0) : ∀ (n0 : Nat) (v1 : Int32) (v2 : Int32) (v3 : Int32) (v4 : Int32) (v5 : Int32) (v6 : Int32) (xB : sx_C) (xD : sx_C), f_X12_positions_50 N k38 xA n0 v1 v2 v3 v4 v5 v6 xB xD = some res → sx_At D b K YX12_positions (sx_rm 4) (sx_Ex (some (.int res.1)) (sx_hp b uG uN uD uR uF uP uL uT uA uM uH xA (res.2.1) xC (res.2.2) xE xF xG xH xI xJ xK xL uO G)) 50 [(0, .ref (b + 38)), (1, .int v1), (2, .int v2), (3, .int v3), (4, .int v4), (5, .int v5), (6, .int v6)] [] (sx_hp b uG uN uD uR uF uP uL uT uA uM uH xA xB xC xD xE xF xG xH xI xJ xK xL uO G) 0 0 := by
  intro n0
  induction n0 with
  | zero => intro _ _ _ _ _ _ _ _ h; cases h
  | succ n0 ih =>
    intro v1 v2 v3 v4 v5 v6 xB xD h
    rw [f_X12_positions_50] at h
    refine at_iload_n 3 dX12_positions_50 rfl ?_
    refine at_iload_n 1 dX12_positions_51 rfl ?_
    refine at_iconst 3 dX12_positions_52 ic_3 ?_
    refine at_icmp_eq 78 dX12_positions_53 (by decide) (fun c1 => ?_) (fun c1 => ?_)
    · rw [if_pos c1] at h
      refine at_sub [0, 1, 2, 4, 5, 6] [(0, .ref (b + 38)), (1, .int v1), (2, .int v2), (4, .int v4), (5, .int v5), (6, .int v6)] rfl ?_
      exact t_X12_positions_78 hK N _ hk38 ih _ _ _ _ _ _ _ _ h
    · rw [if_neg c1] at h
      refine at_aload_n 0 dX12_positions_56 rfl ?_
      refine at_aload_n 0 dX12_positions_57 rfl ?_
      refine at_getf cl_X12 (by decide) fl_X12_201 hg_38 rfl dX12_positions_58 ?_
      refine at_iload 4 dX12_positions_61 rfl ?_
      refine at_ior dX12_positions_63 ?_
      refine at_aload_n 0 dX12_positions_64 rfl ?_
      refine at_getf cl_X12 (by decide) fl_X12_204 hg_38 rfl dX12_positions_65 ?_
      refine at_iload 6 dX12_positions_68 rfl ?_
      refine at_ior dX12_positions_70 ?_
      obtain ⟨q2, hq2, h⟩ := sp_bind h
      refine at_callVi (st := [.int v3]) hK mt_X12_has ml_X12_301 cl_X12 hg_38 (t_X12_has hK hq2) rfl rfl (Nat.le_of_ble_eq_true rfl) ⟨Nat.le_of_ble_eq_true rfl, Nat.le_of_ble_eq_true rfl⟩ ⟨Nat.le_refl _, Nat.le_refl _⟩ dX12_positions_71 ?_
      refine at_iload_n 1 dX12_positions_74 rfl ?_
      refine at_icmp_ne 82 dX12_positions_75 (by decide) (fun c3 => ?_) (fun c3 => ?_)
      · rw [if_neg c3] at h
        refine at_iconst 0 dX12_positions_82 ic_0 ?_
        refine at_sub [0, 1, 2, 4, 5, 6] [(0, .ref (b + 38)), (1, .int v1), (2, .int v2), (4, .int v4), (5, .int v5), (6, .int v6)] rfl ?_
        exact t_X12_positions_83 hK N _ hk38 ih _ _ _ _ _ _ _ _ _ h
      · rw [if_pos c3] at h
        refine at_sub [0, 1, 2, 4, 5, 6] [(0, .ref (b + 38)), (1, .int v1), (2, .int v2), (4, .int v4), (5, .int v5), (6, .int v6)] rfl ?_
        exact t_X12_positions_78 hK N _ hk38 ih _ _ _ _ _ _ _ _ h
set_option maxRecDepth 100000 in
theorem t_X12_positions_38 {D : va_G} {b : Nat} {K : State → Heap → Prop} {sa : Nat → Nat} (hK : sx_Kk b K sa) (N : Nat) {uG uN uD uR uF uP uL uT uA uM uH xA xC xE xF xG xH xI xJ xK xL uO : sx_C} {G : sx_H} (res : Int32 × sx_C × sx_C) : ∀ (n0 : Nat) (v1 : Int32) (v2 : Int32) (v3 : Int32) (v4 : Int32) (xB : sx_C) (xD : sx_C), f_X12_positions_38 N xA n0 v1 v2 v3 v4 xB xD = some res → sx_At D b K YX12_positions (sx_rm 4) (sx_Ex (some (.int res.1)) (sx_hp b uG uN uD uR uF uP uL uT uA uM uH xA (res.2.1) xC (res.2.2) xE xF xG xH xI xJ xK xL uO G)) 38 [(0, .ref (b + 38)), (1, .int v1), (2, .int v2), (3, .int v3), (4, .int v4)] [] (sx_hp b uG uN uD uR uF uP uL uT uA uM uH xA xB xC xD xE xF xG xH xI xJ xK xL uO G) 0 0 := by
  intro n0
  induction n0 with
  | zero => intro _ _ _ _ _ _ h; cases h
  | succ n0 ih =>
    intro v1 v2 v3 v4 xB xD h
    rw [f_X12_positions_38] at h
    refine at_iload_n 2 dX12_positions_38 rfl ?_
    refine at_iload 4 dX12_positions_39 rfl ?_
    refine at_iconst (-1) dX12_positions_41 ic_m1 ?_
    refine at_ixor dX12_positions_42 ?_
    refine at_iand dX12_positions_43 ?_
    refine at_istore [(0, .ref (b + 38)), (1, .int v1), (2, .int v2), (3, .int v3), (4, .int v4), (5, .int (v2 &&& (v4 ^^^ (-1))))] dX12_positions_44 (Nat.le_of_ble_eq_true rfl) rfl ?_
    refine at_iload 5 dX12_positions_46 rfl ?_
    refine at_istore [(0, .ref (b + 38)), (1, .int v1), (2, .int v2), (3, .int v3), (4, .int v4), (5, .int (v2 &&& (v4 ^^^ (-1)))), (6, .int (v2 &&& (v4 ^^^ (-1))))] dX12_positions_48 (Nat.le_of_ble_eq_true rfl) rfl ?_
    exact t_X12_positions_50 hK N _ ih N _ _ _ _ _ _ _ _ h
set_option maxRecDepth 100000 in
theorem t_X12_positions {D : va_G} {b : Nat} {K : State → Heap → Prop} {sa : Nat → Nat} (hK : sx_Kk b K sa) {N : Nat} {uG uN uD uR uF uP uL uT uA uM uH xA xC xE xF xG xH xI xJ xK xL uO : sx_C} {G : sx_H} {v1 : Int32} {xB : sx_C} {xD : sx_C} {res : Int32 × sx_C × sx_C} (h : f_X12_positions N xA v1 xB xD = some res) : sx_Runs D b K yX12_positions YX12_positions (sx_rm 4) [.ref (b + 38), .int v1] (sx_hp b uG uN uD uR uF uP uL uT uA uM uH xA xB xC xD xE xF xG xH xI xJ xK xL uO G) (sx_Ex (some (.int res.1)) (sx_hp b uG uN uD uR uF uP uL uT uA uM uH xA (res.2.1) xC (res.2.2) xE xF xG xH xI xJ xK xL uO G)) := by
  rw [f_X12_positions] at h
  refine sx_run (by decide +kernel) rfl rfl (Nat.le_of_ble_eq_true rfl) ?_
  refine at_aload_n 0 dX12_positions_0 rfl ?_
  refine at_iconst 0 dX12_positions_1 ic_0 ?_
  refine at_putf cl_X12 (by decide) fl_X12_73 rfl hg_38 rfl rfl (Nat.le_of_ble_eq_true rfl) hs_38_0 dX12_positions_2 ?_
  refine at_iload_n 1 dX12_positions_5 rfl ?_
  refine at_if_lt 14 dX12_positions_6 (by decide) (fun c6 => ?_) (fun c6 => ?_)
  · rw [if_pos c6] at h
    refine at_iconst (-1) dX12_positions_14 ic_m1 ?_
    cases h; exact at_iret rfl (Nat.le_refl _) (Nat.le_refl _) ⟨rfl, rfl⟩ dX12_positions_15
  · rw [if_neg c6] at h
    refine at_iload_n 1 dX12_positions_9 rfl ?_
    refine at_iconst 3 dX12_positions_10 ic_3 ?_
    refine at_icmp_le 16 dX12_positions_11 (by decide) (fun c7 => ?_) (fun c7 => ?_)
    · rw [if_pos c7] at h
      refine at_aload_n 0 dX12_positions_16 rfl ?_
      obtain ⟨q8, hq8, h⟩ := sp_bind h
      refine at_callVi (st := []) hK mt_X12_openNow ml_X12_298 cl_X12 hg_38 (t_X12_openNow hK hq8) rfl rfl (Nat.le_of_ble_eq_true rfl) ⟨Nat.le_of_ble_eq_true rfl, Nat.le_of_ble_eq_true rfl⟩ ⟨Nat.le_refl _, Nat.le_refl _⟩ dX12_positions_17 ?_
      refine at_istore_n [(0, .ref (b + 38)), (1, .int v1), (2, .int q8)] dX12_positions_20 (Nat.le_of_ble_eq_true rfl) rfl ?_
      refine at_iload_n 2 dX12_positions_21 rfl ?_
      obtain ⟨q9, hq9, h⟩ := sp_bind h
      refine at_callSi (st := []) hK mt_X12_bits ml_X12_250 (t_X12_bits hK hq9) rfl rfl (Nat.le_of_ble_eq_true rfl) ⟨Nat.le_of_ble_eq_true rfl, Nat.le_of_ble_eq_true rfl⟩ ⟨Nat.le_refl _, Nat.le_refl _⟩ dX12_positions_22 ?_
      refine at_bipush 10 dX12_positions_25 bp_10 ?_
      refine at_icmp_le 33 dX12_positions_27 (by decide) (fun c10 => ?_) (fun c10 => ?_)
      · rw [if_pos c10] at h
        refine at_iconst 0 dX12_positions_33 ic_0 ?_
        refine at_istore_n [(0, .ref (b + 38)), (1, .int v1), (2, .int q8), (3, .int 0)] dX12_positions_34 (Nat.le_of_ble_eq_true rfl) rfl ?_
        refine at_iload_n 2 dX12_positions_35 rfl ?_
        refine at_istore [(0, .ref (b + 38)), (1, .int v1), (2, .int q8), (3, .int 0), (4, .int q8)] dX12_positions_36 (Nat.le_of_ble_eq_true rfl) rfl ?_
        exact t_X12_positions_38 hK N _ N _ _ _ _ _ _ h
      · rw [if_neg c10] at h
        refine at_bipush (-2) dX12_positions_30 bp_m2 ?_
        cases h; exact at_iret rfl (Nat.le_refl _) (Nat.le_refl _) ⟨rfl, rfl⟩ dX12_positions_32
    · rw [if_neg c7] at h
      refine at_iconst (-1) dX12_positions_14 ic_m1 ?_
      cases h; exact at_iret rfl (Nat.le_refl _) (Nat.le_refl _) ⟨rfl, rfl⟩ dX12_positions_15
set_option maxRecDepth 100000 in
theorem t_X12_isSo {D : va_G} {b : Nat} {K : State → Heap → Prop} {sa : Nat → Nat} (hK : sx_Kk b K sa) {N : Nat} {uG uN uD uR uF uP uL uT uA uM uH xA xB xC xE xG xH xI xJ xK xL uO : sx_C} {G : sx_H} {v1 : Int32} {v2 : Int32} {xD : sx_C} {xF : sx_C} {res : Bool × sx_C × sx_C} (h : f_X12_isSo N xA xE v1 v2 xD xF = some res) : sx_Runs D b K yX12_isSo YX12_isSo (sx_rm 3) [.ref (b + 38), .int v1, .int v2] (sx_hp b uG uN uD uR uF uP uL uT uA uM uH xA xB xC xD xE xF xG xH xI xJ xK xL uO G) (sx_Ex (some (.int (sp_b res.1))) (sx_hp b uG uN uD uR uF uP uL uT uA uM uH xA xB xC (res.2.1) xE (res.2.2) xG xH xI xJ xK xL uO G)) := by
  rw [f_X12_isSo] at h
  refine sx_run (by decide +kernel) rfl rfl (Nat.le_of_ble_eq_true rfl) ?_
  refine at_iload_n 1 dX12_isSo_0 rfl ?_
  refine at_if_ne 15 dX12_isSo_1 (by decide) (fun c1 => ?_) (fun c1 => ?_)
  · rw [if_neg c1] at h
    refine at_iload_n 1 dX12_isSo_15 rfl ?_
    refine at_iconst 1 dX12_isSo_16 ic_1 ?_
    refine at_icmp_ne 48 dX12_isSo_17 (by decide) (fun c2 => ?_) (fun c2 => ?_)
    · rw [if_neg c2] at h
      refine at_iload_n 2 dX12_isSo_48 rfl ?_
      obtain ⟨q3, hq3, h⟩ := sp_bind h
      refine at_callSi (st := []) hK mt_X12_bits ml_X12_250 (t_X12_bits hK hq3) rfl rfl (Nat.le_of_ble_eq_true rfl) ⟨Nat.le_of_ble_eq_true rfl, Nat.le_of_ble_eq_true rfl⟩ ⟨Nat.le_refl _, Nat.le_refl _⟩ dX12_isSo_49 ?_
      refine at_aload_n 0 dX12_isSo_52 rfl ?_
      obtain ⟨q4, hq4, h⟩ := sp_bind h
      refine at_callVi (st := [.int q3]) hK mt_X12_placeBits ml_X12_259 cl_X12 hg_38 (t_X12_placeBits hK hq4) rfl rfl (Nat.le_of_ble_eq_true rfl) ⟨Nat.le_of_ble_eq_true rfl, Nat.le_of_ble_eq_true rfl⟩ ⟨Nat.le_refl _, Nat.le_refl _⟩ dX12_isSo_53 ?_
      obtain ⟨q5, hq5, h⟩ := sp_bind h
      refine at_callSi (st := [.int q3]) hK mt_X12_bits ml_X12_250 (t_X12_bits hK hq5) rfl rfl (Nat.le_of_ble_eq_true rfl) ⟨Nat.le_of_ble_eq_true rfl, Nat.le_of_ble_eq_true rfl⟩ ⟨Nat.le_refl _, Nat.le_refl _⟩ dX12_isSo_56 ?_
      refine at_iconst 1 dX12_isSo_59 ic_1 ?_
      refine at_isub dX12_isSo_60 ?_
      refine at_icmp_ne 76 dX12_isSo_61 (by decide) (fun c6 => ?_) (fun c6 => ?_)
      · rw [if_neg c6] at h
        refine at_iconst 0 dX12_isSo_76 ic_0 ?_
        cases h; exact at_zret rfl rfl (Nat.le_refl _) (Nat.le_refl _) ⟨rfl, rfl⟩ dX12_isSo_77
      · rw [if_pos c6] at h
        refine at_aload_n 0 dX12_isSo_64 rfl ?_
        refine at_iload_n 2 dX12_isSo_65 rfl ?_
        obtain ⟨q7, hq7, h⟩ := sp_bind h
        refine at_callVi (st := []) hK mt_X12_isForest ml_X12_233 cl_X12 hg_38 (t_X12_isForest hK hq7) rfl rfl (Nat.le_of_ble_eq_true rfl) ⟨Nat.le_of_ble_eq_true rfl, Nat.le_of_ble_eq_true rfl⟩ ⟨Nat.le_refl _, Nat.le_refl _⟩ dX12_isSo_66 ?_
        refine at_zeq 76 dX12_isSo_69 (by decide) (fun c8 => ?_) (fun c8 => ?_)
        · rw [if_neg c8] at h
          refine at_iconst 0 dX12_isSo_76 ic_0 ?_
          cases h; exact at_zret rfl rfl (Nat.le_refl _) (Nat.le_refl _) ⟨rfl, rfl⟩ dX12_isSo_77
        · rw [if_pos c8] at h
          refine at_iconst 1 dX12_isSo_72 ic_1 ?_
          refine at_goto 77 dX12_isSo_73 (by decide) ?_
          cases h; exact at_zret rfl rfl (Nat.le_refl _) (Nat.le_refl _) ⟨rfl, rfl⟩ dX12_isSo_77
    · rw [if_pos c2] at h
      refine at_aload_n 0 dX12_isSo_20 rfl ?_
      refine at_aload_n 0 dX12_isSo_21 rfl ?_
      obtain ⟨q9, hq9, h⟩ := sp_bind h
      refine at_callVi (st := [.ref (b + 38)]) hK mt_X12_all ml_X12_223 cl_X12 hg_38 (t_X12_all hK hq9) rfl rfl (Nat.le_of_ble_eq_true rfl) ⟨Nat.le_of_ble_eq_true rfl, Nat.le_of_ble_eq_true rfl⟩ ⟨Nat.le_refl _, Nat.le_refl _⟩ dX12_isSo_22 ?_
      refine at_aload_n 0 dX12_isSo_25 rfl ?_
      refine at_getf cl_X12 (by decide) fl_X12_204 hg_38 rfl dX12_isSo_26 ?_
      refine at_iconst (-1) dX12_isSo_29 ic_m1 ?_
      refine at_ixor dX12_isSo_30 ?_
      refine at_iand dX12_isSo_31 ?_
      refine at_iload_n 2 dX12_isSo_32 rfl ?_
      refine at_iconst (-1) dX12_isSo_33 ic_m1 ?_
      refine at_ixor dX12_isSo_34 ?_
      refine at_iand dX12_isSo_35 ?_
      obtain ⟨q10, hq10, h⟩ := sp_bind h
      refine at_callVi (st := []) hK mt_X12_hangs ml_X12_230 cl_X12 hg_38 (t_X12_hangs hK hq10) rfl rfl (Nat.le_of_ble_eq_true rfl) ⟨Nat.le_of_ble_eq_true rfl, Nat.le_of_ble_eq_true rfl⟩ ⟨Nat.le_refl _, Nat.le_refl _⟩ dX12_isSo_36 ?_
      refine at_zne 46 dX12_isSo_39 (by decide) (fun c11 => ?_) (fun c11 => ?_)
      · rw [if_pos c11] at h
        refine at_iconst 0 dX12_isSo_46 ic_0 ?_
        cases h; exact at_zret rfl rfl (Nat.le_refl _) (Nat.le_refl _) ⟨rfl, rfl⟩ dX12_isSo_47
      · rw [if_neg c11] at h
        refine at_iconst 1 dX12_isSo_42 ic_1 ?_
        refine at_goto 47 dX12_isSo_43 (by decide) ?_
        cases h; exact at_zret rfl rfl (Nat.le_refl _) (Nat.le_refl _) ⟨rfl, rfl⟩ dX12_isSo_47
  · rw [if_pos c1] at h
    refine at_aload_n 0 dX12_isSo_4 rfl ?_
    refine at_aload_n 0 dX12_isSo_5 rfl ?_
    refine at_getf cl_X12 (by decide) fl_X12_201 hg_38 rfl dX12_isSo_6 ?_
    refine at_iload_n 2 dX12_isSo_9 rfl ?_
    refine at_ior dX12_isSo_10 ?_
    obtain ⟨q12, hq12, h⟩ := sp_bind h
    refine at_callVi (st := []) hK mt_X12_hangs ml_X12_230 cl_X12 hg_38 (t_X12_hangs hK hq12) rfl rfl (Nat.le_of_ble_eq_true rfl) ⟨Nat.le_of_ble_eq_true rfl, Nat.le_of_ble_eq_true rfl⟩ ⟨Nat.le_refl _, Nat.le_refl _⟩ dX12_isSo_11 ?_
    cases h; exact at_zret rfl (sp_bz _) (Nat.le_refl _) (Nat.le_refl _) ⟨rfl, rfl⟩ dX12_isSo_14
set_option maxRecDepth 100000 in
theorem t_X12_manySo_79 {D : va_G} {b : Nat} {K : State → Heap → Prop} {sa : Nat → Nat} (hK : sx_Kk b K sa) (N : Nat) {k21 : Int32 → Int32 → Int32 → Int32 → Int32 → Int32 → sx_C → sx_C → sx_C → Option (Int32 × sx_C × sx_C × sx_C)} {uG uN uD uR uF uP uL uT uA uM uH xA xB xC xG xH xI xJ xK xL uO : sx_C} {G : sx_H} (res : Int32 × sx_C × sx_C × sx_C) (hk21 : ∀ (v1 : Int32) (v2 : Int32) (v3 : Int32) (v4 : Int32) (v5 : Int32) (v6 : Int32) (xD : sx_C) (xE : sx_C) (xF : sx_C), k21 v1 v2 v3 v4 v5 v6 xD xE xF = some res → sx_At D b K YX12_manySo (sx_rm 4) (sx_Ex (some (.int res.1)) (sx_hp b uG uN uD uR uF uP uL uT uA uM uH xA xB xC (res.2.1) (res.2.2.1) (res.2.2.2) xG xH xI xJ xK xL uO G)) 21 [(0, .ref (b + 38)), (1, .int v1), (2, .int v2), (3, .int v3), (4, .int v4), (5, .int v5), (6, .int v6)] [] (sx_hp b uG uN uD uR uF uP uL uT uA uM uH xA xB xC xD xE xF xG xH xI xJ xK xL uO G) 0 0) : ∀ (v1 : Int32) (v2 : Int32) (v3 : Int32) (v4 : Int32) (v6 : Int32) (s0 : Int32) (s1 : Int32) (xD : sx_C) (xE : sx_C) (xF : sx_C), f_X12_manySo_79 N k21 xA v1 v2 v3 v4 v6 s0 s1 xD xE xF = some res → sx_At D b K YX12_manySo (sx_rm 4) (sx_Ex (some (.int res.1)) (sx_hp b uG uN uD uR uF uP uL uT uA uM uH xA xB xC (res.2.1) (res.2.2.1) (res.2.2.2) xG xH xI xJ xK xL uO G)) 79 [(0, .ref (b + 38)), (1, .int v1), (2, .int v2), (3, .int v3), (4, .int v4), (6, .int v6)] [.int s1, .int s0] (sx_hp b uG uN uD uR uF uP uL uT uA uM uH xA xB xC xD xE xF xG xH xI xJ xK xL uO G) 0 0 := by
  intro v1 v2 v3 v4 v6 s0 s1 xD xE xF h
  rw [f_X12_manySo_79] at h
  refine at_iadd dX12_manySo_79 ?_
  refine at_istore [(0, .ref (b + 38)), (1, .int v1), (2, .int v2), (3, .int v3), (4, .int v4), (5, .int (s0 + s1)), (6, .int v6)] dX12_manySo_80 (Nat.le_of_ble_eq_true rfl) rfl ?_
  refine at_iload 6 dX12_manySo_82 rfl ?_
  refine at_if_ne 90 dX12_manySo_84 (by decide) (fun c9 => ?_) (fun c9 => ?_)
  · rw [if_neg c9] at h
    refine at_iload 6 dX12_manySo_90 rfl ?_
    refine at_iconst 1 dX12_manySo_92 ic_1 ?_
    refine at_isub dX12_manySo_93 ?_
    refine at_iload 4 dX12_manySo_94 rfl ?_
    refine at_iand dX12_manySo_96 ?_
    refine at_istore [(0, .ref (b + 38)), (1, .int v1), (2, .int v2), (3, .int v3), (4, .int v4), (5, .int (s0 + s1)), (6, .int ((v6 - 1) &&& v4))] dX12_manySo_97 (Nat.le_of_ble_eq_true rfl) rfl ?_
    refine at_goto 21 dX12_manySo_99 (by decide) ?_
    exact hk21 _ _ _ _ _ _ _ _ _ h
  · rw [if_pos c9] at h
    refine at_iload 5 dX12_manySo_87 rfl ?_
    cases h; exact at_iret rfl (Nat.le_refl _) (Nat.le_refl _) ⟨rfl, rfl⟩ dX12_manySo_89
set_option maxRecDepth 100000 in
theorem t_X12_manySo_78 {D : va_G} {b : Nat} {K : State → Heap → Prop} {sa : Nat → Nat} (hK : sx_Kk b K sa) (N : Nat) {k21 : Int32 → Int32 → Int32 → Int32 → Int32 → Int32 → sx_C → sx_C → sx_C → Option (Int32 × sx_C × sx_C × sx_C)} {uG uN uD uR uF uP uL uT uA uM uH xA xB xC xG xH xI xJ xK xL uO : sx_C} {G : sx_H} (res : Int32 × sx_C × sx_C × sx_C) (hk21 : ∀ (v1 : Int32) (v2 : Int32) (v3 : Int32) (v4 : Int32) (v5 : Int32) (v6 : Int32) (xD : sx_C) (xE : sx_C) (xF : sx_C), k21 v1 v2 v3 v4 v5 v6 xD xE xF = some res → sx_At D b K YX12_manySo (sx_rm 4) (sx_Ex (some (.int res.1)) (sx_hp b uG uN uD uR uF uP uL uT uA uM uH xA xB xC (res.2.1) (res.2.2.1) (res.2.2.2) xG xH xI xJ xK xL uO G)) 21 [(0, .ref (b + 38)), (1, .int v1), (2, .int v2), (3, .int v3), (4, .int v4), (5, .int v5), (6, .int v6)] [] (sx_hp b uG uN uD uR uF uP uL uT uA uM uH xA xB xC xD xE xF xG xH xI xJ xK xL uO G) 0 0) : ∀ (v1 : Int32) (v2 : Int32) (v3 : Int32) (v4 : Int32) (v6 : Int32) (s0 : Int32) (xD : sx_C) (xE : sx_C) (xF : sx_C), f_X12_manySo_78 N k21 xA v1 v2 v3 v4 v6 s0 xD xE xF = some res → sx_At D b K YX12_manySo (sx_rm 4) (sx_Ex (some (.int res.1)) (sx_hp b uG uN uD uR uF uP uL uT uA uM uH xA xB xC (res.2.1) (res.2.2.1) (res.2.2.2) xG xH xI xJ xK xL uO G)) 78 [(0, .ref (b + 38)), (1, .int v1), (2, .int v2), (3, .int v3), (4, .int v4), (6, .int v6)] [.int s0] (sx_hp b uG uN uD uR uF uP uL uT uA uM uH xA xB xC xD xE xF xG xH xI xJ xK xL uO G) 0 0 := by
  intro v1 v2 v3 v4 v6 s0 xD xE xF h
  rw [f_X12_manySo_78] at h
  refine at_iconst 0 dX12_manySo_78 ic_0 ?_
  exact t_X12_manySo_79 hK N _ hk21 _ _ _ _ _ _ _ _ _ _ h
set_option maxRecDepth 100000 in
theorem t_X12_manySo_55 {D : va_G} {b : Nat} {K : State → Heap → Prop} {sa : Nat → Nat} (hK : sx_Kk b K sa) (N : Nat) {k21 : Int32 → Int32 → Int32 → Int32 → Int32 → Int32 → sx_C → sx_C → sx_C → Option (Int32 × sx_C × sx_C × sx_C)} {uG uN uD uR uF uP uL uT uA uM uH xA xB xC xG xH xI xJ xK xL uO : sx_C} {G : sx_H} (res : Int32 × sx_C × sx_C × sx_C) (hk21 : ∀ (v1 : Int32) (v2 : Int32) (v3 : Int32) (v4 : Int32) (v5 : Int32) (v6 : Int32) (xD : sx_C) (xE : sx_C) (xF : sx_C), k21 v1 v2 v3 v4 v5 v6 xD xE xF = some res → sx_At D b K YX12_manySo (sx_rm 4) (sx_Ex (some (.int res.1)) (sx_hp b uG uN uD uR uF uP uL uT uA uM uH xA xB xC (res.2.1) (res.2.2.1) (res.2.2.2) xG xH xI xJ xK xL uO G)) 21 [(0, .ref (b + 38)), (1, .int v1), (2, .int v2), (3, .int v3), (4, .int v4), (5, .int v5), (6, .int v6)] [] (sx_hp b uG uN uD uR uF uP uL uT uA uM uH xA xB xC xD xE xF xG xH xI xJ xK xL uO G) 0 0) : ∀ (v1 : Int32) (v2 : Int32) (v3 : Int32) (v4 : Int32) (v5 : Int32) (v6 : Int32) (s0 : Int32) (xD : sx_C) (xE : sx_C) (xF : sx_C), f_X12_manySo_55 N k21 xA v1 v2 v3 v4 v5 v6 s0 xD xE xF = some res → sx_At D b K YX12_manySo (sx_rm 4) (sx_Ex (some (.int res.1)) (sx_hp b uG uN uD uR uF uP uL uT uA uM uH xA xB xC (res.2.1) (res.2.2.1) (res.2.2.2) xG xH xI xJ xK xL uO G)) 55 [(0, .ref (b + 38)), (1, .int v1), (2, .int v2), (3, .int v3), (4, .int v4), (5, .int v5), (6, .int v6)] [.int s0] (sx_hp b uG uN uD uR uF uP uL uT uA uM uH xA xB xC xD xE xF xG xH xI xJ xK xL uO G) 0 0 := by
  intro v1 v2 v3 v4 v5 v6 s0 xD xE xF h
  rw [f_X12_manySo_55] at h
  refine at_istore [(0, .ref (b + 38)), (1, .int v1), (2, .int v2), (3, .int v3), (4, .int v4), (5, .int v5), (6, .int v6), (7, .int s0)] dX12_manySo_55 (Nat.le_of_ble_eq_true rfl) rfl ?_
  refine at_iload 5 dX12_manySo_57 rfl ?_
  refine at_iload 7 dX12_manySo_59 rfl ?_
  refine at_if_eq 78 dX12_manySo_61 (by decide) (fun c6 => ?_) (fun c6 => ?_)
  · rw [if_pos c6] at h
    refine at_sub [0, 1, 2, 3, 4, 6] [(0, .ref (b + 38)), (1, .int v1), (2, .int v2), (3, .int v3), (4, .int v4), (6, .int v6)] rfl ?_
    exact t_X12_manySo_78 hK N _ hk21 _ _ _ _ _ _ _ _ _ h
  · rw [if_neg c6] at h
    refine at_aload_n 0 dX12_manySo_64 rfl ?_
    refine at_iload_n 1 dX12_manySo_65 rfl ?_
    refine at_iload 6 dX12_manySo_66 rfl ?_
    obtain ⟨q7, hq7, h⟩ := sp_bind h
    refine at_callVi (st := [.int v5]) hK mt_X12_isSo ml_X12_370 cl_X12 hg_38 (t_X12_isSo hK hq7) rfl rfl (Nat.le_of_ble_eq_true rfl) ⟨Nat.le_of_ble_eq_true rfl, Nat.le_of_ble_eq_true rfl⟩ ⟨Nat.le_refl _, Nat.le_refl _⟩ dX12_manySo_68 ?_
    refine at_zeq 78 dX12_manySo_71 (by decide) (fun c8 => ?_) (fun c8 => ?_)
    · rw [if_neg c8] at h
      refine at_sub [0, 1, 2, 3, 4, 6] [(0, .ref (b + 38)), (1, .int v1), (2, .int v2), (3, .int v3), (4, .int v4), (6, .int v6)] rfl ?_
      exact t_X12_manySo_78 hK N _ hk21 _ _ _ _ _ _ _ _ _ h
    · rw [if_pos c8] at h
      refine at_iconst 1 dX12_manySo_74 ic_1 ?_
      refine at_goto 79 dX12_manySo_75 (by decide) ?_
      refine at_sub [0, 1, 2, 3, 4, 6] [(0, .ref (b + 38)), (1, .int v1), (2, .int v2), (3, .int v3), (4, .int v4), (6, .int v6)] rfl ?_
      exact t_X12_manySo_79 hK N _ hk21 _ _ _ _ _ _ _ _ _ _ h
set_option maxRecDepth 100000 in
theorem t_X12_manySo_50 {D : va_G} {b : Nat} {K : State → Heap → Prop} {sa : Nat → Nat} (hK : sx_Kk b K sa) (N : Nat) {k21 : Int32 → Int32 → Int32 → Int32 → Int32 → Int32 → sx_C → sx_C → sx_C → Option (Int32 × sx_C × sx_C × sx_C)} {uG uN uD uR uF uP uL uT uA uM uH xA xB xC xG xH xI xJ xK xL uO : sx_C} {G : sx_H} (res : Int32 × sx_C × sx_C × sx_C) (hk21 : ∀ (v1 : Int32) (v2 : Int32) (v3 : Int32) (v4 : Int32) (v5 : Int32) (v6 : Int32) (xD : sx_C) (xE : sx_C) (xF : sx_C), k21 v1 v2 v3 v4 v5 v6 xD xE xF = some res → sx_At D b K YX12_manySo (sx_rm 4) (sx_Ex (some (.int res.1)) (sx_hp b uG uN uD uR uF uP uL uT uA uM uH xA xB xC (res.2.1) (res.2.2.1) (res.2.2.2) xG xH xI xJ xK xL uO G)) 21 [(0, .ref (b + 38)), (1, .int v1), (2, .int v2), (3, .int v3), (4, .int v4), (5, .int v5), (6, .int v6)] [] (sx_hp b uG uN uD uR uF uP uL uT uA uM uH xA xB xC xD xE xF xG xH xI xJ xK xL uO G) 0 0) : ∀ (v1 : Int32) (v2 : Int32) (v3 : Int32) (v4 : Int32) (v5 : Int32) (v6 : Int32) (xD : sx_C) (xE : sx_C) (xF : sx_C), f_X12_manySo_50 N k21 xA v1 v2 v3 v4 v5 v6 xD xE xF = some res → sx_At D b K YX12_manySo (sx_rm 4) (sx_Ex (some (.int res.1)) (sx_hp b uG uN uD uR uF uP uL uT uA uM uH xA xB xC (res.2.1) (res.2.2.1) (res.2.2.2) xG xH xI xJ xK xL uO G)) 50 [(0, .ref (b + 38)), (1, .int v1), (2, .int v2), (3, .int v3), (4, .int v4), (5, .int v5), (6, .int v6)] [] (sx_hp b uG uN uD uR uF uP uL uT uA uM uH xA xB xC xD xE xF xG xH xI xJ xK xL uO G) 0 0 := by
  intro v1 v2 v3 v4 v5 v6 xD xE xF h
  rw [f_X12_manySo_50] at h
  refine at_iconst 1 dX12_manySo_50 ic_1 ?_
  refine at_goto 55 dX12_manySo_51 (by decide) ?_
  exact t_X12_manySo_55 hK N _ hk21 _ _ _ _ _ _ _ _ _ _ h
set_option maxRecDepth 100000 in
theorem t_X12_manySo_54 {D : va_G} {b : Nat} {K : State → Heap → Prop} {sa : Nat → Nat} (hK : sx_Kk b K sa) (N : Nat) {k21 : Int32 → Int32 → Int32 → Int32 → Int32 → Int32 → sx_C → sx_C → sx_C → Option (Int32 × sx_C × sx_C × sx_C)} {uG uN uD uR uF uP uL uT uA uM uH xA xB xC xG xH xI xJ xK xL uO : sx_C} {G : sx_H} (res : Int32 × sx_C × sx_C × sx_C) (hk21 : ∀ (v1 : Int32) (v2 : Int32) (v3 : Int32) (v4 : Int32) (v5 : Int32) (v6 : Int32) (xD : sx_C) (xE : sx_C) (xF : sx_C), k21 v1 v2 v3 v4 v5 v6 xD xE xF = some res → sx_At D b K YX12_manySo (sx_rm 4) (sx_Ex (some (.int res.1)) (sx_hp b uG uN uD uR uF uP uL uT uA uM uH xA xB xC (res.2.1) (res.2.2.1) (res.2.2.2) xG xH xI xJ xK xL uO G)) 21 [(0, .ref (b + 38)), (1, .int v1), (2, .int v2), (3, .int v3), (4, .int v4), (5, .int v5), (6, .int v6)] [] (sx_hp b uG uN uD uR uF uP uL uT uA uM uH xA xB xC xD xE xF xG xH xI xJ xK xL uO G) 0 0) : ∀ (v1 : Int32) (v2 : Int32) (v3 : Int32) (v4 : Int32) (v5 : Int32) (v6 : Int32) (xD : sx_C) (xE : sx_C) (xF : sx_C), f_X12_manySo_54 N k21 xA v1 v2 v3 v4 v5 v6 xD xE xF = some res → sx_At D b K YX12_manySo (sx_rm 4) (sx_Ex (some (.int res.1)) (sx_hp b uG uN uD uR uF uP uL uT uA uM uH xA xB xC (res.2.1) (res.2.2.1) (res.2.2.2) xG xH xI xJ xK xL uO G)) 54 [(0, .ref (b + 38)), (1, .int v1), (2, .int v2), (3, .int v3), (4, .int v4), (5, .int v5), (6, .int v6)] [] (sx_hp b uG uN uD uR uF uP uL uT uA uM uH xA xB xC xD xE xF xG xH xI xJ xK xL uO G) 0 0 := by
  intro v1 v2 v3 v4 v5 v6 xD xE xF h
  rw [f_X12_manySo_54] at h
  refine at_iconst 0 dX12_manySo_54 ic_0 ?_
  exact t_X12_manySo_55 hK N _ hk21 _ _ _ _ _ _ _ _ _ _ h
set_option maxRecDepth 100000 in
theorem t_X12_manySo_35 {D : va_G} {b : Nat} {K : State → Heap → Prop} {sa : Nat → Nat} (hK : sx_Kk b K sa) (N : Nat) {k21 : Int32 → Int32 → Int32 → Int32 → Int32 → Int32 → sx_C → sx_C → sx_C → Option (Int32 × sx_C × sx_C × sx_C)} {uG uN uD uR uF uP uL uT uA uM uH xA xB xC xG xH xI xJ xK xL uO : sx_C} {G : sx_H} (res : Int32 × sx_C × sx_C × sx_C) (hk21 : ∀ (v1 : Int32) (v2 : Int32) (v3 : Int32) (v4 : Int32) (v5 : Int32) (v6 : Int32) (xD : sx_C) (xE : sx_C) (xF : sx_C), k21 v1 v2 v3 v4 v5 v6 xD xE xF = some res → sx_At D b K YX12_manySo (sx_rm 4) (sx_Ex (some (.int res.1)) (sx_hp b uG uN uD uR uF uP uL uT uA uM uH xA xB xC (res.2.1) (res.2.2.1) (res.2.2.2) xG xH xI xJ xK xL uO G)) 21 [(0, .ref (b + 38)), (1, .int v1), (2, .int v2), (3, .int v3), (4, .int v4), (5, .int v5), (6, .int v6)] [] (sx_hp b uG uN uD uR uF uP uL uT uA uM uH xA xB xC xD xE xF xG xH xI xJ xK xL uO G) 0 0) : ∀ (v1 : Int32) (v2 : Int32) (v3 : Int32) (v4 : Int32) (v5 : Int32) (v6 : Int32) (xD : sx_C) (xE : sx_C) (xF : sx_C), f_X12_manySo_35 N k21 xA v1 v2 v3 v4 v5 v6 xD xE xF = some res → sx_At D b K YX12_manySo (sx_rm 4) (sx_Ex (some (.int res.1)) (sx_hp b uG uN uD uR uF uP uL uT uA uM uH xA xB xC (res.2.1) (res.2.2.1) (res.2.2.2) xG xH xI xJ xK xL uO G)) 35 [(0, .ref (b + 38)), (1, .int v1), (2, .int v2), (3, .int v3), (4, .int v4), (5, .int v5), (6, .int v6)] [] (sx_hp b uG uN uD uR uF uP uL uT uA uM uH xA xB xC xD xE xF xG xH xI xJ xK xL uO G) 0 0 := by
  intro v1 v2 v3 v4 v5 v6 xD xE xF h
  rw [f_X12_manySo_35] at h
  refine at_iload_n 3 dX12_manySo_35 rfl ?_
  refine at_iconst (-1) dX12_manySo_36 ic_m1 ?_
  refine at_icmp_eq 50 dX12_manySo_37 (by decide) (fun c4 => ?_) (fun c4 => ?_)
  · rw [if_pos c4] at h
    exact t_X12_manySo_50 hK N _ hk21 _ _ _ _ _ _ _ _ _ h
  · rw [if_neg c4] at h
    refine at_iload 6 dX12_manySo_40 rfl ?_
    refine at_iload_n 3 dX12_manySo_42 rfl ?_
    refine at_ishr dX12_manySo_43 ?_
    refine at_iconst 1 dX12_manySo_44 ic_1 ?_
    refine at_iand dX12_manySo_45 ?_
    refine at_iconst 1 dX12_manySo_46 ic_1 ?_
    refine at_icmp_ne 54 dX12_manySo_47 (by decide) (fun c5 => ?_) (fun c5 => ?_)
    · rw [if_neg c5] at h
      exact t_X12_manySo_54 hK N _ hk21 _ _ _ _ _ _ _ _ _ h
    · rw [if_pos c5] at h
      exact t_X12_manySo_50 hK N _ hk21 _ _ _ _ _ _ _ _ _ h
set_option maxRecDepth 100000 in
theorem t_X12_manySo_21 {D : va_G} {b : Nat} {K : State → Heap → Prop} {sa : Nat → Nat} (hK : sx_Kk b K sa) (N : Nat) {uG uN uD uR uF uP uL uT uA uM uH xA xB xC xG xH xI xJ xK xL uO : sx_C} {G : sx_H} (res : Int32 × sx_C × sx_C × sx_C) : ∀ (n0 : Nat) (v1 : Int32) (v2 : Int32) (v3 : Int32) (v4 : Int32) (v5 : Int32) (v6 : Int32) (xD : sx_C) (xE : sx_C) (xF : sx_C), f_X12_manySo_21 N xA n0 v1 v2 v3 v4 v5 v6 xD xE xF = some res → sx_At D b K YX12_manySo (sx_rm 4) (sx_Ex (some (.int res.1)) (sx_hp b uG uN uD uR uF uP uL uT uA uM uH xA xB xC (res.2.1) (res.2.2.1) (res.2.2.2) xG xH xI xJ xK xL uO G)) 21 [(0, .ref (b + 38)), (1, .int v1), (2, .int v2), (3, .int v3), (4, .int v4), (5, .int v5), (6, .int v6)] [] (sx_hp b uG uN uD uR uF uP uL uT uA uM uH xA xB xC xD xE xF xG xH xI xJ xK xL uO G) 0 0 := by
  intro n0
  induction n0 with
  | zero => intro _ _ _ _ _ _ _ _ _ h; cases h
  | succ n0 ih =>
    intro v1 v2 v3 v4 v5 v6 xD xE xF h
    rw [f_X12_manySo_21] at h
    refine at_iload_n 2 dX12_manySo_21 rfl ?_
    refine at_iconst (-1) dX12_manySo_22 ic_m1 ?_
    refine at_icmp_eq 35 dX12_manySo_23 (by decide) (fun c1 => ?_) (fun c1 => ?_)
    · rw [if_pos c1] at h
      exact t_X12_manySo_35 hK N _ ih _ _ _ _ _ _ _ _ _ h
    · rw [if_neg c1] at h
      refine at_iload 6 dX12_manySo_26 rfl ?_
      obtain ⟨q2, hq2, h⟩ := sp_bind h
      refine at_callSi (st := []) hK mt_X12_bits ml_X12_250 (t_X12_bits hK hq2) rfl rfl (Nat.le_of_ble_eq_true rfl) ⟨Nat.le_of_ble_eq_true rfl, Nat.le_of_ble_eq_true rfl⟩ ⟨Nat.le_refl _, Nat.le_refl _⟩ dX12_manySo_28 ?_
      refine at_iload_n 2 dX12_manySo_31 rfl ?_
      refine at_icmp_ne 54 dX12_manySo_32 (by decide) (fun c3 => ?_) (fun c3 => ?_)
      · rw [if_neg c3] at h
        exact t_X12_manySo_54 hK N _ ih _ _ _ _ _ _ _ _ _ h
      · rw [if_pos c3] at h
        exact t_X12_manySo_35 hK N _ ih _ _ _ _ _ _ _ _ _ h
set_option maxRecDepth 100000 in
theorem t_X12_manySo {D : va_G} {b : Nat} {K : State → Heap → Prop} {sa : Nat → Nat} (hK : sx_Kk b K sa) {N : Nat} {uG uN uD uR uF uP uL uT uA uM uH xA xB xC xG xH xI xJ xK xL uO : sx_C} {G : sx_H} {v1 : Int32} {v2 : Int32} {v3 : Int32} {xD : sx_C} {xE : sx_C} {xF : sx_C} {res : Int32 × sx_C × sx_C × sx_C} (h : f_X12_manySo N xA v1 v2 v3 xD xE xF = some res) : sx_Runs D b K yX12_manySo YX12_manySo (sx_rm 4) [.ref (b + 38), .int v1, .int v2, .int v3] (sx_hp b uG uN uD uR uF uP uL uT uA uM uH xA xB xC xD xE xF xG xH xI xJ xK xL uO G) (sx_Ex (some (.int res.1)) (sx_hp b uG uN uD uR uF uP uL uT uA uM uH xA xB xC (res.2.1) (res.2.2.1) (res.2.2.2) xG xH xI xJ xK xL uO G)) := by
  rw [f_X12_manySo] at h
  refine sx_run (by decide +kernel) rfl rfl (Nat.le_of_ble_eq_true rfl) ?_
  refine at_aload_n 0 dX12_manySo_0 rfl ?_
  refine at_aload_n 0 dX12_manySo_1 rfl ?_
  refine at_getf cl_X12 (by decide) fl_X12_201 hg_38 rfl dX12_manySo_2 ?_
  obtain ⟨q10, hq10, h⟩ := sp_bind h
  refine at_callVv (st := []) hK mt_X12_laysPlaces ml_X12_256 cl_X12 hg_38 (t_X12_laysPlaces hK hq10) rfl rfl (Nat.le_of_ble_eq_true rfl) ⟨Nat.le_of_ble_eq_true rfl, Nat.le_of_ble_eq_true rfl⟩ ⟨Nat.le_refl _, Nat.le_refl _⟩ dX12_manySo_5 ?_
  refine at_aload_n 0 dX12_manySo_8 rfl ?_
  obtain ⟨q11, hq11, h⟩ := sp_bind h
  refine at_callVi (st := []) hK mt_X12_openNow ml_X12_298 cl_X12 hg_38 (t_X12_openNow hK hq11) rfl rfl (Nat.le_of_ble_eq_true rfl) ⟨Nat.le_of_ble_eq_true rfl, Nat.le_of_ble_eq_true rfl⟩ ⟨Nat.le_refl _, Nat.le_refl _⟩ dX12_manySo_9 ?_
  refine at_istore [(0, .ref (b + 38)), (1, .int v1), (2, .int v2), (3, .int v3), (4, .int q11)] dX12_manySo_12 (Nat.le_of_ble_eq_true rfl) rfl ?_
  refine at_iconst 0 dX12_manySo_14 ic_0 ?_
  refine at_istore [(0, .ref (b + 38)), (1, .int v1), (2, .int v2), (3, .int v3), (4, .int q11), (5, .int 0)] dX12_manySo_15 (Nat.le_of_ble_eq_true rfl) rfl ?_
  refine at_iload 4 dX12_manySo_17 rfl ?_
  refine at_istore [(0, .ref (b + 38)), (1, .int v1), (2, .int v2), (3, .int v3), (4, .int q11), (5, .int 0), (6, .int q11)] dX12_manySo_19 (Nat.le_of_ble_eq_true rfl) rfl ?_
  exact t_X12_manySo_21 hK N _ N _ _ _ _ _ _ _ _ _ h
set_option maxRecDepth 100000 in
theorem t_X12_leastSo_40 {D : va_G} {b : Nat} {K : State → Heap → Prop} {sa : Nat → Nat} (hK : sx_Kk b K sa) (N : Nat) {k10 : Int32 → Int32 → Int32 → Int32 → sx_C → sx_C → Option (Int32 × sx_C × sx_C)} {uG uN uD uR uF uP uL uT uA uM uH xA xB xC xE xG xH xI xJ xK xL uO : sx_C} {G : sx_H} (res : Int32 × sx_C × sx_C) (hk10 : ∀ (v1 : Int32) (v2 : Int32) (v3 : Int32) (v4 : Int32) (xD : sx_C) (xF : sx_C), k10 v1 v2 v3 v4 xD xF = some res → sx_At D b K YX12_leastSo (sx_rm 4) (sx_Ex (some (.int res.1)) (sx_hp b uG uN uD uR uF uP uL uT uA uM uH xA xB xC (res.2.1) xE (res.2.2) xG xH xI xJ xK xL uO G)) 10 [(0, .ref (b + 38)), (1, .int v1), (2, .int v2), (3, .int v3), (4, .int v4)] [] (sx_hp b uG uN uD uR uF uP uL uT uA uM uH xA xB xC xD xE xF xG xH xI xJ xK xL uO G) 0 0) : ∀ (v1 : Int32) (v2 : Int32) (v3 : Int32) (v4 : Int32) (xD : sx_C) (xF : sx_C), f_X12_leastSo_40 N k10 xA xE v1 v2 v3 v4 xD xF = some res → sx_At D b K YX12_leastSo (sx_rm 4) (sx_Ex (some (.int res.1)) (sx_hp b uG uN uD uR uF uP uL uT uA uM uH xA xB xC (res.2.1) xE (res.2.2) xG xH xI xJ xK xL uO G)) 40 [(0, .ref (b + 38)), (1, .int v1), (2, .int v2), (3, .int v3), (4, .int v4)] [] (sx_hp b uG uN uD uR uF uP uL uT uA uM uH xA xB xC xD xE xF xG xH xI xJ xK xL uO G) 0 0 := by
  intro v1 v2 v3 v4 xD xF h
  rw [f_X12_leastSo_40] at h
  refine at_iload 4 dX12_leastSo_40 rfl ?_
  refine at_if_ne 47 dX12_leastSo_42 (by decide) (fun c7 => ?_) (fun c7 => ?_)
  · rw [if_neg c7] at h
    refine at_iload 4 dX12_leastSo_47 rfl ?_
    refine at_iconst 1 dX12_leastSo_49 ic_1 ?_
    refine at_isub dX12_leastSo_50 ?_
    refine at_iload_n 2 dX12_leastSo_51 rfl ?_
    refine at_iand dX12_leastSo_52 ?_
    refine at_istore [(0, .ref (b + 38)), (1, .int v1), (2, .int v2), (3, .int v3), (4, .int ((v4 - 1) &&& v2))] dX12_leastSo_53 (Nat.le_of_ble_eq_true rfl) rfl ?_
    refine at_goto 10 dX12_leastSo_55 (by decide) ?_
    exact hk10 _ _ _ _ _ _ h
  · rw [if_pos c7] at h
    refine at_iload_n 3 dX12_leastSo_45 rfl ?_
    cases h; exact at_iret rfl (Nat.le_refl _) (Nat.le_refl _) ⟨rfl, rfl⟩ dX12_leastSo_46
set_option maxRecDepth 100000 in
theorem t_X12_leastSo_27 {D : va_G} {b : Nat} {K : State → Heap → Prop} {sa : Nat → Nat} (hK : sx_Kk b K sa) (N : Nat) {k10 : Int32 → Int32 → Int32 → Int32 → sx_C → sx_C → Option (Int32 × sx_C × sx_C)} {uG uN uD uR uF uP uL uT uA uM uH xA xB xC xE xG xH xI xJ xK xL uO : sx_C} {G : sx_H} (res : Int32 × sx_C × sx_C) (hk10 : ∀ (v1 : Int32) (v2 : Int32) (v3 : Int32) (v4 : Int32) (xD : sx_C) (xF : sx_C), k10 v1 v2 v3 v4 xD xF = some res → sx_At D b K YX12_leastSo (sx_rm 4) (sx_Ex (some (.int res.1)) (sx_hp b uG uN uD uR uF uP uL uT uA uM uH xA xB xC (res.2.1) xE (res.2.2) xG xH xI xJ xK xL uO G)) 10 [(0, .ref (b + 38)), (1, .int v1), (2, .int v2), (3, .int v3), (4, .int v4)] [] (sx_hp b uG uN uD uR uF uP uL uT uA uM uH xA xB xC xD xE xF xG xH xI xJ xK xL uO G) 0 0) : ∀ (v1 : Int32) (v2 : Int32) (v3 : Int32) (v4 : Int32) (xD : sx_C) (xF : sx_C), f_X12_leastSo_27 N k10 xA xE v1 v2 v3 v4 xD xF = some res → sx_At D b K YX12_leastSo (sx_rm 4) (sx_Ex (some (.int res.1)) (sx_hp b uG uN uD uR uF uP uL uT uA uM uH xA xB xC (res.2.1) xE (res.2.2) xG xH xI xJ xK xL uO G)) 27 [(0, .ref (b + 38)), (1, .int v1), (2, .int v2), (3, .int v3), (4, .int v4)] [] (sx_hp b uG uN uD uR uF uP uL uT uA uM uH xA xB xC xD xE xF xG xH xI xJ xK xL uO G) 0 0 := by
  intro v1 v2 v3 v4 xD xF h
  rw [f_X12_leastSo_27] at h
  refine at_aload_n 0 dX12_leastSo_27 rfl ?_
  refine at_iload_n 1 dX12_leastSo_28 rfl ?_
  refine at_iload 4 dX12_leastSo_29 rfl ?_
  obtain ⟨q5, hq5, h⟩ := sp_bind h
  refine at_callVi (st := []) hK mt_X12_isSo ml_X12_370 cl_X12 hg_38 (t_X12_isSo hK hq5) rfl rfl (Nat.le_of_ble_eq_true rfl) ⟨Nat.le_of_ble_eq_true rfl, Nat.le_of_ble_eq_true rfl⟩ ⟨Nat.le_refl _, Nat.le_refl _⟩ dX12_leastSo_31 ?_
  refine at_zeq 40 dX12_leastSo_34 (by decide) (fun c6 => ?_) (fun c6 => ?_)
  · rw [if_neg c6] at h
    exact t_X12_leastSo_40 hK N _ hk10 _ _ _ _ _ _ h
  · rw [if_pos c6] at h
    refine at_iload 4 dX12_leastSo_37 rfl ?_
    refine at_istore_n [(0, .ref (b + 38)), (1, .int v1), (2, .int v2), (3, .int v4), (4, .int v4)] dX12_leastSo_39 (Nat.le_of_ble_eq_true rfl) rfl ?_
    exact t_X12_leastSo_40 hK N _ hk10 _ _ _ _ _ _ h
set_option maxRecDepth 100000 in
theorem t_X12_leastSo_10 {D : va_G} {b : Nat} {K : State → Heap → Prop} {sa : Nat → Nat} (hK : sx_Kk b K sa) (N : Nat) {uG uN uD uR uF uP uL uT uA uM uH xA xB xC xE xG xH xI xJ xK xL uO : sx_C} {G : sx_H} (res : Int32 × sx_C × sx_C) : ∀ (n0 : Nat) (v1 : Int32) (v2 : Int32) (v3 : Int32) (v4 : Int32) (xD : sx_C) (xF : sx_C), f_X12_leastSo_10 N xA xE n0 v1 v2 v3 v4 xD xF = some res → sx_At D b K YX12_leastSo (sx_rm 4) (sx_Ex (some (.int res.1)) (sx_hp b uG uN uD uR uF uP uL uT uA uM uH xA xB xC (res.2.1) xE (res.2.2) xG xH xI xJ xK xL uO G)) 10 [(0, .ref (b + 38)), (1, .int v1), (2, .int v2), (3, .int v3), (4, .int v4)] [] (sx_hp b uG uN uD uR uF uP uL uT uA uM uH xA xB xC xD xE xF xG xH xI xJ xK xL uO G) 0 0 := by
  intro n0
  induction n0 with
  | zero => intro _ _ _ _ _ _ h; cases h
  | succ n0 ih =>
    intro v1 v2 v3 v4 xD xF h
    rw [f_X12_leastSo_10] at h
    refine at_iload_n 3 dX12_leastSo_10 rfl ?_
    refine at_iconst (-1) dX12_leastSo_11 ic_m1 ?_
    refine at_icmp_eq 27 dX12_leastSo_12 (by decide) (fun c1 => ?_) (fun c1 => ?_)
    · rw [if_pos c1] at h
      exact t_X12_leastSo_27 hK N _ ih _ _ _ _ _ _ h
    · rw [if_neg c1] at h
      refine at_iload 4 dX12_leastSo_15 rfl ?_
      obtain ⟨q2, hq2, h⟩ := sp_bind h
      refine at_callSi (st := []) hK mt_X12_bits ml_X12_250 (t_X12_bits hK hq2) rfl rfl (Nat.le_of_ble_eq_true rfl) ⟨Nat.le_of_ble_eq_true rfl, Nat.le_of_ble_eq_true rfl⟩ ⟨Nat.le_refl _, Nat.le_refl _⟩ dX12_leastSo_17 ?_
      refine at_iload_n 3 dX12_leastSo_20 rfl ?_
      obtain ⟨q3, hq3, h⟩ := sp_bind h
      refine at_callSi (st := [.int q2]) hK mt_X12_bits ml_X12_250 (t_X12_bits hK hq3) rfl rfl (Nat.le_of_ble_eq_true rfl) ⟨Nat.le_of_ble_eq_true rfl, Nat.le_of_ble_eq_true rfl⟩ ⟨Nat.le_refl _, Nat.le_refl _⟩ dX12_leastSo_21 ?_
      refine at_icmp_gt 40 dX12_leastSo_24 (by decide) (fun c4 => ?_) (fun c4 => ?_)
      · rw [if_pos c4] at h
        exact t_X12_leastSo_40 hK N _ ih _ _ _ _ _ _ h
      · rw [if_neg c4] at h
        exact t_X12_leastSo_27 hK N _ ih _ _ _ _ _ _ h
set_option maxRecDepth 100000 in
theorem t_X12_leastSo {D : va_G} {b : Nat} {K : State → Heap → Prop} {sa : Nat → Nat} (hK : sx_Kk b K sa) {N : Nat} {uG uN uD uR uF uP uL uT uA uM uH xA xB xC xE xG xH xI xJ xK xL uO : sx_C} {G : sx_H} {v1 : Int32} {xD : sx_C} {xF : sx_C} {res : Int32 × sx_C × sx_C} (h : f_X12_leastSo N xA xE v1 xD xF = some res) : sx_Runs D b K yX12_leastSo YX12_leastSo (sx_rm 4) [.ref (b + 38), .int v1] (sx_hp b uG uN uD uR uF uP uL uT uA uM uH xA xB xC xD xE xF xG xH xI xJ xK xL uO G) (sx_Ex (some (.int res.1)) (sx_hp b uG uN uD uR uF uP uL uT uA uM uH xA xB xC (res.2.1) xE (res.2.2) xG xH xI xJ xK xL uO G)) := by
  rw [f_X12_leastSo] at h
  refine sx_run (by decide +kernel) rfl rfl (Nat.le_of_ble_eq_true rfl) ?_
  refine at_aload_n 0 dX12_leastSo_0 rfl ?_
  obtain ⟨q8, hq8, h⟩ := sp_bind h
  refine at_callVi (st := []) hK mt_X12_openNow ml_X12_298 cl_X12 hg_38 (t_X12_openNow hK hq8) rfl rfl (Nat.le_of_ble_eq_true rfl) ⟨Nat.le_of_ble_eq_true rfl, Nat.le_of_ble_eq_true rfl⟩ ⟨Nat.le_refl _, Nat.le_refl _⟩ dX12_leastSo_1 ?_
  refine at_istore_n [(0, .ref (b + 38)), (1, .int v1), (2, .int q8)] dX12_leastSo_4 (Nat.le_of_ble_eq_true rfl) rfl ?_
  refine at_iconst (-1) dX12_leastSo_5 ic_m1 ?_
  refine at_istore_n [(0, .ref (b + 38)), (1, .int v1), (2, .int q8), (3, .int (-1))] dX12_leastSo_6 (Nat.le_of_ble_eq_true rfl) rfl ?_
  refine at_iload_n 2 dX12_leastSo_7 rfl ?_
  refine at_istore [(0, .ref (b + 38)), (1, .int v1), (2, .int q8), (3, .int (-1)), (4, .int q8)] dX12_leastSo_8 (Nat.le_of_ble_eq_true rfl) rfl ?_
  exact t_X12_leastSo_10 hK N _ N _ _ _ _ _ _ h
set_option maxRecDepth 100000 in
theorem t_X12_wall {D : va_G} {b : Nat} {K : State → Heap → Prop} {sa : Nat → Nat} (hK : sx_Kk b K sa) {N : Nat} {uG uN uD uR uF uP uL uT uA uM uH xA xC xE xG xH xI xJ xK xL uO : sx_C} {G : sx_H} {v1 : Int32} {xB : sx_C} {xD : sx_C} {xF : sx_C} {res : Int32 × sx_C × sx_C × sx_C} (h : f_X12_wall N xA xE v1 xB xD xF = some res) : sx_Runs D b K yX12_wall YX12_wall (sx_rm 5) [.ref (b + 38), .int v1] (sx_hp b uG uN uD uR uF uP uL uT uA uM uH xA xB xC xD xE xF xG xH xI xJ xK xL uO G) (sx_Ex (some (.int res.1)) (sx_hp b uG uN uD uR uF uP uL uT uA uM uH xA (res.2.1) xC (res.2.2.1) xE (res.2.2.2) xG xH xI xJ xK xL uO G)) := by
  rw [f_X12_wall] at h
  refine sx_run (by decide +kernel) rfl rfl (Nat.le_of_ble_eq_true rfl) ?_
  refine at_aload_n 0 dX12_wall_0 rfl ?_
  refine at_iconst 0 dX12_wall_1 ic_0 ?_
  refine at_putf cl_X12 (by decide) fl_X12_73 rfl hg_38 rfl rfl (Nat.le_of_ble_eq_true rfl) hs_38_0 dX12_wall_2 ?_
  refine at_iload_n 1 dX12_wall_5 rfl ?_
  refine at_if_lt 14 dX12_wall_6 (by decide) (fun c1 => ?_) (fun c1 => ?_)
  · rw [if_pos c1] at h
    refine at_iconst (-1) dX12_wall_14 ic_m1 ?_
    cases h; exact at_iret rfl (Nat.le_refl _) (Nat.le_refl _) ⟨rfl, rfl⟩ dX12_wall_15
  · rw [if_neg c1] at h
    refine at_iload_n 1 dX12_wall_9 rfl ?_
    refine at_iconst 1 dX12_wall_10 ic_1 ?_
    refine at_icmp_le 16 dX12_wall_11 (by decide) (fun c2 => ?_) (fun c2 => ?_)
    · rw [if_pos c2] at h
      refine at_aload_n 0 dX12_wall_16 rfl ?_
      refine at_aload_n 0 dX12_wall_17 rfl ?_
      refine at_getf cl_X12 (by decide) fl_X12_201 hg_38 rfl dX12_wall_18 ?_
      obtain ⟨q3, hq3, h⟩ := sp_bind h
      refine at_callVi (st := []) hK mt_X12_hangs ml_X12_230 cl_X12 hg_38 (t_X12_hangs hK hq3) rfl rfl (Nat.le_of_ble_eq_true rfl) ⟨Nat.le_of_ble_eq_true rfl, Nat.le_of_ble_eq_true rfl⟩ ⟨Nat.le_refl _, Nat.le_refl _⟩ dX12_wall_21 ?_
      refine at_zeq 30 dX12_wall_24 (by decide) (fun c4 => ?_) (fun c4 => ?_)
      · rw [if_neg c4] at h
        refine at_aload_n 0 dX12_wall_30 rfl ?_
        refine at_iconst 1 dX12_wall_31 ic_1 ?_
        obtain ⟨q5, hq5, h⟩ := sp_bind h
        refine at_callVi (st := []) hK mt_X12_leastSo ml_X12_373 cl_X12 hg_38 (t_X12_leastSo hK hq5) rfl rfl (Nat.le_of_ble_eq_true rfl) ⟨Nat.le_of_ble_eq_true rfl, Nat.le_of_ble_eq_true rfl⟩ ⟨Nat.le_refl _, Nat.le_refl _⟩ dX12_wall_32 ?_
        refine at_istore_n [(0, .ref (b + 38)), (1, .int v1), (2, .int (q5.1))] dX12_wall_35 (Nat.le_of_ble_eq_true rfl) rfl ?_
        refine at_iload_n 1 dX12_wall_36 rfl ?_
        refine at_if_ne 47 dX12_wall_37 (by decide) (fun c6 => ?_) (fun c6 => ?_)
        · rw [if_neg c6] at h
          refine at_iload_n 2 dX12_wall_47 rfl ?_
          cases h; exact at_iret rfl (Nat.le_refl _) (Nat.le_refl _) ⟨rfl, rfl⟩ dX12_wall_48
        · rw [if_pos c6] at h
          refine at_iload_n 2 dX12_wall_40 rfl ?_
          obtain ⟨q7, hq7, h⟩ := sp_bind h
          refine at_callSi (st := []) hK mt_X12_bits ml_X12_250 (t_X12_bits hK hq7) rfl rfl (Nat.le_of_ble_eq_true rfl) ⟨Nat.le_of_ble_eq_true rfl, Nat.le_of_ble_eq_true rfl⟩ ⟨Nat.le_refl _, Nat.le_refl _⟩ dX12_wall_41 ?_
          refine at_goto 48 dX12_wall_44 (by decide) ?_
          cases h; exact at_iret rfl (Nat.le_refl _) (Nat.le_refl _) ⟨rfl, rfl⟩ dX12_wall_48
      · rw [if_pos c4] at h
        refine at_bipush (-2) dX12_wall_27 bp_m2 ?_
        cases h; exact at_iret rfl (Nat.le_refl _) (Nat.le_refl _) ⟨rfl, rfl⟩ dX12_wall_29
    · rw [if_neg c2] at h
      refine at_iconst (-1) dX12_wall_14 ic_m1 ?_
      cases h; exact at_iret rfl (Nat.le_refl _) (Nat.le_refl _) ⟨rfl, rfl⟩ dX12_wall_15
set_option maxRecDepth 100000 in
theorem t_X12_road {D : va_G} {b : Nat} {K : State → Heap → Prop} {sa : Nat → Nat} (hK : sx_Kk b K sa) {N : Nat} {uG uN uD uR uF uP uL uT uA uM uH xA xC xE xG xH xI xJ xK xL uO : sx_C} {G : sx_H} {v1 : Int32} {xB : sx_C} {xD : sx_C} {xF : sx_C} {res : Int32 × sx_C × sx_C × sx_C} (h : f_X12_road N xA xE v1 xB xD xF = some res) : sx_Runs D b K yX12_road YX12_road (sx_rm 5) [.ref (b + 38), .int v1] (sx_hp b uG uN uD uR uF uP uL uT uA uM uH xA xB xC xD xE xF xG xH xI xJ xK xL uO G) (sx_Ex (some (.int res.1)) (sx_hp b uG uN uD uR uF uP uL uT uA uM uH xA (res.2.1) xC (res.2.2.1) xE (res.2.2.2) xG xH xI xJ xK xL uO G)) := by
  rw [f_X12_road] at h
  refine sx_run (by decide +kernel) rfl rfl (Nat.le_of_ble_eq_true rfl) ?_
  refine at_aload_n 0 dX12_road_0 rfl ?_
  refine at_iconst 0 dX12_road_1 ic_0 ?_
  refine at_putf cl_X12 (by decide) fl_X12_73 rfl hg_38 rfl rfl (Nat.le_of_ble_eq_true rfl) hs_38_0 dX12_road_2 ?_
  refine at_iload_n 1 dX12_road_5 rfl ?_
  refine at_if_lt 14 dX12_road_6 (by decide) (fun c1 => ?_) (fun c1 => ?_)
  · rw [if_pos c1] at h
    refine at_iconst (-1) dX12_road_14 ic_m1 ?_
    cases h; exact at_iret rfl (Nat.le_refl _) (Nat.le_refl _) ⟨rfl, rfl⟩ dX12_road_15
  · rw [if_neg c1] at h
    refine at_iload_n 1 dX12_road_9 rfl ?_
    refine at_iconst 1 dX12_road_10 ic_1 ?_
    refine at_icmp_le 16 dX12_road_11 (by decide) (fun c2 => ?_) (fun c2 => ?_)
    · rw [if_pos c2] at h
      refine at_aload_n 0 dX12_road_16 rfl ?_
      refine at_aload_n 0 dX12_road_17 rfl ?_
      refine at_getf cl_X12 (by decide) fl_X12_201 hg_38 rfl dX12_road_18 ?_
      refine at_aload_n 0 dX12_road_21 rfl ?_
      refine at_getf cl_X12 (by decide) fl_X12_204 hg_38 rfl dX12_road_22 ?_
      obtain ⟨q3, hq3, h⟩ := sp_bind h
      refine at_callVi (st := []) hK mt_X12_has ml_X12_301 cl_X12 hg_38 (t_X12_has hK hq3) rfl rfl (Nat.le_of_ble_eq_true rfl) ⟨Nat.le_of_ble_eq_true rfl, Nat.le_of_ble_eq_true rfl⟩ ⟨Nat.le_refl _, Nat.le_refl _⟩ dX12_road_25 ?_
      refine at_iconst 1 dX12_road_28 ic_1 ?_
      refine at_icmp_ne 35 dX12_road_29 (by decide) (fun c4 => ?_) (fun c4 => ?_)
      · rw [if_neg c4] at h
        refine at_aload_n 0 dX12_road_35 rfl ?_
        refine at_iconst 0 dX12_road_36 ic_0 ?_
        obtain ⟨q5, hq5, h⟩ := sp_bind h
        refine at_callVi (st := []) hK mt_X12_leastSo ml_X12_373 cl_X12 hg_38 (t_X12_leastSo hK hq5) rfl rfl (Nat.le_of_ble_eq_true rfl) ⟨Nat.le_of_ble_eq_true rfl, Nat.le_of_ble_eq_true rfl⟩ ⟨Nat.le_refl _, Nat.le_refl _⟩ dX12_road_37 ?_
        refine at_istore_n [(0, .ref (b + 38)), (1, .int v1), (2, .int (q5.1))] dX12_road_40 (Nat.le_of_ble_eq_true rfl) rfl ?_
        refine at_iload_n 1 dX12_road_41 rfl ?_
        refine at_if_ne 52 dX12_road_42 (by decide) (fun c6 => ?_) (fun c6 => ?_)
        · rw [if_neg c6] at h
          refine at_iload_n 2 dX12_road_52 rfl ?_
          cases h; exact at_iret rfl (Nat.le_refl _) (Nat.le_refl _) ⟨rfl, rfl⟩ dX12_road_53
        · rw [if_pos c6] at h
          refine at_iload_n 2 dX12_road_45 rfl ?_
          obtain ⟨q7, hq7, h⟩ := sp_bind h
          refine at_callSi (st := []) hK mt_X12_bits ml_X12_250 (t_X12_bits hK hq7) rfl rfl (Nat.le_of_ble_eq_true rfl) ⟨Nat.le_of_ble_eq_true rfl, Nat.le_of_ble_eq_true rfl⟩ ⟨Nat.le_refl _, Nat.le_refl _⟩ dX12_road_46 ?_
          refine at_goto 53 dX12_road_49 (by decide) ?_
          cases h; exact at_iret rfl (Nat.le_refl _) (Nat.le_refl _) ⟨rfl, rfl⟩ dX12_road_53
      · rw [if_pos c4] at h
        refine at_bipush (-2) dX12_road_32 bp_m2 ?_
        cases h; exact at_iret rfl (Nat.le_refl _) (Nat.le_refl _) ⟨rfl, rfl⟩ dX12_road_34
    · rw [if_neg c2] at h
      refine at_iconst (-1) dX12_road_14 ic_m1 ?_
      cases h; exact at_iret rfl (Nat.le_refl _) (Nat.le_refl _) ⟨rfl, rfl⟩ dX12_road_15
set_option maxRecDepth 100000 in
theorem t_X12_lucky {D : va_G} {b : Nat} {K : State → Heap → Prop} {sa : Nat → Nat} (hK : sx_Kk b K sa) {N : Nat} {uG uN uD uR uF uP uL uT uA uM uH xA xC xG xH xI xJ xK xL uO : sx_C} {G : sx_H} {v1 : Int32} {xB : sx_C} {xD : sx_C} {xE : sx_C} {xF : sx_C} {res : Int32 × sx_C × sx_C × sx_C × sx_C} (h : f_X12_lucky N xA v1 xB xD xE xF = some res) : sx_Runs D b K yX12_lucky YX12_lucky (sx_rm 5) [.ref (b + 38), .int v1] (sx_hp b uG uN uD uR uF uP uL uT uA uM uH xA xB xC xD xE xF xG xH xI xJ xK xL uO G) (sx_Ex (some (.int res.1)) (sx_hp b uG uN uD uR uF uP uL uT uA uM uH xA (res.2.1) xC (res.2.2.1) (res.2.2.2.1) (res.2.2.2.2) xG xH xI xJ xK xL uO G)) := by
  rw [f_X12_lucky] at h
  refine sx_run (by decide +kernel) rfl rfl (Nat.le_of_ble_eq_true rfl) ?_
  refine at_aload_n 0 dX12_lucky_0 rfl ?_
  refine at_iconst 0 dX12_lucky_1 ic_0 ?_
  refine at_putf cl_X12 (by decide) fl_X12_73 rfl hg_38 rfl rfl (Nat.le_of_ble_eq_true rfl) hs_38_0 dX12_lucky_2 ?_
  refine at_iload_n 1 dX12_lucky_5 rfl ?_
  refine at_iconst (-1) dX12_lucky_6 ic_m1 ?_
  refine at_icmp_lt 21 dX12_lucky_7 (by decide) (fun c1 => ?_) (fun c1 => ?_)
  · rw [if_pos c1] at h
    refine at_bipush (-2) dX12_lucky_21 bp_m2 ?_
    refine at_goto 33 dX12_lucky_23 (by decide) ?_
    cases h; exact at_iret rfl (Nat.le_refl _) (Nat.le_refl _) ⟨rfl, rfl⟩ dX12_lucky_33
  · rw [if_neg c1] at h
    refine at_iload_n 1 dX12_lucky_10 rfl ?_
    refine at_aload_n 0 dX12_lucky_11 rfl ?_
    obtain ⟨q2, hq2, h⟩ := sp_bind h
    refine at_callVi (st := [.int v1]) hK mt_X12_openNow ml_X12_298 cl_X12 hg_38 (t_X12_openNow hK hq2) rfl rfl (Nat.le_of_ble_eq_true rfl) ⟨Nat.le_of_ble_eq_true rfl, Nat.le_of_ble_eq_true rfl⟩ ⟨Nat.le_refl _, Nat.le_refl _⟩ dX12_lucky_12 ?_
    obtain ⟨q3, hq3, h⟩ := sp_bind h
    refine at_callSi (st := [.int v1]) hK mt_X12_bits ml_X12_250 (t_X12_bits hK hq3) rfl rfl (Nat.le_of_ble_eq_true rfl) ⟨Nat.le_of_ble_eq_true rfl, Nat.le_of_ble_eq_true rfl⟩ ⟨Nat.le_refl _, Nat.le_refl _⟩ dX12_lucky_15 ?_
    refine at_icmp_le 26 dX12_lucky_18 (by decide) (fun c4 => ?_) (fun c4 => ?_)
    · rw [if_pos c4] at h
      refine at_aload_n 0 dX12_lucky_26 rfl ?_
      refine at_iconst 0 dX12_lucky_27 ic_0 ?_
      refine at_iload_n 1 dX12_lucky_28 rfl ?_
      refine at_iconst (-1) dX12_lucky_29 ic_m1 ?_
      obtain ⟨q5, hq5, h⟩ := sp_bind h
      refine at_callVi (st := []) hK mt_X12_manySo ml_X12_376 cl_X12 hg_38 (t_X12_manySo hK hq5) rfl rfl (Nat.le_of_ble_eq_true rfl) ⟨Nat.le_of_ble_eq_true rfl, Nat.le_of_ble_eq_true rfl⟩ ⟨Nat.le_refl _, Nat.le_refl _⟩ dX12_lucky_30 ?_
      cases h; exact at_iret rfl (Nat.le_refl _) (Nat.le_refl _) ⟨rfl, rfl⟩ dX12_lucky_33
    · rw [if_neg c4] at h
      refine at_bipush (-2) dX12_lucky_21 bp_m2 ?_
      refine at_goto 33 dX12_lucky_23 (by decide) ?_
      cases h; exact at_iret rfl (Nat.le_refl _) (Nat.le_refl _) ⟨rfl, rfl⟩ dX12_lucky_33
set_option maxRecDepth 100000 in
theorem t_X12_walls {D : va_G} {b : Nat} {K : State → Heap → Prop} {sa : Nat → Nat} (hK : sx_Kk b K sa) {N : Nat} {uG uN uD uR uF uP uL uT uA uM uH xA xC xG xH xI xJ xK xL uO : sx_C} {G : sx_H} {v1 : Int32} {xB : sx_C} {xD : sx_C} {xE : sx_C} {xF : sx_C} {res : Int32 × sx_C × sx_C × sx_C × sx_C} (h : f_X12_walls N xA v1 xB xD xE xF = some res) : sx_Runs D b K yX12_walls YX12_walls (sx_rm 5) [.ref (b + 38), .int v1] (sx_hp b uG uN uD uR uF uP uL uT uA uM uH xA xB xC xD xE xF xG xH xI xJ xK xL uO G) (sx_Ex (some (.int res.1)) (sx_hp b uG uN uD uR uF uP uL uT uA uM uH xA (res.2.1) xC (res.2.2.1) (res.2.2.2.1) (res.2.2.2.2) xG xH xI xJ xK xL uO G)) := by
  rw [f_X12_walls] at h
  refine sx_run (by decide +kernel) rfl rfl (Nat.le_of_ble_eq_true rfl) ?_
  refine at_aload_n 0 dX12_walls_0 rfl ?_
  refine at_iconst 0 dX12_walls_1 ic_0 ?_
  refine at_putf cl_X12 (by decide) fl_X12_73 rfl hg_38 rfl rfl (Nat.le_of_ble_eq_true rfl) hs_38_0 dX12_walls_2 ?_
  refine at_iload_n 1 dX12_walls_5 rfl ?_
  refine at_iconst (-1) dX12_walls_6 ic_m1 ?_
  refine at_icmp_lt 21 dX12_walls_7 (by decide) (fun c1 => ?_) (fun c1 => ?_)
  · rw [if_pos c1] at h
    refine at_bipush (-2) dX12_walls_21 bp_m2 ?_
    refine at_goto 33 dX12_walls_23 (by decide) ?_
    cases h; exact at_iret rfl (Nat.le_refl _) (Nat.le_refl _) ⟨rfl, rfl⟩ dX12_walls_33
  · rw [if_neg c1] at h
    refine at_iload_n 1 dX12_walls_10 rfl ?_
    refine at_aload_n 0 dX12_walls_11 rfl ?_
    obtain ⟨q2, hq2, h⟩ := sp_bind h
    refine at_callVi (st := [.int v1]) hK mt_X12_openNow ml_X12_298 cl_X12 hg_38 (t_X12_openNow hK hq2) rfl rfl (Nat.le_of_ble_eq_true rfl) ⟨Nat.le_of_ble_eq_true rfl, Nat.le_of_ble_eq_true rfl⟩ ⟨Nat.le_refl _, Nat.le_refl _⟩ dX12_walls_12 ?_
    obtain ⟨q3, hq3, h⟩ := sp_bind h
    refine at_callSi (st := [.int v1]) hK mt_X12_bits ml_X12_250 (t_X12_bits hK hq3) rfl rfl (Nat.le_of_ble_eq_true rfl) ⟨Nat.le_of_ble_eq_true rfl, Nat.le_of_ble_eq_true rfl⟩ ⟨Nat.le_refl _, Nat.le_refl _⟩ dX12_walls_15 ?_
    refine at_icmp_le 26 dX12_walls_18 (by decide) (fun c4 => ?_) (fun c4 => ?_)
    · rw [if_pos c4] at h
      refine at_aload_n 0 dX12_walls_26 rfl ?_
      refine at_iconst 1 dX12_walls_27 ic_1 ?_
      refine at_iload_n 1 dX12_walls_28 rfl ?_
      refine at_iconst (-1) dX12_walls_29 ic_m1 ?_
      obtain ⟨q5, hq5, h⟩ := sp_bind h
      refine at_callVi (st := []) hK mt_X12_manySo ml_X12_376 cl_X12 hg_38 (t_X12_manySo hK hq5) rfl rfl (Nat.le_of_ble_eq_true rfl) ⟨Nat.le_of_ble_eq_true rfl, Nat.le_of_ble_eq_true rfl⟩ ⟨Nat.le_refl _, Nat.le_refl _⟩ dX12_walls_30 ?_
      cases h; exact at_iret rfl (Nat.le_refl _) (Nat.le_refl _) ⟨rfl, rfl⟩ dX12_walls_33
    · rw [if_neg c4] at h
      refine at_bipush (-2) dX12_walls_21 bp_m2 ?_
      refine at_goto 33 dX12_walls_23 (by decide) ?_
      cases h; exact at_iret rfl (Nat.le_refl _) (Nat.le_refl _) ⟨rfl, rfl⟩ dX12_walls_33
