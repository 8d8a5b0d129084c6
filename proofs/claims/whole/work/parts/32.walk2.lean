set_option maxRecDepth 100000 in
theorem t_X7_layOpen_64 {D : va_G} {b : Nat} {K : State → Heap → Prop} {sa : Nat → Nat} (hK : sx_Kk b K sa) (N : Nat) {k2 : Int32 → Int32 → sx_C → Option (sx_C)} {uG uN uD uR uP uL uT uA uM uH xA xB xC xD xE xF xG xH xI xJ xK xL uO : sx_C} {G : sx_H} (res : sx_C) (hk2 : ∀ (v1 : Int32) (v2 : Int32) (uF : sx_C), k2 v1 v2 uF = some res → sx_At D b K YX7_layOpen (sx_rm 1) (sx_Ex none (sx_hp b uG uN uD uR res uP uL uT uA uM uH xA xB xC xD xE xF xG xH xI xJ xK xL uO G)) 2 [(0, .ref (b + 16)), (1, .int v1), (2, .int v2)] [] (sx_hp b uG uN uD uR uF uP uL uT uA uM uH xA xB xC xD xE xF xG xH xI xJ xK xL uO G) 0 0) : ∀ (v1 : Int32) (v2 : Int32) (uF : sx_C), f_X7_layOpen_64 N k2 uN uP v1 v2 uF = some res → sx_At D b K YX7_layOpen (sx_rm 1) (sx_Ex none (sx_hp b uG uN uD uR res uP uL uT uA uM uH xA xB xC xD xE xF xG xH xI xJ xK xL uO G)) 64 [(0, .ref (b + 16)), (1, .int v1), (2, .int v2)] [] (sx_hp b uG uN uD uR uF uP uL uT uA uM uH xA xB xC xD xE xF xG xH xI xJ xK xL uO G) 0 0 := by
  intro v1 v2 uF h
  rw [f_X7_layOpen_64] at h
  refine at_iinc 2 1 [(0, .ref (b + 16)), (1, .int v1), (2, .int (v2 + 1))] dX7_layOpen_64 rfl ic_1 (Nat.le_of_ble_eq_true rfl) rfl ?_
  refine at_goto 2 dX7_layOpen_67 (by decide) ?_
  exact hk2 _ _ _ h
set_option maxRecDepth 100000 in
theorem t_X7_layOpen_2 {D : va_G} {b : Nat} {K : State → Heap → Prop} {sa : Nat → Nat} (hK : sx_Kk b K sa) (N : Nat) {uG uN uD uR uP uL uT uA uM uH xA xB xC xD xE xF xG xH xI xJ xK xL uO : sx_C} {G : sx_H} (res : sx_C) : ∀ (n0 : Nat) (v1 : Int32) (v2 : Int32) (uF : sx_C), f_X7_layOpen_2 N uN uP n0 v1 v2 uF = some res → sx_At D b K YX7_layOpen (sx_rm 1) (sx_Ex none (sx_hp b uG uN uD uR res uP uL uT uA uM uH xA xB xC xD xE xF xG xH xI xJ xK xL uO G)) 2 [(0, .ref (b + 16)), (1, .int v1), (2, .int v2)] [] (sx_hp b uG uN uD uR uF uP uL uT uA uM uH xA xB xC xD xE xF xG xH xI xJ xK xL uO G) 0 0 := by
  intro n0
  induction n0 with
  | zero => intro _ _ _ h; cases h
  | succ n0 ih =>
    intro v1 v2 uF h
    rw [f_X7_layOpen_2] at h
    refine at_iload_n 2 dX7_layOpen_2 rfl ?_
    refine at_bipush 14 dX7_layOpen_3 bp_14 ?_
    refine at_icmp_ge 70 dX7_layOpen_5 (by decide) (fun c1 => ?_) (fun c1 => ?_)
    · rw [if_pos c1] at h
      cases h; exact at_vret rfl (Nat.le_refl _) (Nat.le_refl _) ⟨rfl, rfl⟩ dX7_layOpen_70
    · rw [if_neg c1] at h
      refine at_aload_n 0 dX7_layOpen_8 rfl ?_
      refine at_getf cl_X7 (by decide) fl_X7_9 hg_16 rfl dX7_layOpen_9 ?_
      refine at_iload_n 2 dX7_layOpen_12 rfl ?_
      obtain ⟨q2, hq2, h⟩ := sp_bind h
      refine at_callSi (st := []) hK mt_X11_has ml_X7_90 (t_X11_has hK hq2) rfl rfl (Nat.le_of_ble_eq_true rfl) ⟨Nat.le_of_ble_eq_true rfl, Nat.le_of_ble_eq_true rfl⟩ ⟨Nat.le_refl _, Nat.le_refl _⟩ dX7_layOpen_13 ?_
      refine at_zeq 64 dX7_layOpen_16 (by decide) (fun c3 => ?_) (fun c3 => ?_)
      · rw [if_neg c3] at h
        exact t_X7_layOpen_64 hK N _ ih _ _ _ h
      · rw [if_pos c3] at h
        refine at_aload_n 0 dX7_layOpen_19 rfl ?_
        refine at_getf cl_X7 (by decide) fl_X7_24 hg_16 rfl dX7_layOpen_20 ?_
        refine at_iload_n 2 dX7_layOpen_23 rfl ?_
        obtain ⟨q4, hq4, h⟩ := sp_bind h
        refine at_callVi (st := []) hK mt_X6_isLine ml_X7_94 cl_X6 hg_2 (t_X6_isLine hK hq4) rfl rfl (Nat.le_of_ble_eq_true rfl) ⟨Nat.le_of_ble_eq_true rfl, Nat.le_of_ble_eq_true rfl⟩ ⟨Nat.le_refl _, Nat.le_refl _⟩ dX7_layOpen_24 ?_
        refine at_zeq 64 dX7_layOpen_27 (by decide) (fun c5 => ?_) (fun c5 => ?_)
        · rw [if_neg c5] at h
          exact t_X7_layOpen_64 hK N _ ih _ _ _ h
        · rw [if_pos c5] at h
          refine at_aload_n 0 dX7_layOpen_30 rfl ?_
          refine at_getf cl_X7 (by decide) fl_X7_28 hg_16 rfl dX7_layOpen_31 ?_
          refine at_iload_n 2 dX7_layOpen_34 rfl ?_
          refine at_iload_n 1 dX7_layOpen_35 rfl ?_
          refine at_aload_n 0 dX7_layOpen_36 rfl ?_
          refine at_getf cl_X7 (by decide) fl_X7_24 hg_16 rfl dX7_layOpen_37 ?_
          refine at_getf cl_X6 (by decide) fl_X7_97 hg_2 rfl dX7_layOpen_40 ?_
          refine at_iload_n 2 dX7_layOpen_43 rfl ?_
          obtain ⟨w6, hw6, h⟩ := sp_bind h
          refine at_iald hg_3 hw6 dX7_layOpen_44 ?_
          obtain ⟨q7, hq7, h⟩ := sp_bind h
          refine at_callSi (st := [.int v2, .ref (b + 9)]) hK mt_X8_numberOf ml_X7_68 (t_X8_numberOf hK hq7) rfl rfl (Nat.le_of_ble_eq_true rfl) ⟨Nat.le_of_ble_eq_true rfl, Nat.le_of_ble_eq_true rfl⟩ ⟨Nat.le_refl _, Nat.le_refl _⟩ dX7_layOpen_45 ?_
          refine at_iload_n 1 dX7_layOpen_48 rfl ?_
          refine at_aload_n 0 dX7_layOpen_49 rfl ?_
          refine at_getf cl_X7 (by decide) fl_X7_24 hg_16 rfl dX7_layOpen_50 ?_
          refine at_getf cl_X6 (by decide) fl_X7_101 hg_2 rfl dX7_layOpen_53 ?_
          refine at_iload_n 2 dX7_layOpen_56 rfl ?_
          obtain ⟨w8, hw8, h⟩ := sp_bind h
          refine at_iald hg_4 hw8 dX7_layOpen_57 ?_
          obtain ⟨q9, hq9, h⟩ := sp_bind h
          refine at_callSi (st := [.int q7, .int v2, .ref (b + 9)]) hK mt_X8_numberOf ml_X7_68 (t_X8_numberOf hK hq9) rfl rfl (Nat.le_of_ble_eq_true rfl) ⟨Nat.le_of_ble_eq_true rfl, Nat.le_of_ble_eq_true rfl⟩ ⟨Nat.le_refl _, Nat.le_refl _⟩ dX7_layOpen_58 ?_
          obtain ⟨q10, hq10, h⟩ := sp_bind h
          refine at_callVv (st := []) hK mt_X0_lay ml_X7_104 cl_X0 hg_9 (t_X0_lay hK hq10) rfl rfl (Nat.le_of_ble_eq_true rfl) ⟨Nat.le_of_ble_eq_true rfl, Nat.le_of_ble_eq_true rfl⟩ ⟨Nat.le_refl _, Nat.le_refl _⟩ dX7_layOpen_61 ?_
          exact t_X7_layOpen_64 hK N _ ih _ _ _ h
set_option maxRecDepth 100000 in
theorem t_X7_layOpen {D : va_G} {b : Nat} {K : State → Heap → Prop} {sa : Nat → Nat} (hK : sx_Kk b K sa) {N : Nat} {uG uN uD uR uP uL uT uA uM uH xA xB xC xD xE xF xG xH xI xJ xK xL uO : sx_C} {G : sx_H} {v1 : Int32} {uF : sx_C} {res : sx_C} (h : f_X7_layOpen N uN uP v1 uF = some res) : sx_Runs D b K yX7_layOpen YX7_layOpen (sx_rm 1) [.ref (b + 16), .int v1] (sx_hp b uG uN uD uR uF uP uL uT uA uM uH xA xB xC xD xE xF xG xH xI xJ xK xL uO G) (sx_Ex none (sx_hp b uG uN uD uR res uP uL uT uA uM uH xA xB xC xD xE xF xG xH xI xJ xK xL uO G)) := by
  rw [f_X7_layOpen] at h
  refine sx_run (by decide +kernel) rfl rfl (Nat.le_of_ble_eq_true rfl) ?_
  refine at_iconst 0 dX7_layOpen_0 ic_0 ?_
  refine at_istore_n [(0, .ref (b + 16)), (1, .int v1), (2, .int 0)] dX7_layOpen_1 (Nat.le_of_ble_eq_true rfl) rfl ?_
  exact t_X7_layOpen_2 hK N _ N _ _ _ h
set_option maxRecDepth 100000 in
theorem t_X7_nthSet_164 {D : va_G} {b : Nat} {K : State → Heap → Prop} {sa : Nat → Nat} (hK : sx_Kk b K sa) (N : Nat) {k100 : Int32 → Int32 → Int32 → Int32 → sx_C → sx_C → Option (Int32 × sx_C × sx_C)} {k116 : Int32 → Int32 → Int32 → Int32 → Int32 → Int32 → sx_C → sx_C → Option (Int32 × sx_C × sx_C)} {uG uN uD uR uL uT uA uM uH xA xB xC xD xE xF xG xH xI xJ xK xL uO : sx_C} {G : sx_H} (res : Int32 × sx_C × sx_C) (hk100 : ∀ (v5 : Int32) (v6 : Int32) (v7 : Int32) (v8 : Int32) (uF : sx_C) (uP : sx_C), k100 v5 v6 v7 v8 uF uP = some res → sx_At D b K YX7_nthSet (sx_rm 3) (sx_Ex (some (.int res.1)) (sx_hp b uG uN uD uR (res.2.1) (res.2.2) uL uT uA uM uH xA xB xC xD xE xF xG xH xI xJ xK xL uO G)) 100 [(0, .ref (b + 16)), (5, .int v5), (6, .int v6), (7, .int v7), (8, .int v8)] [] (sx_hp b uG uN uD uR uF uP uL uT uA uM uH xA xB xC xD xE xF xG xH xI xJ xK xL uO G) 0 0) (hk116 : ∀ (v5 : Int32) (v6 : Int32) (v7 : Int32) (v8 : Int32) (v9 : Int32) (v10 : Int32) (uF : sx_C) (uP : sx_C), k116 v5 v6 v7 v8 v9 v10 uF uP = some res → sx_At D b K YX7_nthSet (sx_rm 3) (sx_Ex (some (.int res.1)) (sx_hp b uG uN uD uR (res.2.1) (res.2.2) uL uT uA uM uH xA xB xC xD xE xF xG xH xI xJ xK xL uO G)) 116 [(0, .ref (b + 16)), (5, .int v5), (6, .int v6), (7, .int v7), (8, .int v8), (9, .int v9), (10, .int v10)] [] (sx_hp b uG uN uD uR uF uP uL uT uA uM uH xA xB xC xD xE xF xG xH xI xJ xK xL uO G) 0 0) : ∀ (v5 : Int32) (v6 : Int32) (v7 : Int32) (v8 : Int32) (v9 : Int32) (v10 : Int32) (uF : sx_C) (uP : sx_C), f_X7_nthSet_164 N k100 k116 uN v5 v6 v7 v8 v9 v10 uF uP = some res → sx_At D b K YX7_nthSet (sx_rm 3) (sx_Ex (some (.int res.1)) (sx_hp b uG uN uD uR (res.2.1) (res.2.2) uL uT uA uM uH xA xB xC xD xE xF xG xH xI xJ xK xL uO G)) 164 [(0, .ref (b + 16)), (5, .int v5), (6, .int v6), (7, .int v7), (8, .int v8), (9, .int v9), (10, .int v10)] [] (sx_hp b uG uN uD uR uF uP uL uT uA uM uH xA xB xC xD xE xF xG xH xI xJ xK xL uO G) 0 0 := by
  intro v5 v6 v7 v8 v9 v10 uF uP h
  rw [f_X7_nthSet_164] at h
  refine at_iload 5 dX7_nthSet_164 rfl ?_
  refine at_iload 2 dX7_nthSet_166 rfl ?_
  refine at_isub dX7_nthSet_168 ?_
  refine at_iload 2 dX7_nthSet_169 rfl ?_
  refine at_iand dX7_nthSet_171 ?_
  refine at_istore [(0, .ref (b + 16)), (5, .int v5), (6, .int v6), (7, .int v7), (8, .int v8), (9, .int ((v9 - v6) &&& v6)), (10, .int v10)] dX7_nthSet_172 (Nat.le_of_ble_eq_true rfl) rfl ?_
  refine at_iinc 6 1 [(0, .ref (b + 16)), (5, .int v5), (6, .int v6), (7, .int v7), (8, .int v8), (9, .int ((v9 - v6) &&& v6)), (10, .int (v10 + 1))] dX7_nthSet_174 rfl ic_1 (Nat.le_of_ble_eq_true rfl) rfl ?_
  refine at_goto 116 dX7_nthSet_177 (by decide) ?_
  exact hk116 _ _ _ _ _ _ _ _ h
set_option maxRecDepth 100000 in
theorem t_X7_nthSet_116 {D : va_G} {b : Nat} {K : State → Heap → Prop} {sa : Nat → Nat} (hK : sx_Kk b K sa) (N : Nat) {k100 : Int32 → Int32 → Int32 → Int32 → sx_C → sx_C → Option (Int32 × sx_C × sx_C)} {uG uN uD uR uL uT uA uM uH xA xB xC xD xE xF xG xH xI xJ xK xL uO : sx_C} {G : sx_H} (res : Int32 × sx_C × sx_C) (hk100 : ∀ (v5 : Int32) (v6 : Int32) (v7 : Int32) (v8 : Int32) (uF : sx_C) (uP : sx_C), k100 v5 v6 v7 v8 uF uP = some res → sx_At D b K YX7_nthSet (sx_rm 3) (sx_Ex (some (.int res.1)) (sx_hp b uG uN uD uR (res.2.1) (res.2.2) uL uT uA uM uH xA xB xC xD xE xF xG xH xI xJ xK xL uO G)) 100 [(0, .ref (b + 16)), (5, .int v5), (6, .int v6), (7, .int v7), (8, .int v8)] [] (sx_hp b uG uN uD uR uF uP uL uT uA uM uH xA xB xC xD xE xF xG xH xI xJ xK xL uO G) 0 0) : ∀ (n0 : Nat) (v5 : Int32) (v6 : Int32) (v7 : Int32) (v8 : Int32) (v9 : Int32) (v10 : Int32) (uF : sx_C) (uP : sx_C), f_X7_nthSet_116 N k100 uN n0 v5 v6 v7 v8 v9 v10 uF uP = some res → sx_At D b K YX7_nthSet (sx_rm 3) (sx_Ex (some (.int res.1)) (sx_hp b uG uN uD uR (res.2.1) (res.2.2) uL uT uA uM uH xA xB xC xD xE xF xG xH xI xJ xK xL uO G)) 116 [(0, .ref (b + 16)), (5, .int v5), (6, .int v6), (7, .int v7), (8, .int v8), (9, .int v9), (10, .int v10)] [] (sx_hp b uG uN uD uR uF uP uL uT uA uM uH xA xB xC xD xE xF xG xH xI xJ xK xL uO G) 0 0 := by
  intro n0
  induction n0 with
  | zero => intro _ _ _ _ _ _ _ _ h; cases h
  | succ n0 ih =>
    intro v5 v6 v7 v8 v9 v10 uF uP h
    rw [f_X7_nthSet_116] at h
    refine at_iload 6 dX7_nthSet_116 rfl ?_
    refine at_iconst 1 dX7_nthSet_118 ic_1 ?_
    refine at_iload 2 dX7_nthSet_119 rfl ?_
    obtain ⟨q3, hq3, h⟩ := sp_bind h
    refine at_callSi (st := [.int 1, .int v10]) hK mt_J6_bitCount_0f7a4 ml_X7_82 (t_J6_bitCount_0f7a4 hK hq3) rfl rfl (Nat.le_of_ble_eq_true rfl) ⟨Nat.le_of_ble_eq_true rfl, Nat.le_of_ble_eq_true rfl⟩ ⟨Nat.le_refl _, Nat.le_refl _⟩ dX7_nthSet_121 ?_
    refine at_ishl dX7_nthSet_124 ?_
    refine at_icmp_ge 180 dX7_nthSet_125 (by decide) (fun c4 => ?_) (fun c4 => ?_)
    · rw [if_pos c4] at h
      refine at_iinc 4 1 [(0, .ref (b + 16)), (5, .int v5), (6, .int v6), (7, .int v7), (8, .int (v8 + 1)), (9, .int v9), (10, .int v10)] dX7_nthSet_180 rfl ic_1 (Nat.le_of_ble_eq_true rfl) rfl ?_
      refine at_goto 100 dX7_nthSet_183 (by decide) ?_
      refine at_sub [0, 1, 2, 3, 4] [(0, .ref (b + 16)), (5, .int v5), (6, .int v6), (7, .int v7), (8, .int (v8 + 1))] rfl ?_
      exact hk100 _ _ _ _ _ _ h
    · rw [if_neg c4] at h
      refine at_iload 5 dX7_nthSet_128 rfl ?_
      obtain ⟨q5, hq5, h⟩ := sp_bind h
      refine at_callSi (st := []) hK mt_J6_bitCount_0f7a4 ml_X7_82 (t_J6_bitCount_0f7a4 hK hq5) rfl rfl (Nat.le_of_ble_eq_true rfl) ⟨Nat.le_of_ble_eq_true rfl, Nat.le_of_ble_eq_true rfl⟩ ⟨Nat.le_refl _, Nat.le_refl _⟩ dX7_nthSet_130 ?_
      refine at_iload 4 dX7_nthSet_133 rfl ?_
      refine at_icmp_ne 164 dX7_nthSet_135 (by decide) (fun c6 => ?_) (fun c6 => ?_)
      · rw [if_neg c6] at h
        exact t_X7_nthSet_164 hK N _ hk100 ih _ _ _ _ _ _ _ _ h
      · rw [if_pos c6] at h
        refine at_aload_n 0 dX7_nthSet_138 rfl ?_
        refine at_iload 1 dX7_nthSet_139 rfl ?_
        refine at_iload 5 dX7_nthSet_141 rfl ?_
        refine at_ior dX7_nthSet_143 ?_
        obtain ⟨q7, hq7, h⟩ := sp_bind h
        refine at_callVi (st := []) hK mt_X7_carriesTwoTrees ml_X7_87 cl_X7 hg_16 (t_X7_carriesTwoTrees hK hq7) rfl rfl (Nat.le_of_ble_eq_true rfl) ⟨Nat.le_of_ble_eq_true rfl, Nat.le_of_ble_eq_true rfl⟩ ⟨Nat.le_refl _, Nat.le_refl _⟩ dX7_nthSet_144 ?_
        refine at_zeq 164 dX7_nthSet_147 (by decide) (fun c8 => ?_) (fun c8 => ?_)
        · rw [if_neg c8] at h
          exact t_X7_nthSet_164 hK N _ hk100 ih _ _ _ _ _ _ _ _ h
        · rw [if_pos c8] at h
          refine at_iload 3 dX7_nthSet_150 rfl ?_
          refine at_if_ne 161 dX7_nthSet_152 (by decide) (fun c9 => ?_) (fun c9 => ?_)
          · rw [if_neg c9] at h
            refine at_iinc 3 (-1) [(0, .ref (b + 16)), (5, .int v5), (6, .int v6), (7, .int (v7 + (-1))), (8, .int v8), (9, .int v9), (10, .int v10)] dX7_nthSet_161 rfl ic_m1 (Nat.le_of_ble_eq_true rfl) rfl ?_
            exact t_X7_nthSet_164 hK N _ hk100 ih _ _ _ _ _ _ _ _ h
          · rw [if_pos c9] at h
            refine at_iload 1 dX7_nthSet_155 rfl ?_
            refine at_iload 5 dX7_nthSet_157 rfl ?_
            refine at_ior dX7_nthSet_159 ?_
            cases h; exact at_iret rfl (Nat.le_refl _) (Nat.le_refl _) ⟨rfl, rfl⟩ dX7_nthSet_160
set_option maxRecDepth 100000 in
theorem t_X7_nthSet_100 {D : va_G} {b : Nat} {K : State → Heap → Prop} {sa : Nat → Nat} (hK : sx_Kk b K sa) (N : Nat) {uG uN uD uR uL uT uA uM uH xA xB xC xD xE xF xG xH xI xJ xK xL uO : sx_C} {G : sx_H} (res : Int32 × sx_C × sx_C) : ∀ (n0 : Nat) (v5 : Int32) (v6 : Int32) (v7 : Int32) (v8 : Int32) (uF : sx_C) (uP : sx_C), f_X7_nthSet_100 N uN n0 v5 v6 v7 v8 uF uP = some res → sx_At D b K YX7_nthSet (sx_rm 3) (sx_Ex (some (.int res.1)) (sx_hp b uG uN uD uR (res.2.1) (res.2.2) uL uT uA uM uH xA xB xC xD xE xF xG xH xI xJ xK xL uO G)) 100 [(0, .ref (b + 16)), (5, .int v5), (6, .int v6), (7, .int v7), (8, .int v8)] [] (sx_hp b uG uN uD uR uF uP uL uT uA uM uH xA xB xC xD xE xF xG xH xI xJ xK xL uO G) 0 0 := by
  intro n0
  induction n0 with
  | zero => intro _ _ _ _ _ _ h; cases h
  | succ n0 ih =>
    intro v5 v6 v7 v8 uF uP h
    rw [f_X7_nthSet_100] at h
    refine at_iload 4 dX7_nthSet_100 rfl ?_
    refine at_iload 2 dX7_nthSet_102 rfl ?_
    obtain ⟨q1, hq1, h⟩ := sp_bind h
    refine at_callSi (st := [.int v8]) hK mt_J6_bitCount_0f7a4 ml_X7_82 (t_J6_bitCount_0f7a4 hK hq1) rfl rfl (Nat.le_of_ble_eq_true rfl) ⟨Nat.le_of_ble_eq_true rfl, Nat.le_of_ble_eq_true rfl⟩ ⟨Nat.le_refl _, Nat.le_refl _⟩ dX7_nthSet_104 ?_
    refine at_icmp_gt 186 dX7_nthSet_107 (by decide) (fun c2 => ?_) (fun c2 => ?_)
    · rw [if_pos c2] at h
      refine at_bipush (-2) dX7_nthSet_186 bp_m2 ?_
      cases h; exact at_iret rfl (Nat.le_refl _) (Nat.le_refl _) ⟨rfl, rfl⟩ dX7_nthSet_188
    · rw [if_neg c2] at h
      refine at_iconst 0 dX7_nthSet_110 ic_0 ?_
      refine at_istore [(0, .ref (b + 16)), (5, .int v5), (6, .int v6), (7, .int v7), (8, .int v8), (9, .int 0)] dX7_nthSet_111 (Nat.le_of_ble_eq_true rfl) rfl ?_
      refine at_iconst 0 dX7_nthSet_113 ic_0 ?_
      refine at_istore [(0, .ref (b + 16)), (5, .int v5), (6, .int v6), (7, .int v7), (8, .int v8), (9, .int 0), (10, .int 0)] dX7_nthSet_114 (Nat.le_of_ble_eq_true rfl) rfl ?_
      exact t_X7_nthSet_116 hK N _ ih N _ _ _ _ _ _ _ _ h
set_option maxRecDepth 100000 in
theorem t_X7_nthSet {D : va_G} {b : Nat} {K : State → Heap → Prop} {sa : Nat → Nat} (hK : sx_Kk b K sa) {N : Nat} {uG uN uD uR uL uT uA uM uH xA xB xC xD xE xF xG xH xI xJ xK xL uO : sx_C} {G : sx_H} {v1 : Int32} {v2 : Int32} {v3 : Int32} {uF : sx_C} {uP : sx_C} {res : Int32 × sx_C × sx_C} (h : f_X7_nthSet N uN v1 v2 v3 uF uP = some res) : sx_Runs D b K yX7_nthSet YX7_nthSet (sx_rm 3) [.ref (b + 16), .int v1, .int v2, .int v3] (sx_hp b uG uN uD uR uF uP uL uT uA uM uH xA xB xC xD xE xF xG xH xI xJ xK xL uO G) (sx_Ex (some (.int res.1)) (sx_hp b uG uN uD uR (res.2.1) (res.2.2) uL uT uA uM uH xA xB xC xD xE xF xG xH xI xJ xK xL uO G)) := by
  rw [f_X7_nthSet] at h
  refine sx_run (by decide +kernel) rfl rfl (Nat.le_of_ble_eq_true rfl) ?_
  refine at_aload_n 0 dX7_nthSet_0 rfl ?_
  refine at_getf cl_X7 (by decide) fl_X7_24 hg_16 rfl dX7_nthSet_1 ?_
  refine at_iload_n 1 dX7_nthSet_4 rfl ?_
  obtain ⟨q10, hq10, h⟩ := sp_bind h
  refine at_callVi (st := []) hK mt_X6_placesBy ml_X7_47 cl_X6 hg_2 (t_X6_placesBy hK hq10) rfl rfl (Nat.le_of_ble_eq_true rfl) ⟨Nat.le_of_ble_eq_true rfl, Nat.le_of_ble_eq_true rfl⟩ ⟨Nat.le_refl _, Nat.le_refl _⟩ dX7_nthSet_5 ?_
  refine at_istore [(0, .ref (b + 16)), (1, .int v1), (2, .int v2), (3, .int v3), (4, .int q10)] dX7_nthSet_8 (Nat.le_of_ble_eq_true rfl) rfl ?_
  refine at_aload_n 0 dX7_nthSet_10 rfl ?_
  refine at_getf cl_X7 (by decide) fl_X7_24 hg_16 rfl dX7_nthSet_11 ?_
  refine at_iload 4 dX7_nthSet_14 rfl ?_
  obtain ⟨q11, hq11, h⟩ := sp_bind h
  refine at_callVi (st := []) hK mt_X6_endsMeet ml_X7_53 cl_X6 hg_2 (t_X6_endsMeet hK hq11) rfl rfl (Nat.le_of_ble_eq_true rfl) ⟨Nat.le_of_ble_eq_true rfl, Nat.le_of_ble_eq_true rfl⟩ ⟨Nat.le_refl _, Nat.le_refl _⟩ dX7_nthSet_16 ?_
  refine at_zeq 25 dX7_nthSet_19 (by decide) (fun c12 => ?_) (fun c12 => ?_)
  · rw [if_neg c12] at h
    refine at_aload_n 0 dX7_nthSet_25 rfl ?_
    refine at_aload_n 0 dX7_nthSet_26 rfl ?_
    refine at_getf cl_X7 (by decide) fl_X7_24 hg_16 rfl dX7_nthSet_27 ?_
    refine at_iload_n 1 dX7_nthSet_30 rfl ?_
    refine at_iload_n 2 dX7_nthSet_31 rfl ?_
    obtain ⟨q13, hq13, h⟩ := sp_bind h
    refine at_callVi (st := [.ref (b + 16)]) hK mt_X6_openOf ml_X7_57 cl_X6 hg_2 (t_X6_openOf hK hq13) rfl rfl (Nat.le_of_ble_eq_true rfl) ⟨Nat.le_of_ble_eq_true rfl, Nat.le_of_ble_eq_true rfl⟩ ⟨Nat.le_refl _, Nat.le_refl _⟩ dX7_nthSet_32 ?_
    refine at_putf cl_X7 (by decide) fl_X7_9 rfl hg_16 rfl rfl (Nat.le_of_ble_eq_true rfl) hs_16_2 dX7_nthSet_35 ?_
    refine at_aload_n 0 dX7_nthSet_38 rfl ?_
    refine at_iload 4 dX7_nthSet_39 rfl ?_
    obtain ⟨q14, hq14, h⟩ := sp_bind h
    refine at_callVv (st := []) hK mt_X7_layOpen ml_X7_61 cl_X7 hg_16 (t_X7_layOpen hK hq14) rfl rfl (Nat.le_of_ble_eq_true rfl) ⟨Nat.le_of_ble_eq_true rfl, Nat.le_of_ble_eq_true rfl⟩ ⟨Nat.le_refl _, Nat.le_refl _⟩ dX7_nthSet_41 ?_
    refine at_iconst 1 dX7_nthSet_44 ic_1 ?_
    refine at_iload 4 dX7_nthSet_45 rfl ?_
    refine at_aload_n 0 dX7_nthSet_47 rfl ?_
    refine at_getf cl_X7 (by decide) fl_X7_24 hg_16 rfl dX7_nthSet_48 ?_
    refine at_getf cl_X6 (by decide) fl_X7_65 hg_2 rfl dX7_nthSet_51 ?_
    obtain ⟨q15, hq15, h⟩ := sp_bind h
    refine at_callSi (st := [.int 1]) hK mt_X8_numberOf ml_X7_68 (t_X8_numberOf hK hq15) rfl rfl (Nat.le_of_ble_eq_true rfl) ⟨Nat.le_of_ble_eq_true rfl, Nat.le_of_ble_eq_true rfl⟩ ⟨Nat.le_refl _, Nat.le_refl _⟩ dX7_nthSet_54 ?_
    refine at_ishl dX7_nthSet_57 ?_
    refine at_iconst 1 dX7_nthSet_58 ic_1 ?_
    refine at_iload 4 dX7_nthSet_59 rfl ?_
    refine at_aload_n 0 dX7_nthSet_61 rfl ?_
    refine at_getf cl_X7 (by decide) fl_X7_24 hg_16 rfl dX7_nthSet_62 ?_
    refine at_getf cl_X6 (by decide) fl_X7_73 hg_2 rfl dX7_nthSet_65 ?_
    obtain ⟨q16, hq16, h⟩ := sp_bind h
    refine at_callSi (st := [.int 1, .int (sp_shl 1 q15)]) hK mt_X8_numberOf ml_X7_68 (t_X8_numberOf hK hq16) rfl rfl (Nat.le_of_ble_eq_true rfl) ⟨Nat.le_of_ble_eq_true rfl, Nat.le_of_ble_eq_true rfl⟩ ⟨Nat.le_refl _, Nat.le_refl _⟩ dX7_nthSet_68 ?_
    refine at_ishl dX7_nthSet_71 ?_
    refine at_ior dX7_nthSet_72 ?_
    refine at_istore [(0, .ref (b + 16)), (1, .int v1), (2, .int v2), (3, .int v3), (4, .int q10), (5, .int ((sp_shl 1 q15) ||| (sp_shl 1 q16)))] dX7_nthSet_73 (Nat.le_of_ble_eq_true rfl) rfl ?_
    refine at_iload 4 dX7_nthSet_75 rfl ?_
    refine at_aload_n 0 dX7_nthSet_77 rfl ?_
    refine at_getf cl_X7 (by decide) fl_X7_24 hg_16 rfl dX7_nthSet_78 ?_
    refine at_getf cl_X6 (by decide) fl_X7_76 hg_2 rfl dX7_nthSet_81 ?_
    obtain ⟨q17, hq17, h⟩ := sp_bind h
    refine at_callSi (st := []) hK mt_X8_heads ml_X7_79 (t_X8_heads hK hq17) rfl rfl (Nat.le_of_ble_eq_true rfl) ⟨Nat.le_of_ble_eq_true rfl, Nat.le_of_ble_eq_true rfl⟩ ⟨Nat.le_refl _, Nat.le_refl _⟩ dX7_nthSet_84 ?_
    refine at_iload 5 dX7_nthSet_87 rfl ?_
    refine at_iconst (-1) dX7_nthSet_89 ic_m1 ?_
    refine at_ixor dX7_nthSet_90 ?_
    refine at_iand dX7_nthSet_91 ?_
    refine at_istore [(0, .ref (b + 16)), (1, .int v1), (2, .int v2), (3, .int v3), (4, .int q10), (5, .int ((sp_shl 1 q15) ||| (sp_shl 1 q16))), (6, .int (q17 &&& (((sp_shl 1 q15) ||| (sp_shl 1 q16)) ^^^ (-1))))] dX7_nthSet_92 (Nat.le_of_ble_eq_true rfl) rfl ?_
    refine at_iload_n 3 dX7_nthSet_94 rfl ?_
    refine at_istore [(0, .ref (b + 16)), (1, .int v1), (2, .int v2), (3, .int v3), (4, .int q10), (5, .int ((sp_shl 1 q15) ||| (sp_shl 1 q16))), (6, .int (q17 &&& (((sp_shl 1 q15) ||| (sp_shl 1 q16)) ^^^ (-1)))), (7, .int v3)] dX7_nthSet_95 (Nat.le_of_ble_eq_true rfl) rfl ?_
    refine at_iconst 0 dX7_nthSet_97 ic_0 ?_
    refine at_istore [(0, .ref (b + 16)), (1, .int v1), (2, .int v2), (3, .int v3), (4, .int q10), (5, .int ((sp_shl 1 q15) ||| (sp_shl 1 q16))), (6, .int (q17 &&& (((sp_shl 1 q15) ||| (sp_shl 1 q16)) ^^^ (-1)))), (7, .int v3), (8, .int 0)] dX7_nthSet_98 (Nat.le_of_ble_eq_true rfl) rfl ?_
    refine at_sub [0, 5, 6, 7, 8] [(0, .ref (b + 16)), (5, .int ((sp_shl 1 q15) ||| (sp_shl 1 q16))), (6, .int (q17 &&& (((sp_shl 1 q15) ||| (sp_shl 1 q16)) ^^^ (-1)))), (7, .int v3), (8, .int 0)] rfl ?_
    exact t_X7_nthSet_100 hK N _ N _ _ _ _ _ _ h
  · rw [if_pos c12] at h
    refine at_bipush (-2) dX7_nthSet_22 bp_m2 ?_
    cases h; exact at_iret rfl (Nat.le_refl _) (Nat.le_refl _) ⟨rfl, rfl⟩ dX7_nthSet_24
set_option maxRecDepth 100000 in
theorem t_X7_find {D : va_G} {b : Nat} {K : State → Heap → Prop} {sa : Nat → Nat} (hK : sx_Kk b K sa) {N : Nat} {uG uN uD uR uL uT uA uM uH xA xB xC xD xE xF xG xH xI xJ xK xL uO : sx_C} {G : sx_H} {v1 : Int32} {v2 : Int32} {uF : sx_C} {uP : sx_C} {res : Bool × sx_C × sx_C} (h : f_X7_find N uN v1 v2 uF uP = some res) : sx_Runs D b K yX7_find YX7_find (sx_rm 4) [.ref (b + 16), .int v1, .int v2] (sx_hp b uG uN uD uR uF uP uL uT uA uM uH xA xB xC xD xE xF xG xH xI xJ xK xL uO G) (sx_Ex (some (.int (sp_b res.1))) (sx_hp b uG uN uD uR (res.2.1) (res.2.2) uL uT uA uM uH xA xB xC xD xE xF xG xH xI xJ xK xL uO G)) := by
  rw [f_X7_find] at h
  refine sx_run (by decide +kernel) rfl rfl (Nat.le_of_ble_eq_true rfl) ?_
  refine at_aload_n 0 dX7_find_0 rfl ?_
  refine at_iload_n 1 dX7_find_1 rfl ?_
  refine at_iload_n 2 dX7_find_2 rfl ?_
  refine at_iconst 0 dX7_find_3 ic_0 ?_
  obtain ⟨q1, hq1, h⟩ := sp_bind h
  refine at_callVi (st := []) hK mt_X7_nthSet ml_X7_32 cl_X7 hg_16 (t_X7_nthSet hK hq1) rfl rfl (Nat.le_of_ble_eq_true rfl) ⟨Nat.le_of_ble_eq_true rfl, Nat.le_of_ble_eq_true rfl⟩ ⟨Nat.le_refl _, Nat.le_refl _⟩ dX7_find_4 ?_
  refine at_istore_n [(0, .ref (b + 16)), (1, .int v1), (2, .int v2), (3, .int (q1.1))] dX7_find_7 (Nat.le_of_ble_eq_true rfl) rfl ?_
  refine at_iload_n 3 dX7_find_8 rfl ?_
  refine at_if_ge 14 dX7_find_9 (by decide) (fun c2 => ?_) (fun c2 => ?_)
  · rw [if_pos c2] at h
    refine at_aload_n 0 dX7_find_14 rfl ?_
    refine at_iload_n 3 dX7_find_15 rfl ?_
    refine at_putf cl_X7 (by decide) fl_X7_15 rfl hg_16 rfl rfl (Nat.le_of_ble_eq_true rfl) hs_16_3 dX7_find_16 ?_
    refine at_aload_n 0 dX7_find_19 rfl ?_
    refine at_getf cl_X7 (by decide) fl_X7_28 hg_16 rfl dX7_find_20 ?_
    obtain ⟨q3, hq3, h⟩ := sp_bind h
    refine at_callVv (st := []) hK mt_X0_lower ml_X7_36 cl_X0 hg_9 (t_X0_lower hK hq3) rfl rfl (Nat.le_of_ble_eq_true rfl) ⟨Nat.le_of_ble_eq_true rfl, Nat.le_of_ble_eq_true rfl⟩ ⟨Nat.le_refl _, Nat.le_refl _⟩ dX7_find_23 ?_
    refine at_aload_n 0 dX7_find_26 rfl ?_
    refine at_aload_n 0 dX7_find_27 rfl ?_
    refine at_getf cl_X7 (by decide) fl_X7_28 hg_16 rfl dX7_find_28 ?_
    refine at_getf cl_X0 (by decide) fl_X7_41 hg_9 rfl dX7_find_31 ?_
    refine at_putf cl_X7 (by decide) fl_X7_18 rfl hg_16 rfl rfl (Nat.le_of_ble_eq_true rfl) hs_16_4 dX7_find_34 ?_
    refine at_aload_n 0 dX7_find_37 rfl ?_
    refine at_aload_n 0 dX7_find_38 rfl ?_
    refine at_getf cl_X7 (by decide) fl_X7_28 hg_16 rfl dX7_find_39 ?_
    refine at_getf cl_X0 (by decide) fl_X7_44 hg_9 rfl dX7_find_42 ?_
    refine at_putf cl_X7 (by decide) fl_X7_21 rfl hg_16 rfl rfl (Nat.le_of_ble_eq_true rfl) hs_16_5 dX7_find_45 ?_
    refine at_iconst 1 dX7_find_48 ic_1 ?_
    cases h; exact at_zret rfl rfl (Nat.le_refl _) (Nat.le_refl _) ⟨rfl, rfl⟩ dX7_find_49
  · rw [if_neg c2] at h
    refine at_iconst 0 dX7_find_12 ic_0 ?_
    cases h; exact at_zret rfl rfl (Nat.le_refl _) (Nat.le_refl _) ⟨rfl, rfl⟩ dX7_find_13
set_option maxRecDepth 100000 in
theorem t_X11_pair {D : va_G} {b : Nat} {K : State → Heap → Prop} {sa : Nat → Nat} (hK : sx_Kk b K sa) {N : Nat} {uG uN uD uR uL uT uA uM uH xA xB xC xD xE xF xG xH xI xJ xK xL uO : sx_C} {G : sx_H} {v1 : Int32} {uF : sx_C} {uP : sx_C} {res : Int32 × sx_C × sx_C} (h : f_X11_pair N uG uN v1 uF uP = some res) : sx_Runs D b K yX11_pair YX11_pair (sx_rm 5) [.ref (b + 0), .int v1] (sx_hp b uG uN uD uR uF uP uL uT uA uM uH xA xB xC xD xE xF xG xH xI xJ xK xL uO G) (sx_Ex (some (.int res.1)) (sx_hp b uG uN uD uR (res.2.1) (res.2.2) uL uT uA uM uH xA xB xC xD xE xF xG xH xI xJ xK xL uO G)) := by
  rw [f_X11_pair] at h
  refine sx_run (by decide +kernel) rfl rfl (Nat.le_of_ble_eq_true rfl) ?_
  refine at_iload_n 1 dX11_pair_0 rfl ?_
  refine at_if_lt 9 dX11_pair_1 (by decide) (fun c1 => ?_) (fun c1 => ?_)
  · rw [if_pos c1] at h
    refine at_iconst (-1) dX11_pair_9 ic_m1 ?_
    cases h; exact at_iret rfl (Nat.le_refl _) (Nat.le_refl _) ⟨rfl, rfl⟩ dX11_pair_10
  · rw [if_neg c1] at h
    refine at_iload_n 1 dX11_pair_4 rfl ?_
    refine at_iconst 3 dX11_pair_5 ic_3 ?_
    refine at_icmp_le 11 dX11_pair_6 (by decide) (fun c2 => ?_) (fun c2 => ?_)
    · rw [if_pos c2] at h
      refine at_aload_n 0 dX11_pair_11 rfl ?_
      refine at_getf cl_X11 (by decide) fl_X11_51 hg_0 rfl dX11_pair_12 ?_
      refine at_aload_n 0 dX11_pair_15 rfl ?_
      refine at_getf cl_X11 (by decide) fl_X11_91 hg_0 rfl dX11_pair_16 ?_
      refine at_aload_n 0 dX11_pair_19 rfl ?_
      refine at_getf cl_X11 (by decide) fl_X11_94 hg_0 rfl dX11_pair_20 ?_
      obtain ⟨q3, hq3, h⟩ := sp_bind h
      refine at_callVi (st := []) hK mt_X7_find ml_X11_204 cl_X7 hg_16 (t_X7_find hK hq3) rfl rfl (Nat.le_of_ble_eq_true rfl) ⟨Nat.le_of_ble_eq_true rfl, Nat.le_of_ble_eq_true rfl⟩ ⟨Nat.le_refl _, Nat.le_refl _⟩ dX11_pair_23 ?_
      refine at_zne 32 dX11_pair_26 (by decide) (fun c4 => ?_) (fun c4 => ?_)
      · rw [if_pos c4] at h
        refine at_iload_n 1 dX11_pair_32 rfl ?_
        by_cases c5 : v1 = 0
        · rw [if_pos c5] at h
          refine at_tbC c5 60 dX11_pair_33 (by decide) (by decide) rfl (by decide) ?_
          refine at_aload_n 0 dX11_pair_60 rfl ?_
          refine at_getf cl_X11 (by decide) fl_X11_51 hg_0 rfl dX11_pair_61 ?_
          refine at_getf cl_X7 (by decide) fl_X11_208 hg_16 rfl dX11_pair_64 ?_
          cases h; exact at_iret rfl (Nat.le_refl _) (Nat.le_refl _) ⟨rfl, rfl⟩ dX11_pair_67
        · rw [if_neg c5] at h
          by_cases c6 : v1 = 1
          · rw [if_pos c6] at h
            refine at_tbC c6 68 dX11_pair_33 (by decide) (by decide) rfl (by decide) ?_
            refine at_aload_n 0 dX11_pair_68 rfl ?_
            refine at_getf cl_X11 (by decide) fl_X11_51 hg_0 rfl dX11_pair_69 ?_
            refine at_getf cl_X7 (by decide) fl_X11_211 hg_16 rfl dX11_pair_72 ?_
            cases h; exact at_iret rfl (Nat.le_refl _) (Nat.le_refl _) ⟨rfl, rfl⟩ dX11_pair_75
          · rw [if_neg c6] at h
            by_cases c7 : v1 = 2
            · rw [if_pos c7] at h
              refine at_tbC c7 76 dX11_pair_33 (by decide) (by decide) rfl (by decide) ?_
              refine at_aload_n 0 dX11_pair_76 rfl ?_
              refine at_getf cl_X11 (by decide) fl_X11_51 hg_0 rfl dX11_pair_77 ?_
              refine at_getf cl_X7 (by decide) fl_X11_214 hg_16 rfl dX11_pair_80 ?_
              cases h; exact at_iret rfl (Nat.le_refl _) (Nat.le_refl _) ⟨rfl, rfl⟩ dX11_pair_83
            · rw [if_neg c7] at h
              refine at_tbOut 84 dX11_pair_33 (by have e0 := sp_ne (0) (by decide) c5; have e1 := sp_ne (1) (by decide) c6; have e2 := sp_ne (2) (by decide) c7; omega) (by decide) ?_
              refine at_aload_n 0 dX11_pair_84 rfl ?_
              refine at_getf cl_X11 (by decide) fl_X11_51 hg_0 rfl dX11_pair_85 ?_
              refine at_getf cl_X7 (by decide) fl_X11_208 hg_16 rfl dX11_pair_88 ?_
              obtain ⟨q8, hq8, h⟩ := sp_bind h
              refine at_callSi (st := []) hK mt_J6_bitCount_0f7a4 ml_X11_196 (t_J6_bitCount_0f7a4 hK hq8) rfl rfl (Nat.le_of_ble_eq_true rfl) ⟨Nat.le_of_ble_eq_true rfl, Nat.le_of_ble_eq_true rfl⟩ ⟨Nat.le_refl _, Nat.le_refl _⟩ dX11_pair_91 ?_
              cases h; exact at_iret rfl (Nat.le_refl _) (Nat.le_refl _) ⟨rfl, rfl⟩ dX11_pair_94
      · rw [if_neg c4] at h
        refine at_bipush (-2) dX11_pair_29 bp_m2 ?_
        cases h; exact at_iret rfl (Nat.le_refl _) (Nat.le_refl _) ⟨rfl, rfl⟩ dX11_pair_31
    · rw [if_neg c2] at h
      refine at_iconst (-1) dX11_pair_9 ic_m1 ?_
      cases h; exact at_iret rfl (Nat.le_refl _) (Nat.le_refl _) ⟨rfl, rfl⟩ dX11_pair_10
set_option maxRecDepth 100000 in
theorem t_X3_bringOpen_77 {D : va_G} {b : Nat} {K : State → Heap → Prop} {sa : Nat → Nat} (hK : sx_Kk b K sa) (N : Nat) {k9 : Int32 → Int32 → Int32 → sx_C → Option (sx_C)} {uG uN uD uR uP uL uT uA uM uH xA xB xC xD xE xF xG xH xI xJ xK xL uO : sx_C} {G : sx_H} (res : sx_C) (hk9 : ∀ (v1 : Int32) (v2 : Int32) (v3 : Int32) (uF : sx_C), k9 v1 v2 v3 uF = some res → sx_At D b K YX3_bringOpen (sx_rm 2) (sx_Ex none (sx_hp b uG uN uD uR res uP uL uT uA uM uH xA xB xC xD xE xF xG xH xI xJ xK xL uO G)) 9 [(0, .ref (b + 15)), (1, .int v1), (2, .int v2), (3, .int v3)] [] (sx_hp b uG uN uD uR uF uP uL uT uA uM uH xA xB xC xD xE xF xG xH xI xJ xK xL uO G) 0 0) : ∀ (v1 : Int32) (v2 : Int32) (v3 : Int32) (uF : sx_C), f_X3_bringOpen_77 N k9 uN v1 v2 v3 uF = some res → sx_At D b K YX3_bringOpen (sx_rm 2) (sx_Ex none (sx_hp b uG uN uD uR res uP uL uT uA uM uH xA xB xC xD xE xF xG xH xI xJ xK xL uO G)) 77 [(0, .ref (b + 15)), (1, .int v1), (2, .int v2), (3, .int v3)] [] (sx_hp b uG uN uD uR uF uP uL uT uA uM uH xA xB xC xD xE xF xG xH xI xJ xK xL uO G) 0 0 := by
  intro v1 v2 v3 uF h
  rw [f_X3_bringOpen_77] at h
  refine at_iinc 3 1 [(0, .ref (b + 15)), (1, .int v1), (2, .int v2), (3, .int (v3 + 1))] dX3_bringOpen_77 rfl ic_1 (Nat.le_of_ble_eq_true rfl) rfl ?_
  refine at_goto 9 dX3_bringOpen_80 (by decide) ?_
  exact hk9 _ _ _ _ h
set_option maxRecDepth 100000 in
theorem t_X3_bringOpen_9 {D : va_G} {b : Nat} {K : State → Heap → Prop} {sa : Nat → Nat} (hK : sx_Kk b K sa) (N : Nat) {uG uN uD uR uP uL uT uA uM uH xA xB xC xD xE xF xG xH xI xJ xK xL uO : sx_C} {G : sx_H} (res : sx_C) : ∀ (n0 : Nat) (v1 : Int32) (v2 : Int32) (v3 : Int32) (uF : sx_C), f_X3_bringOpen_9 N uN n0 v1 v2 v3 uF = some res → sx_At D b K YX3_bringOpen (sx_rm 2) (sx_Ex none (sx_hp b uG uN uD uR res uP uL uT uA uM uH xA xB xC xD xE xF xG xH xI xJ xK xL uO G)) 9 [(0, .ref (b + 15)), (1, .int v1), (2, .int v2), (3, .int v3)] [] (sx_hp b uG uN uD uR uF uP uL uT uA uM uH xA xB xC xD xE xF xG xH xI xJ xK xL uO G) 0 0 := by
  intro n0
  induction n0 with
  | zero => intro _ _ _ _ h; cases h
  | succ n0 ih =>
    intro v1 v2 v3 uF h
    rw [f_X3_bringOpen_9] at h
    refine at_iload_n 3 dX3_bringOpen_9 rfl ?_
    refine at_bipush 14 dX3_bringOpen_10 bp_14 ?_
    refine at_icmp_ge 83 dX3_bringOpen_12 (by decide) (fun c1 => ?_) (fun c1 => ?_)
    · rw [if_pos c1] at h
      cases h; exact at_vret rfl (Nat.le_refl _) (Nat.le_refl _) ⟨rfl, rfl⟩ dX3_bringOpen_83
    · rw [if_neg c1] at h
      refine at_iload_n 2 dX3_bringOpen_15 rfl ?_
      refine at_iload_n 3 dX3_bringOpen_16 rfl ?_
      obtain ⟨q2, hq2, h⟩ := sp_bind h
      refine at_callSi (st := []) hK mt_X11_has ml_X3_24 (t_X11_has hK hq2) rfl rfl (Nat.le_of_ble_eq_true rfl) ⟨Nat.le_of_ble_eq_true rfl, Nat.le_of_ble_eq_true rfl⟩ ⟨Nat.le_refl _, Nat.le_refl _⟩ dX3_bringOpen_17 ?_
      refine at_zeq 77 dX3_bringOpen_20 (by decide) (fun c3 => ?_) (fun c3 => ?_)
      · rw [if_neg c3] at h
        exact t_X3_bringOpen_77 hK N _ ih _ _ _ _ h
      · rw [if_pos c3] at h
        refine at_aload_n 0 dX3_bringOpen_23 rfl ?_
        refine at_getf cl_X3 (by decide) fl_X3_9 hg_15 rfl dX3_bringOpen_24 ?_
        refine at_iload_n 3 dX3_bringOpen_27 rfl ?_
        obtain ⟨q4, hq4, h⟩ := sp_bind h
        refine at_callVi (st := []) hK mt_X6_isLine ml_X3_28 cl_X6 hg_2 (t_X6_isLine hK hq4) rfl rfl (Nat.le_of_ble_eq_true rfl) ⟨Nat.le_of_ble_eq_true rfl, Nat.le_of_ble_eq_true rfl⟩ ⟨Nat.le_refl _, Nat.le_refl _⟩ dX3_bringOpen_28 ?_
        refine at_zeq 77 dX3_bringOpen_31 (by decide) (fun c5 => ?_) (fun c5 => ?_)
        · rw [if_neg c5] at h
          exact t_X3_bringOpen_77 hK N _ ih _ _ _ _ h
        · rw [if_pos c5] at h
          refine at_aload_n 0 dX3_bringOpen_34 rfl ?_
          refine at_getf cl_X3 (by decide) fl_X3_15 hg_15 rfl dX3_bringOpen_35 ?_
          refine at_iload_n 3 dX3_bringOpen_38 rfl ?_
          refine at_iload_n 1 dX3_bringOpen_39 rfl ?_
          refine at_aload_n 0 dX3_bringOpen_40 rfl ?_
          refine at_getf cl_X3 (by decide) fl_X3_9 hg_15 rfl dX3_bringOpen_41 ?_
          refine at_getf cl_X6 (by decide) fl_X3_34 hg_2 rfl dX3_bringOpen_44 ?_
          refine at_iload_n 3 dX3_bringOpen_47 rfl ?_
          obtain ⟨w6, hw6, h⟩ := sp_bind h
          refine at_iald hg_3 hw6 dX3_bringOpen_48 ?_
          obtain ⟨q7, hq7, h⟩ := sp_bind h
          refine at_callSi (st := [.int v3, .ref (b + 9)]) hK mt_X8_numberOf ml_X3_38 (t_X8_numberOf hK hq7) rfl rfl (Nat.le_of_ble_eq_true rfl) ⟨Nat.le_of_ble_eq_true rfl, Nat.le_of_ble_eq_true rfl⟩ ⟨Nat.le_refl _, Nat.le_refl _⟩ dX3_bringOpen_49 ?_
          refine at_iload_n 1 dX3_bringOpen_52 rfl ?_
          refine at_aload_n 0 dX3_bringOpen_53 rfl ?_
          refine at_getf cl_X3 (by decide) fl_X3_9 hg_15 rfl dX3_bringOpen_54 ?_
          refine at_getf cl_X6 (by decide) fl_X3_44 hg_2 rfl dX3_bringOpen_57 ?_
          refine at_iload_n 3 dX3_bringOpen_60 rfl ?_
          obtain ⟨w8, hw8, h⟩ := sp_bind h
          refine at_iald hg_4 hw8 dX3_bringOpen_61 ?_
          obtain ⟨q9, hq9, h⟩ := sp_bind h
          refine at_callSi (st := [.int q7, .int v3, .ref (b + 9)]) hK mt_X8_numberOf ml_X3_38 (t_X8_numberOf hK hq9) rfl rfl (Nat.le_of_ble_eq_true rfl) ⟨Nat.le_of_ble_eq_true rfl, Nat.le_of_ble_eq_true rfl⟩ ⟨Nat.le_refl _, Nat.le_refl _⟩ dX3_bringOpen_62 ?_
          obtain ⟨q10, hq10, h⟩ := sp_bind h
          refine at_callVv (st := []) hK mt_X0_lay ml_X3_47 cl_X0 hg_9 (t_X0_lay hK hq10) rfl rfl (Nat.le_of_ble_eq_true rfl) ⟨Nat.le_of_ble_eq_true rfl, Nat.le_of_ble_eq_true rfl⟩ ⟨Nat.le_refl _, Nat.le_refl _⟩ dX3_bringOpen_65 ?_
          refine at_aload_n 0 dX3_bringOpen_68 rfl ?_
          refine at_getf cl_X3 (by decide) fl_X3_15 hg_15 rfl dX3_bringOpen_69 ?_
          refine at_iload_n 3 dX3_bringOpen_72 rfl ?_
          obtain ⟨q11, hq11, h⟩ := sp_bind h
          refine at_callVi (st := []) hK mt_X0_bring ml_X3_51 cl_X0 hg_9 (t_X0_bring hK hq11) rfl rfl (Nat.le_of_ble_eq_true rfl) ⟨Nat.le_of_ble_eq_true rfl, Nat.le_of_ble_eq_true rfl⟩ ⟨Nat.le_refl _, Nat.le_refl _⟩ dX3_bringOpen_73 ?_
          refine at_pop dX3_bringOpen_76 rfl ?_
          exact t_X3_bringOpen_77 hK N _ ih _ _ _ _ h
set_option maxRecDepth 100000 in
theorem t_X3_bringOpen {D : va_G} {b : Nat} {K : State → Heap → Prop} {sa : Nat → Nat} (hK : sx_Kk b K sa) {N : Nat} {uG uN uD uR uP uL uT uA uM uH xA xB xC xD xE xF xG xH xI xJ xK xL uO : sx_C} {G : sx_H} {v1 : Int32} {v2 : Int32} {uF : sx_C} {res : sx_C} (h : f_X3_bringOpen N uN v1 v2 uF = some res) : sx_Runs D b K yX3_bringOpen YX3_bringOpen (sx_rm 2) [.ref (b + 15), .int v1, .int v2] (sx_hp b uG uN uD uR uF uP uL uT uA uM uH xA xB xC xD xE xF xG xH xI xJ xK xL uO G) (sx_Ex none (sx_hp b uG uN uD uR res uP uL uT uA uM uH xA xB xC xD xE xF xG xH xI xJ xK xL uO G)) := by
  rw [f_X3_bringOpen] at h
  refine sx_run (by decide +kernel) rfl rfl (Nat.le_of_ble_eq_true rfl) ?_
  refine at_aload_n 0 dX3_bringOpen_0 rfl ?_
  refine at_getf cl_X3 (by decide) fl_X3_15 hg_15 rfl dX3_bringOpen_1 ?_
  obtain ⟨q12, hq12, h⟩ := sp_bind h
  refine at_callVv (st := []) hK mt_X0_begin ml_X3_19 cl_X0 hg_9 (t_X0_begin hK hq12) rfl rfl (Nat.le_of_ble_eq_true rfl) ⟨Nat.le_of_ble_eq_true rfl, Nat.le_of_ble_eq_true rfl⟩ ⟨Nat.le_refl _, Nat.le_refl _⟩ dX3_bringOpen_4 ?_
  refine at_iconst 0 dX3_bringOpen_7 ic_0 ?_
  refine at_istore_n [(0, .ref (b + 15)), (1, .int v1), (2, .int v2), (3, .int 0)] dX3_bringOpen_8 (Nat.le_of_ble_eq_true rfl) rfl ?_
  exact t_X3_bringOpen_9 hK N _ N _ _ _ _ h
set_option maxRecDepth 100000 in
theorem t_X3_stillTaken {D : va_G} {b : Nat} {K : State → Heap → Prop} {sa : Nat → Nat} (hK : sx_Kk b K sa) {N : Nat} {uG uN uD uR uP uL uT uA uM uH xA xB xC xD xE xF xG xH xI xJ xK xL uO : sx_C} {G : sx_H} {v1 : Int32} {v2 : Int32} {uF : sx_C} {res : Int32 × sx_C} (h : f_X3_stillTaken N v1 v2 uF = some res) : sx_Runs D b K yX3_stillTaken YX3_stillTaken (sx_rm 2) [.ref (b + 15), .int v1, .int v2] (sx_hp b uG uN uD uR uF uP uL uT uA uM uH xA xB xC xD xE xF xG xH xI xJ xK xL uO G) (sx_Ex (some (.int res.1)) (sx_hp b uG uN uD uR (res.2) uP uL uT uA uM uH xA xB xC xD xE xF xG xH xI xJ xK xL uO G)) := by
  rw [f_X3_stillTaken] at h
  refine sx_run (by decide +kernel) rfl rfl (Nat.le_of_ble_eq_true rfl) ?_
  refine at_aload_n 0 dX3_stillTaken_0 rfl ?_
  refine at_getf cl_X3 (by decide) fl_X3_15 hg_15 rfl dX3_stillTaken_1 ?_
  refine at_bipush 15 dX3_stillTaken_4 bp_15 ?_
  refine at_iload_n 1 dX3_stillTaken_6 rfl ?_
  refine at_iload_n 2 dX3_stillTaken_7 rfl ?_
  obtain ⟨q1, hq1, h⟩ := sp_bind h
  refine at_callVv (st := []) hK mt_X0_lay ml_X3_47 cl_X0 hg_9 (t_X0_lay hK hq1) rfl rfl (Nat.le_of_ble_eq_true rfl) ⟨Nat.le_of_ble_eq_true rfl, Nat.le_of_ble_eq_true rfl⟩ ⟨Nat.le_refl _, Nat.le_refl _⟩ dX3_stillTaken_8 ?_
  refine at_aload_n 0 dX3_stillTaken_11 rfl ?_
  refine at_getf cl_X3 (by decide) fl_X3_15 hg_15 rfl dX3_stillTaken_12 ?_
  refine at_bipush 16 dX3_stillTaken_15 bp_16 ?_
  refine at_iload_n 1 dX3_stillTaken_17 rfl ?_
  refine at_iload_n 2 dX3_stillTaken_18 rfl ?_
  obtain ⟨q2, hq2, h⟩ := sp_bind h
  refine at_callVv (st := []) hK mt_X0_lay ml_X3_47 cl_X0 hg_9 (t_X0_lay hK hq2) rfl rfl (Nat.le_of_ble_eq_true rfl) ⟨Nat.le_of_ble_eq_true rfl, Nat.le_of_ble_eq_true rfl⟩ ⟨Nat.le_refl _, Nat.le_refl _⟩ dX3_stillTaken_19 ?_
  refine at_aload_n 0 dX3_stillTaken_22 rfl ?_
  refine at_getf cl_X3 (by decide) fl_X3_15 hg_15 rfl dX3_stillTaken_23 ?_
  refine at_bipush 15 dX3_stillTaken_26 bp_15 ?_
  obtain ⟨q3, hq3, h⟩ := sp_bind h
  refine at_callVi (st := []) hK mt_X0_bring ml_X3_51 cl_X0 hg_9 (t_X0_bring hK hq3) rfl rfl (Nat.le_of_ble_eq_true rfl) ⟨Nat.le_of_ble_eq_true rfl, Nat.le_of_ble_eq_true rfl⟩ ⟨Nat.le_refl _, Nat.le_refl _⟩ dX3_stillTaken_28 ?_
  refine at_zne 36 dX3_stillTaken_31 (by decide) (fun c4 => ?_) (fun c4 => ?_)
  · rw [if_pos c4] at h
    refine at_aload_n 0 dX3_stillTaken_36 rfl ?_
    refine at_getf cl_X3 (by decide) fl_X3_15 hg_15 rfl dX3_stillTaken_37 ?_
    refine at_bipush 16 dX3_stillTaken_40 bp_16 ?_
    obtain ⟨q5, hq5, h⟩ := sp_bind h
    refine at_callVi (st := []) hK mt_X0_bring ml_X3_51 cl_X0 hg_9 (t_X0_bring hK hq5) rfl rfl (Nat.le_of_ble_eq_true rfl) ⟨Nat.le_of_ble_eq_true rfl, Nat.le_of_ble_eq_true rfl⟩ ⟨Nat.le_refl _, Nat.le_refl _⟩ dX3_stillTaken_42 ?_
    refine at_zeq 52 dX3_stillTaken_45 (by decide) (fun c6 => ?_) (fun c6 => ?_)
    · rw [if_neg c6] at h
      refine at_iconst 1 dX3_stillTaken_52 ic_1 ?_
      cases h; exact at_iret rfl (Nat.le_refl _) (Nat.le_refl _) ⟨rfl, rfl⟩ dX3_stillTaken_53
    · rw [if_pos c6] at h
      refine at_iconst 2 dX3_stillTaken_48 ic_2 ?_
      refine at_goto 53 dX3_stillTaken_49 (by decide) ?_
      cases h; exact at_iret rfl (Nat.le_refl _) (Nat.le_refl _) ⟨rfl, rfl⟩ dX3_stillTaken_53
  · rw [if_neg c4] at h
    refine at_iconst 0 dX3_stillTaken_34 ic_0 ?_
    cases h; exact at_iret rfl (Nat.le_refl _) (Nat.le_refl _) ⟨rfl, rfl⟩ dX3_stillTaken_35
set_option maxRecDepth 100000 in
theorem t_X3_lackingBetween {D : va_G} {b : Nat} {K : State → Heap → Prop} {sa : Nat → Nat} (hK : sx_Kk b K sa) {N : Nat} {uG uN uD uR uP uL uT uA uM uH xA xB xC xD xE xF xG xH xI xJ xK xL uO : sx_C} {G : sx_H} {v1 : Int32} {v2 : Int32} {v3 : Int32} {v4 : Int32} {uF : sx_C} {res : Int32 × sx_C} (h : f_X3_lackingBetween N uN v1 v2 v3 v4 uF = some res) : sx_Runs D b K yX3_lackingBetween YX3_lackingBetween (sx_rm 3) [.ref (b + 15), .int v1, .int v2, .int v3, .int v4] (sx_hp b uG uN uD uR uF uP uL uT uA uM uH xA xB xC xD xE xF xG xH xI xJ xK xL uO G) (sx_Ex (some (.int res.1)) (sx_hp b uG uN uD uR (res.2) uP uL uT uA uM uH xA xB xC xD xE xF xG xH xI xJ xK xL uO G)) := by
  rw [f_X3_lackingBetween] at h
  refine sx_run (by decide +kernel) rfl rfl (Nat.le_of_ble_eq_true rfl) ?_
  refine at_aload_n 0 dX3_lackingBetween_0 rfl ?_
  refine at_getf cl_X3 (by decide) fl_X3_9 hg_15 rfl dX3_lackingBetween_1 ?_
  refine at_iload_n 1 dX3_lackingBetween_4 rfl ?_
  obtain ⟨q1, hq1, h⟩ := sp_bind h
  refine at_callVi (st := []) hK mt_X6_placesBy ml_X3_65 cl_X6 hg_2 (t_X6_placesBy hK hq1) rfl rfl (Nat.le_of_ble_eq_true rfl) ⟨Nat.le_of_ble_eq_true rfl, Nat.le_of_ble_eq_true rfl⟩ ⟨Nat.le_refl _, Nat.le_refl _⟩ dX3_lackingBetween_5 ?_
  refine at_istore [(0, .ref (b + 15)), (1, .int v1), (2, .int v2), (3, .int v3), (4, .int v4), (5, .int q1)] dX3_lackingBetween_8 (Nat.le_of_ble_eq_true rfl) rfl ?_
  refine at_iload 5 dX3_lackingBetween_10 rfl ?_
  refine at_iload_n 3 dX3_lackingBetween_12 rfl ?_
  refine at_iload 4 dX3_lackingBetween_13 rfl ?_
  obtain ⟨q2, hq2, h⟩ := sp_bind h
  refine at_callSi (st := []) hK mt_X8_together ml_X3_69 (t_X8_together hK hq2) rfl rfl (Nat.le_of_ble_eq_true rfl) ⟨Nat.le_of_ble_eq_true rfl, Nat.le_of_ble_eq_true rfl⟩ ⟨Nat.le_refl _, Nat.le_refl _⟩ dX3_lackingBetween_15 ?_
  refine at_zeq 23 dX3_lackingBetween_18 (by decide) (fun c3 => ?_) (fun c3 => ?_)
  · rw [if_neg c3] at h
    refine at_aload_n 0 dX3_lackingBetween_23 rfl ?_
    refine at_iload 5 dX3_lackingBetween_24 rfl ?_
    refine at_aload_n 0 dX3_lackingBetween_26 rfl ?_
    refine at_getf cl_X3 (by decide) fl_X3_9 hg_15 rfl dX3_lackingBetween_27 ?_
    refine at_iload_n 1 dX3_lackingBetween_30 rfl ?_
    refine at_iload_n 2 dX3_lackingBetween_31 rfl ?_
    obtain ⟨q4, hq4, h⟩ := sp_bind h
    refine at_callVi (st := [.int q1, .ref (b + 15)]) hK mt_X6_openOf ml_X3_73 cl_X6 hg_2 (t_X6_openOf hK hq4) rfl rfl (Nat.le_of_ble_eq_true rfl) ⟨Nat.le_of_ble_eq_true rfl, Nat.le_of_ble_eq_true rfl⟩ ⟨Nat.le_refl _, Nat.le_refl _⟩ dX3_lackingBetween_32 ?_
    obtain ⟨q5, hq5, h⟩ := sp_bind h
    refine at_callVv (st := []) hK mt_X3_bringOpen ml_X3_76 cl_X3 hg_15 (t_X3_bringOpen hK hq5) rfl rfl (Nat.le_of_ble_eq_true rfl) ⟨Nat.le_of_ble_eq_true rfl, Nat.le_of_ble_eq_true rfl⟩ ⟨Nat.le_refl _, Nat.le_refl _⟩ dX3_lackingBetween_35 ?_
    refine at_aload_n 0 dX3_lackingBetween_38 rfl ?_
    refine at_iload 5 dX3_lackingBetween_39 rfl ?_
    refine at_iload_n 3 dX3_lackingBetween_41 rfl ?_
    obtain ⟨q6, hq6, h⟩ := sp_bind h
    refine at_callSi (st := [.ref (b + 15)]) hK mt_X8_numberOf ml_X3_38 (t_X8_numberOf hK hq6) rfl rfl (Nat.le_of_ble_eq_true rfl) ⟨Nat.le_of_ble_eq_true rfl, Nat.le_of_ble_eq_true rfl⟩ ⟨Nat.le_refl _, Nat.le_refl _⟩ dX3_lackingBetween_42 ?_
    refine at_iload 5 dX3_lackingBetween_45 rfl ?_
    refine at_iload 4 dX3_lackingBetween_47 rfl ?_
    obtain ⟨q7, hq7, h⟩ := sp_bind h
    refine at_callSi (st := [.int q6, .ref (b + 15)]) hK mt_X8_numberOf ml_X3_38 (t_X8_numberOf hK hq7) rfl rfl (Nat.le_of_ble_eq_true rfl) ⟨Nat.le_of_ble_eq_true rfl, Nat.le_of_ble_eq_true rfl⟩ ⟨Nat.le_refl _, Nat.le_refl _⟩ dX3_lackingBetween_49 ?_
    obtain ⟨q8, hq8, h⟩ := sp_bind h
    refine at_callVi (st := []) hK mt_X3_stillTaken ml_X3_80 cl_X3 hg_15 (t_X3_stillTaken hK hq8) rfl rfl (Nat.le_of_ble_eq_true rfl) ⟨Nat.le_of_ble_eq_true rfl, Nat.le_of_ble_eq_true rfl⟩ ⟨Nat.le_refl _, Nat.le_refl _⟩ dX3_lackingBetween_52 ?_
    cases h; exact at_iret rfl (Nat.le_refl _) (Nat.le_refl _) ⟨rfl, rfl⟩ dX3_lackingBetween_55
  · rw [if_pos c3] at h
    refine at_iconst 0 dX3_lackingBetween_21 ic_0 ?_
    cases h; exact at_iret rfl (Nat.le_refl _) (Nat.le_refl _) ⟨rfl, rfl⟩ dX3_lackingBetween_22
set_option maxRecDepth 100000 in
theorem t_X3_lacking {D : va_G} {b : Nat} {K : State → Heap → Prop} {sa : Nat → Nat} (hK : sx_Kk b K sa) {N : Nat} {uG uN uD uR uP uL uT uA uM uH xA xB xC xD xE xF xG xH xI xJ xK xL uO : sx_C} {G : sx_H} {v1 : Int32} {v2 : Int32} {uF : sx_C} {res : Int32 × sx_C} (h : f_X3_lacking N uN v1 v2 uF = some res) : sx_Runs D b K yX3_lacking YX3_lacking (sx_rm 4) [.ref (b + 15), .int v1, .int v2] (sx_hp b uG uN uD uR uF uP uL uT uA uM uH xA xB xC xD xE xF xG xH xI xJ xK xL uO G) (sx_Ex (some (.int res.1)) (sx_hp b uG uN uD uR (res.2) uP uL uT uA uM uH xA xB xC xD xE xF xG xH xI xJ xK xL uO G)) := by
  rw [f_X3_lacking] at h
  refine sx_run (by decide +kernel) rfl rfl (Nat.le_of_ble_eq_true rfl) ?_
  refine at_aload_n 0 dX3_lacking_0 rfl ?_
  refine at_iload_n 1 dX3_lacking_1 rfl ?_
  refine at_iload_n 2 dX3_lacking_2 rfl ?_
  refine at_aload_n 0 dX3_lacking_3 rfl ?_
  refine at_getf cl_X3 (by decide) fl_X3_9 hg_15 rfl dX3_lacking_4 ?_
  refine at_getf cl_X6 (by decide) fl_X3_54 hg_2 rfl dX3_lacking_7 ?_
  refine at_aload_n 0 dX3_lacking_10 rfl ?_
  refine at_getf cl_X3 (by decide) fl_X3_9 hg_15 rfl dX3_lacking_11 ?_
  refine at_getf cl_X6 (by decide) fl_X3_58 hg_2 rfl dX3_lacking_14 ?_
  obtain ⟨q1, hq1, h⟩ := sp_bind h
  refine at_callVi (st := []) hK mt_X3_lackingBetween ml_X3_61 cl_X3 hg_15 (t_X3_lackingBetween hK hq1) rfl rfl (Nat.le_of_ble_eq_true rfl) ⟨Nat.le_of_ble_eq_true rfl, Nat.le_of_ble_eq_true rfl⟩ ⟨Nat.le_refl _, Nat.le_refl _⟩ dX3_lacking_17 ?_
  cases h; exact at_iret rfl (Nat.le_refl _) (Nat.le_refl _) ⟨rfl, rfl⟩ dX3_lacking_20
set_option maxRecDepth 100000 in
theorem t_X3_outcomeBy {D : va_G} {b : Nat} {K : State → Heap → Prop} {sa : Nat → Nat} (hK : sx_Kk b K sa) {σ : sx_H} {v0 : Int32} {res : Int32} (h : f_X3_outcomeBy v0 = some res) : sx_Runs D b K yX3_outcomeBy YX3_outcomeBy (sx_rm 0) [.int v0] σ (sx_Ex (some (.int res)) σ) := by
  rw [f_X3_outcomeBy] at h
  refine sx_run (by decide +kernel) rfl rfl (Nat.le_of_ble_eq_true rfl) ?_
  refine at_iload_n 0 dX3_outcomeBy_0 rfl ?_
  refine at_if_ne 8 dX3_outcomeBy_1 (by decide) (fun c1 => ?_) (fun c1 => ?_)
  · rw [if_neg c1] at h
    refine at_iconst 3 dX3_outcomeBy_8 ic_3 ?_
    refine at_iload_n 0 dX3_outcomeBy_9 rfl ?_
    refine at_isub dX3_outcomeBy_10 ?_
    cases h; exact at_iret rfl (Nat.le_refl _) (Nat.le_refl _) ⟨rfl, rfl⟩ dX3_outcomeBy_11
  · rw [if_pos c1] at h
    refine at_iconst 0 dX3_outcomeBy_4 ic_0 ?_
    refine at_goto 11 dX3_outcomeBy_5 (by decide) ?_
    cases h; exact at_iret rfl (Nat.le_refl _) (Nat.le_refl _) ⟨rfl, rfl⟩ dX3_outcomeBy_11
set_option maxRecDepth 100000 in
theorem t_X11_outcome {D : va_G} {b : Nat} {K : State → Heap → Prop} {sa : Nat → Nat} (hK : sx_Kk b K sa) {N : Nat} {uG uN uD uR uP uL uT uA uM uH xA xB xC xD xE xF xG xH xI xJ xK xL uO : sx_C} {G : sx_H} {uF : sx_C} {res : Int32 × sx_C} (h : f_X11_outcome N uG uN uF = some res) : sx_Runs D b K yX11_outcome YX11_outcome (sx_rm 5) [.ref (b + 0)] (sx_hp b uG uN uD uR uF uP uL uT uA uM uH xA xB xC xD xE xF xG xH xI xJ xK xL uO G) (sx_Ex (some (.int res.1)) (sx_hp b uG uN uD uR (res.2) uP uL uT uA uM uH xA xB xC xD xE xF xG xH xI xJ xK xL uO G)) := by
  rw [f_X11_outcome] at h
  refine sx_run (by decide +kernel) rfl rfl (Nat.le_of_ble_eq_true rfl) ?_
  refine at_aload_n 0 dX11_outcome_0 rfl ?_
  refine at_getf cl_X11 (by decide) fl_X11_44 hg_0 rfl dX11_outcome_1 ?_
  refine at_aload_n 0 dX11_outcome_4 rfl ?_
  refine at_getf cl_X11 (by decide) fl_X11_91 hg_0 rfl dX11_outcome_5 ?_
  refine at_aload_n 0 dX11_outcome_8 rfl ?_
  refine at_getf cl_X11 (by decide) fl_X11_94 hg_0 rfl dX11_outcome_9 ?_
  obtain ⟨q1, hq1, h⟩ := sp_bind h
  refine at_callVi (st := []) hK mt_X3_lacking ml_X11_217 cl_X3 hg_15 (t_X3_lacking hK hq1) rfl rfl (Nat.le_of_ble_eq_true rfl) ⟨Nat.le_of_ble_eq_true rfl, Nat.le_of_ble_eq_true rfl⟩ ⟨Nat.le_refl _, Nat.le_refl _⟩ dX11_outcome_12 ?_
  obtain ⟨q2, hq2, h⟩ := sp_bind h
  refine at_callSi (st := []) hK mt_X3_outcomeBy ml_X11_220 (t_X3_outcomeBy hK hq2) rfl rfl (Nat.le_of_ble_eq_true rfl) ⟨Nat.le_of_ble_eq_true rfl, Nat.le_of_ble_eq_true rfl⟩ ⟨Nat.le_refl _, Nat.le_refl _⟩ dX11_outcome_15 ?_
  cases h; exact at_iret rfl (Nat.le_refl _) (Nat.le_refl _) ⟨rfl, rfl⟩ dX11_outcome_18
set_option maxRecDepth 100000 in
theorem t_X11_nth_27 {D : va_G} {b : Nat} {K : State → Heap → Prop} {sa : Nat → Nat} (hK : sx_Kk b K sa) (N : Nat) {k4 : Int32 → Int32 → Int32 → Option (Int32)} {σ : sx_H} (res : Int32) (hk4 : ∀ (v0 : Int32) (v2 : Int32) (v3 : Int32), k4 v0 v2 v3 = some res → sx_At D b K YX11_nth (sx_rm 1) (sx_Ex (some (.int res)) σ) 4 [(0, .int v0), (2, .int v2), (3, .int v3)] [] σ 0 0) : ∀ (v0 : Int32) (v2 : Int32) (v3 : Int32), f_X11_nth_27 N k4 v0 v2 v3 = some res → sx_At D b K YX11_nth (sx_rm 1) (sx_Ex (some (.int res)) σ) 27 [(0, .int v0), (2, .int v2), (3, .int v3)] [] σ 0 0 := by
  intro v0 v2 v3 h
  rw [f_X11_nth_27] at h
  refine at_iinc 2 1 [(0, .int v0), (2, .int v2), (3, .int (v3 + 1))] dX11_nth_27 rfl ic_1 (Nat.le_of_ble_eq_true rfl) rfl ?_
  refine at_goto 4 dX11_nth_30 (by decide) ?_
  exact hk4 _ _ _ h
set_option maxRecDepth 100000 in
theorem t_X11_nth_4 {D : va_G} {b : Nat} {K : State → Heap → Prop} {sa : Nat → Nat} (hK : sx_Kk b K sa) (N : Nat) {σ : sx_H} (res : Int32) : ∀ (n0 : Nat) (v0 : Int32) (v2 : Int32) (v3 : Int32), f_X11_nth_4 N n0 v0 v2 v3 = some res → sx_At D b K YX11_nth (sx_rm 1) (sx_Ex (some (.int res)) σ) 4 [(0, .int v0), (2, .int v2), (3, .int v3)] [] σ 0 0 := by
  intro n0
  induction n0 with
  | zero => intro _ _ _ h; cases h
  | succ n0 ih =>
    intro v0 v2 v3 h
    rw [f_X11_nth_4] at h
    refine at_iload_n 2 dX11_nth_4 rfl ?_
    refine at_bipush 14 dX11_nth_5 bp_14 ?_
    refine at_icmp_ge 33 dX11_nth_7 (by decide) (fun c1 => ?_) (fun c1 => ?_)
    · rw [if_pos c1] at h
      refine at_bipush (-2) dX11_nth_33 bp_m2 ?_
      cases h; exact at_iret rfl (Nat.le_refl _) (Nat.le_refl _) ⟨rfl, rfl⟩ dX11_nth_35
    · rw [if_neg c1] at h
      refine at_iload_n 0 dX11_nth_10 rfl ?_
      refine at_iload_n 2 dX11_nth_11 rfl ?_
      obtain ⟨q2, hq2, h⟩ := sp_bind h
      refine at_callSi (st := []) hK mt_X11_has ml_X11_347 (t_X11_has hK hq2) rfl rfl (Nat.le_of_ble_eq_true rfl) ⟨Nat.le_of_ble_eq_true rfl, Nat.le_of_ble_eq_true rfl⟩ ⟨Nat.le_refl _, Nat.le_refl _⟩ dX11_nth_12 ?_
      refine at_zeq 27 dX11_nth_15 (by decide) (fun c3 => ?_) (fun c3 => ?_)
      · rw [if_neg c3] at h
        exact t_X11_nth_27 hK N _ ih _ _ _ h
      · rw [if_pos c3] at h
        refine at_iload_n 1 dX11_nth_18 rfl ?_
        refine at_if_ne 24 dX11_nth_19 (by decide) (fun c4 => ?_) (fun c4 => ?_)
        · rw [if_neg c4] at h
          refine at_iinc 1 (-1) [(0, .int v0), (2, .int (v2 + (-1))), (3, .int v3)] dX11_nth_24 rfl ic_m1 (Nat.le_of_ble_eq_true rfl) rfl ?_
          exact t_X11_nth_27 hK N _ ih _ _ _ h
        · rw [if_pos c4] at h
          refine at_iload_n 2 dX11_nth_22 rfl ?_
          cases h; exact at_iret rfl (Nat.le_refl _) (Nat.le_refl _) ⟨rfl, rfl⟩ dX11_nth_23
set_option maxRecDepth 100000 in
theorem t_X11_nth {D : va_G} {b : Nat} {K : State → Heap → Prop} {sa : Nat → Nat} (hK : sx_Kk b K sa) {N : Nat} {σ : sx_H} {v0 : Int32} {v1 : Int32} {res : Int32} (h : f_X11_nth N v0 v1 = some res) : sx_Runs D b K yX11_nth YX11_nth (sx_rm 1) [.int v0, .int v1] σ (sx_Ex (some (.int res)) σ) := by
  rw [f_X11_nth] at h
  refine sx_run (by decide +kernel) rfl rfl (Nat.le_of_ble_eq_true rfl) ?_
  refine at_iload_n 1 dX11_nth_0 rfl ?_
  refine at_istore_n [(0, .int v0), (1, .int v1), (2, .int v1)] dX11_nth_1 (Nat.le_of_ble_eq_true rfl) rfl ?_
  refine at_iconst 0 dX11_nth_2 ic_0 ?_
  refine at_istore_n [(0, .int v0), (1, .int v1), (2, .int v1), (3, .int 0)] dX11_nth_3 (Nat.le_of_ble_eq_true rfl) rfl ?_
  refine at_sub [0, 2, 3] [(0, .int v0), (2, .int v1), (3, .int 0)] rfl ?_
  exact t_X11_nth_4 hK N _ N _ _ _ h
set_option maxRecDepth 100000 in
theorem t_X3_winningFrom_64 {D : va_G} {b : Nat} {K : State → Heap → Prop} {sa : Nat → Nat} (hK : sx_Kk b K sa) (N : Nat) {uG uN uD uR uP uL uT uA uM uH xA xB xC xD xE xF xG xH xI xJ xK xL uO : sx_C} {G : sx_H} (res : Int32 × sx_C) : ∀ (v5 : Int32) (s0 : Int32) (s1 : Int32) (uF : sx_C), f_X3_winningFrom_64 N uN v5 s0 s1 uF = some res → sx_At D b K YX3_winningFrom (sx_rm 4) (sx_Ex (some (.int res.1)) (sx_hp b uG uN uD uR (res.2) uP uL uT uA uM uH xA xB xC xD xE xF xG xH xI xJ xK xL uO G)) 64 [(5, .int v5)] [.int s1, .int s0] (sx_hp b uG uN uD uR uF uP uL uT uA uM uH xA xB xC xD xE xF xG xH xI xJ xK xL uO G) 0 0 := by
  intro v5 s0 s1 uF h
  rw [f_X3_winningFrom_64] at h
  refine at_icmp_ne 76 dX3_winningFrom_64 (by decide) (fun c2 => ?_) (fun c2 => ?_)
  · rw [if_neg c2] at h
    refine at_bipush (-2) dX3_winningFrom_76 bp_m2 ?_
    cases h; exact at_iret rfl (Nat.le_refl _) (Nat.le_refl _) ⟨rfl, rfl⟩ dX3_winningFrom_78
  · rw [if_pos c2] at h
    refine at_iload 0 dX3_winningFrom_67 rfl ?_
    refine at_iconst 0 dX3_winningFrom_69 ic_0 ?_
    obtain ⟨q3, hq3, h⟩ := sp_bind h
    refine at_callSi (st := []) hK mt_X11_nth ml_X3_86 (t_X11_nth hK hq3) rfl rfl (Nat.le_of_ble_eq_true rfl) ⟨Nat.le_of_ble_eq_true rfl, Nat.le_of_ble_eq_true rfl⟩ ⟨Nat.le_refl _, Nat.le_refl _⟩ dX3_winningFrom_70 ?_
    refine at_goto 78 dX3_winningFrom_73 (by decide) ?_
    cases h; exact at_iret rfl (Nat.le_refl _) (Nat.le_refl _) ⟨rfl, rfl⟩ dX3_winningFrom_78
set_option maxRecDepth 100000 in
theorem t_X3_winningFrom_55 {D : va_G} {b : Nat} {K : State → Heap → Prop} {sa : Nat → Nat} (hK : sx_Kk b K sa) (N : Nat) {uG uN uD uR uP uL uT uA uM uH xA xB xC xD xE xF xG xH xI xJ xK xL uO : sx_C} {G : sx_H} (res : Int32 × sx_C) : ∀ (v2 : Int32) (v5 : Int32) (s0 : Int32) (uF : sx_C), f_X3_winningFrom_55 N uN v2 v5 s0 uF = some res → sx_At D b K YX3_winningFrom (sx_rm 4) (sx_Ex (some (.int res.1)) (sx_hp b uG uN uD uR (res.2) uP uL uT uA uM uH xA xB xC xD xE xF xG xH xI xJ xK xL uO G)) 55 [(2, .int v2), (5, .int v5)] [.int s0] (sx_hp b uG uN uD uR uF uP uL uT uA uM uH xA xB xC xD xE xF xG xH xI xJ xK xL uO G) 0 0 := by
  intro v2 v5 s0 uF h
  rw [f_X3_winningFrom_55] at h
  refine at_iload_n 0 dX3_winningFrom_55 rfl ?_
  refine at_if_ne 63 dX3_winningFrom_56 (by decide) (fun c1 => ?_) (fun c1 => ?_)
  · rw [if_neg c1] at h
    refine at_iconst 0 dX3_winningFrom_63 ic_0 ?_
    refine at_sub [1] [(5, .int v5)] rfl ?_
    exact t_X3_winningFrom_64 hK N _ _ _ _ _ h
  · rw [if_pos c1] at h
    refine at_iconst 1 dX3_winningFrom_59 ic_1 ?_
    refine at_goto 64 dX3_winningFrom_60 (by decide) ?_
    refine at_sub [1] [(5, .int v5)] rfl ?_
    exact t_X3_winningFrom_64 hK N _ _ _ _ _ h
set_option maxRecDepth 100000 in
theorem t_X3_winningFrom_170 {D : va_G} {b : Nat} {K : State → Heap → Prop} {sa : Nat → Nat} (hK : sx_Kk b K sa) (N : Nat) {k82 : Int32 → Int32 → Int32 → Int32 → Int32 → sx_C → Option (Int32 × sx_C)} {uG uN uD uR uP uL uT uA uM uH xA xB xC xD xE xF xG xH xI xJ xK xL uO : sx_C} {G : sx_H} (res : Int32 × sx_C) (hk82 : ∀ (v2 : Int32) (v3 : Int32) (v4 : Int32) (v5 : Int32) (v7 : Int32) (uF : sx_C), k82 v2 v3 v4 v5 v7 uF = some res → sx_At D b K YX3_winningFrom (sx_rm 4) (sx_Ex (some (.int res.1)) (sx_hp b uG uN uD uR (res.2) uP uL uT uA uM uH xA xB xC xD xE xF xG xH xI xJ xK xL uO G)) 82 [(0, .ref (b + 15)), (2, .int v2), (3, .int v3), (4, .int v4), (5, .int v5), (7, .int v7)] [] (sx_hp b uG uN uD uR uF uP uL uT uA uM uH xA xB xC xD xE xF xG xH xI xJ xK xL uO G) 0 0) : ∀ (v2 : Int32) (v3 : Int32) (v4 : Int32) (v5 : Int32) (v7 : Int32) (uF : sx_C), f_X3_winningFrom_170 N k82 uN v2 v3 v4 v5 v7 uF = some res → sx_At D b K YX3_winningFrom (sx_rm 4) (sx_Ex (some (.int res.1)) (sx_hp b uG uN uD uR (res.2) uP uL uT uA uM uH xA xB xC xD xE xF xG xH xI xJ xK xL uO G)) 170 [(0, .ref (b + 15)), (2, .int v2), (3, .int v3), (4, .int v4), (5, .int v5), (7, .int v7)] [] (sx_hp b uG uN uD uR uF uP uL uT uA uM uH xA xB xC xD xE xF xG xH xI xJ xK xL uO G) 0 0 := by
  intro v2 v3 v4 v5 v7 uF h
  rw [f_X3_winningFrom_170] at h
  refine at_iinc 5 1 [(0, .ref (b + 15)), (2, .int v2), (3, .int v3), (4, .int v4), (5, .int v5), (7, .int (v7 + 1))] dX3_winningFrom_170 rfl ic_1 (Nat.le_of_ble_eq_true rfl) rfl ?_
  refine at_goto 82 dX3_winningFrom_173 (by decide) ?_
  exact hk82 _ _ _ _ _ _ h
set_option maxRecDepth 100000 in
theorem t_X3_winningFrom_164 {D : va_G} {b : Nat} {K : State → Heap → Prop} {sa : Nat → Nat} (hK : sx_Kk b K sa) (N : Nat) {k82 : Int32 → Int32 → Int32 → Int32 → Int32 → sx_C → Option (Int32 × sx_C)} {uG uN uD uR uP uL uT uA uM uH xA xB xC xD xE xF xG xH xI xJ xK xL uO : sx_C} {G : sx_H} (res : Int32 × sx_C) (hk82 : ∀ (v2 : Int32) (v3 : Int32) (v4 : Int32) (v5 : Int32) (v7 : Int32) (uF : sx_C), k82 v2 v3 v4 v5 v7 uF = some res → sx_At D b K YX3_winningFrom (sx_rm 4) (sx_Ex (some (.int res.1)) (sx_hp b uG uN uD uR (res.2) uP uL uT uA uM uH xA xB xC xD xE xF xG xH xI xJ xK xL uO G)) 82 [(0, .ref (b + 15)), (2, .int v2), (3, .int v3), (4, .int v4), (5, .int v5), (7, .int v7)] [] (sx_hp b uG uN uD uR uF uP uL uT uA uM uH xA xB xC xD xE xF xG xH xI xJ xK xL uO G) 0 0) : ∀ (v2 : Int32) (v3 : Int32) (v4 : Int32) (v5 : Int32) (v7 : Int32) (s0 : Int32) (s1 : Int32) (uF : sx_C), f_X3_winningFrom_164 N k82 uN v2 v3 v4 v5 v7 s0 s1 uF = some res → sx_At D b K YX3_winningFrom (sx_rm 4) (sx_Ex (some (.int res.1)) (sx_hp b uG uN uD uR (res.2) uP uL uT uA uM uH xA xB xC xD xE xF xG xH xI xJ xK xL uO G)) 164 [(0, .ref (b + 15)), (2, .int v2), (3, .int v3), (4, .int v4), (5, .int v5), (7, .int v7)] [.int s1, .int s0] (sx_hp b uG uN uD uR uF uP uL uT uA uM uH xA xB xC xD xE xF xG xH xI xJ xK xL uO G) 0 0 := by
  intro v2 v3 v4 v5 v7 s0 s1 uF h
  rw [f_X3_winningFrom_164] at h
  refine at_icmp_ne 170 dX3_winningFrom_164 (by decide) (fun c11 => ?_) (fun c11 => ?_)
  · rw [if_neg c11] at h
    exact t_X3_winningFrom_170 hK N _ hk82 _ _ _ _ _ _ h
  · rw [if_pos c11] at h
    refine at_iload 5 dX3_winningFrom_167 rfl ?_
    cases h; exact at_iret rfl (Nat.le_refl _) (Nat.le_refl _) ⟨rfl, rfl⟩ dX3_winningFrom_169
set_option maxRecDepth 100000 in
theorem t_X3_winningFrom_131 {D : va_G} {b : Nat} {K : State → Heap → Prop} {sa : Nat → Nat} (hK : sx_Kk b K sa) (N : Nat) {k82 : Int32 → Int32 → Int32 → Int32 → Int32 → sx_C → Option (Int32 × sx_C)} {uG uN uD uR uP uL uT uA uM uH xA xB xC xD xE xF xG xH xI xJ xK xL uO : sx_C} {G : sx_H} (res : Int32 × sx_C) (hk82 : ∀ (v2 : Int32) (v3 : Int32) (v4 : Int32) (v5 : Int32) (v7 : Int32) (uF : sx_C), k82 v2 v3 v4 v5 v7 uF = some res → sx_At D b K YX3_winningFrom (sx_rm 4) (sx_Ex (some (.int res.1)) (sx_hp b uG uN uD uR (res.2) uP uL uT uA uM uH xA xB xC xD xE xF xG xH xI xJ xK xL uO G)) 82 [(0, .ref (b + 15)), (2, .int v2), (3, .int v3), (4, .int v4), (5, .int v5), (7, .int v7)] [] (sx_hp b uG uN uD uR uF uP uL uT uA uM uH xA xB xC xD xE xF xG xH xI xJ xK xL uO G) 0 0) : ∀ (v2 : Int32) (v3 : Int32) (v4 : Int32) (v5 : Int32) (v7 : Int32) (v8 : Int32) (s0 : Int32) (uF : sx_C), f_X3_winningFrom_131 N k82 uN v2 v3 v4 v5 v7 v8 s0 uF = some res → sx_At D b K YX3_winningFrom (sx_rm 4) (sx_Ex (some (.int res.1)) (sx_hp b uG uN uD uR (res.2) uP uL uT uA uM uH xA xB xC xD xE xF xG xH xI xJ xK xL uO G)) 131 [(0, .ref (b + 15)), (2, .int v2), (3, .int v3), (4, .int v4), (5, .int v5), (7, .int v7), (8, .int v8)] [.int s0] (sx_hp b uG uN uD uR uF uP uL uT uA uM uH xA xB xC xD xE xF xG xH xI xJ xK xL uO G) 0 0 := by
  intro v2 v3 v4 v5 v7 v8 s0 uF h
  rw [f_X3_winningFrom_131] at h
  refine at_istore [(0, .ref (b + 15)), (2, .int v2), (3, .int v3), (4, .int v4), (5, .int v5), (7, .int v7), (8, .int v8), (9, .int s0)] dX3_winningFrom_131 (Nat.le_of_ble_eq_true rfl) rfl ?_
  refine at_aload_n 0 dX3_winningFrom_133 rfl ?_
  refine at_iload 6 dX3_winningFrom_134 rfl ?_
  refine at_iload 7 dX3_winningFrom_136 rfl ?_
  refine at_aload_n 0 dX3_winningFrom_138 rfl ?_
  refine at_getf cl_X3 (by decide) fl_X3_9 hg_15 rfl dX3_winningFrom_139 ?_
  refine at_getf cl_X6 (by decide) fl_X3_54 hg_2 rfl dX3_winningFrom_142 ?_
  refine at_aload_n 0 dX3_winningFrom_145 rfl ?_
  refine at_getf cl_X3 (by decide) fl_X3_9 hg_15 rfl dX3_winningFrom_146 ?_
  refine at_getf cl_X6 (by decide) fl_X3_58 hg_2 rfl dX3_winningFrom_149 ?_
  obtain ⟨q9, hq9, h⟩ := sp_bind h
  refine at_callVi (st := []) hK mt_X3_lackingBetween ml_X3_61 cl_X3 hg_15 (t_X3_lackingBetween hK hq9) rfl rfl (Nat.le_of_ble_eq_true rfl) ⟨Nat.le_of_ble_eq_true rfl, Nat.le_of_ble_eq_true rfl⟩ ⟨Nat.le_refl _, Nat.le_refl _⟩ dX3_winningFrom_152 ?_
  refine at_iload_n 1 dX3_winningFrom_155 rfl ?_
  refine at_if_ne 163 dX3_winningFrom_156 (by decide) (fun c10 => ?_) (fun c10 => ?_)
  · rw [if_neg c10] at h
    refine at_iconst 2 dX3_winningFrom_163 ic_2 ?_
    refine at_sub [0, 1, 2, 3, 4, 5] [(0, .ref (b + 15)), (2, .int v2), (3, .int v3), (4, .int v4), (5, .int v5), (7, .int v7)] rfl ?_
    exact t_X3_winningFrom_164 hK N _ hk82 _ _ _ _ _ _ _ _ h
  · rw [if_pos c10] at h
    refine at_iconst 0 dX3_winningFrom_159 ic_0 ?_
    refine at_goto 164 dX3_winningFrom_160 (by decide) ?_
    refine at_sub [0, 1, 2, 3, 4, 5] [(0, .ref (b + 15)), (2, .int v2), (3, .int v3), (4, .int v4), (5, .int v5), (7, .int v7)] rfl ?_
    exact t_X3_winningFrom_164 hK N _ hk82 _ _ _ _ _ _ _ _ h
set_option maxRecDepth 100000 in
theorem t_X3_winningFrom_113 {D : va_G} {b : Nat} {K : State → Heap → Prop} {sa : Nat → Nat} (hK : sx_Kk b K sa) (N : Nat) {k82 : Int32 → Int32 → Int32 → Int32 → Int32 → sx_C → Option (Int32 × sx_C)} {uG uN uD uR uP uL uT uA uM uH xA xB xC xD xE xF xG xH xI xJ xK xL uO : sx_C} {G : sx_H} (res : Int32 × sx_C) (hk82 : ∀ (v2 : Int32) (v3 : Int32) (v4 : Int32) (v5 : Int32) (v7 : Int32) (uF : sx_C), k82 v2 v3 v4 v5 v7 uF = some res → sx_At D b K YX3_winningFrom (sx_rm 4) (sx_Ex (some (.int res.1)) (sx_hp b uG uN uD uR (res.2) uP uL uT uA uM uH xA xB xC xD xE xF xG xH xI xJ xK xL uO G)) 82 [(0, .ref (b + 15)), (2, .int v2), (3, .int v3), (4, .int v4), (5, .int v5), (7, .int v7)] [] (sx_hp b uG uN uD uR uF uP uL uT uA uM uH xA xB xC xD xE xF xG xH xI xJ xK xL uO G) 0 0) : ∀ (v2 : Int32) (v3 : Int32) (v4 : Int32) (v5 : Int32) (v7 : Int32) (s0 : Int32) (uF : sx_C), f_X3_winningFrom_113 N k82 uN v2 v3 v4 v5 v7 s0 uF = some res → sx_At D b K YX3_winningFrom (sx_rm 4) (sx_Ex (some (.int res.1)) (sx_hp b uG uN uD uR (res.2) uP uL uT uA uM uH xA xB xC xD xE xF xG xH xI xJ xK xL uO G)) 113 [(0, .ref (b + 15)), (2, .int v2), (3, .int v3), (4, .int v4), (5, .int v5), (7, .int v7)] [.int s0] (sx_hp b uG uN uD uR uF uP uL uT uA uM uH xA xB xC xD xE xF xG xH xI xJ xK xL uO G) 0 0 := by
  intro v2 v3 v4 v5 v7 s0 uF h
  rw [f_X3_winningFrom_113] at h
  refine at_istore [(0, .ref (b + 15)), (2, .int v2), (3, .int v3), (4, .int v4), (5, .int v5), (7, .int v7), (8, .int s0)] dX3_winningFrom_113 (Nat.le_of_ble_eq_true rfl) rfl ?_
  refine at_iload_n 1 dX3_winningFrom_115 rfl ?_
  refine at_if_ne 124 dX3_winningFrom_116 (by decide) (fun c8 => ?_) (fun c8 => ?_)
  · rw [if_neg c8] at h
    refine at_iload 3 dX3_winningFrom_124 rfl ?_
    refine at_iconst 1 dX3_winningFrom_126 ic_1 ?_
    refine at_iload 5 dX3_winningFrom_127 rfl ?_
    refine at_ishl dX3_winningFrom_129 ?_
    refine at_ior dX3_winningFrom_130 ?_
    exact t_X3_winningFrom_131 hK N _ hk82 _ _ _ _ _ _ _ _ h
  · rw [if_pos c8] at h
    refine at_iload 3 dX3_winningFrom_119 rfl ?_
    refine at_goto 131 dX3_winningFrom_121 (by decide) ?_
    exact t_X3_winningFrom_131 hK N _ hk82 _ _ _ _ _ _ _ _ h
set_option maxRecDepth 100000 in
theorem t_X3_winningFrom_82 {D : va_G} {b : Nat} {K : State → Heap → Prop} {sa : Nat → Nat} (hK : sx_Kk b K sa) (N : Nat) {uG uN uD uR uP uL uT uA uM uH xA xB xC xD xE xF xG xH xI xJ xK xL uO : sx_C} {G : sx_H} (res : Int32 × sx_C) : ∀ (n0 : Nat) (v2 : Int32) (v3 : Int32) (v4 : Int32) (v5 : Int32) (v7 : Int32) (uF : sx_C), f_X3_winningFrom_82 N uN n0 v2 v3 v4 v5 v7 uF = some res → sx_At D b K YX3_winningFrom (sx_rm 4) (sx_Ex (some (.int res.1)) (sx_hp b uG uN uD uR (res.2) uP uL uT uA uM uH xA xB xC xD xE xF xG xH xI xJ xK xL uO G)) 82 [(0, .ref (b + 15)), (2, .int v2), (3, .int v3), (4, .int v4), (5, .int v5), (7, .int v7)] [] (sx_hp b uG uN uD uR uF uP uL uT uA uM uH xA xB xC xD xE xF xG xH xI xJ xK xL uO G) 0 0 := by
  intro n0
  induction n0 with
  | zero => intro _ _ _ _ _ _ h; cases h
  | succ n0 ih =>
    intro v2 v3 v4 v5 v7 uF h
    rw [f_X3_winningFrom_82] at h
    refine at_iload 5 dX3_winningFrom_82 rfl ?_
    refine at_bipush 14 dX3_winningFrom_84 bp_14 ?_
    refine at_icmp_ge 176 dX3_winningFrom_86 (by decide) (fun c4 => ?_) (fun c4 => ?_)
    · rw [if_pos c4] at h
      refine at_bipush (-2) dX3_winningFrom_176 bp_m2 ?_
      cases h; exact at_iret rfl (Nat.le_refl _) (Nat.le_refl _) ⟨rfl, rfl⟩ dX3_winningFrom_178
    · rw [if_neg c4] at h
      refine at_iload 4 dX3_winningFrom_89 rfl ?_
      refine at_iload 5 dX3_winningFrom_91 rfl ?_
      obtain ⟨q5, hq5, h⟩ := sp_bind h
      refine at_callSi (st := []) hK mt_X11_has ml_X3_24 (t_X11_has hK hq5) rfl rfl (Nat.le_of_ble_eq_true rfl) ⟨Nat.le_of_ble_eq_true rfl, Nat.le_of_ble_eq_true rfl⟩ ⟨Nat.le_refl _, Nat.le_refl _⟩ dX3_winningFrom_93 ?_
      refine at_zeq 170 dX3_winningFrom_96 (by decide) (fun c6 => ?_) (fun c6 => ?_)
      · rw [if_neg c6] at h
        exact t_X3_winningFrom_170 hK N _ ih _ _ _ _ _ _ h
      · rw [if_pos c6] at h
        refine at_iload_n 1 dX3_winningFrom_99 rfl ?_
        refine at_if_ne 112 dX3_winningFrom_100 (by decide) (fun c7 => ?_) (fun c7 => ?_)
        · rw [if_neg c7] at h
          refine at_iload_n 2 dX3_winningFrom_112 rfl ?_
          exact t_X3_winningFrom_113 hK N _ ih _ _ _ _ _ _ _ h
        · rw [if_pos c7] at h
          refine at_iload_n 2 dX3_winningFrom_103 rfl ?_
          refine at_iconst 1 dX3_winningFrom_104 ic_1 ?_
          refine at_iload 5 dX3_winningFrom_105 rfl ?_
          refine at_ishl dX3_winningFrom_107 ?_
          refine at_ior dX3_winningFrom_108 ?_
          refine at_goto 113 dX3_winningFrom_109 (by decide) ?_
          exact t_X3_winningFrom_113 hK N _ ih _ _ _ _ _ _ _ h
set_option maxRecDepth 100000 in
theorem t_X3_winningFrom {D : va_G} {b : Nat} {K : State → Heap → Prop} {sa : Nat → Nat} (hK : sx_Kk b K sa) {N : Nat} {uG uN uD uR uP uL uT uA uM uH xA xB xC xD xE xF xG xH xI xJ xK xL uO : sx_C} {G : sx_H} {v1 : Int32} {v2 : Int32} {v3 : Int32} {v4 : Int32} {uF : sx_C} {res : Int32 × sx_C} (h : f_X3_winningFrom N uN v1 v2 v3 v4 uF = some res) : sx_Runs D b K yX3_winningFrom YX3_winningFrom (sx_rm 4) [.ref (b + 15), .int v1, .int v2, .int v3, .int v4] (sx_hp b uG uN uD uR uF uP uL uT uA uM uH xA xB xC xD xE xF xG xH xI xJ xK xL uO G) (sx_Ex (some (.int res.1)) (sx_hp b uG uN uD uR (res.2) uP uL uT uA uM uH xA xB xC xD xE xF xG xH xI xJ xK xL uO G)) := by
  rw [f_X3_winningFrom] at h
  refine sx_run (by decide +kernel) rfl rfl (Nat.le_of_ble_eq_true rfl) ?_
  refine at_aload_n 0 dX3_winningFrom_0 rfl ?_
  refine at_getf cl_X3 (by decide) fl_X3_9 hg_15 rfl dX3_winningFrom_1 ?_
  refine at_iload_n 3 dX3_winningFrom_4 rfl ?_
  refine at_iload 4 dX3_winningFrom_5 rfl ?_
  obtain ⟨q12, hq12, h⟩ := sp_bind h
  refine at_callVi (st := []) hK mt_X6_openOf ml_X3_73 cl_X6 hg_2 (t_X6_openOf hK hq12) rfl rfl (Nat.le_of_ble_eq_true rfl) ⟨Nat.le_of_ble_eq_true rfl, Nat.le_of_ble_eq_true rfl⟩ ⟨Nat.le_refl _, Nat.le_refl _⟩ dX3_winningFrom_7 ?_
  refine at_iconst (-1) dX3_winningFrom_10 ic_m1 ?_
  refine at_iload_n 1 dX3_winningFrom_11 rfl ?_
  refine at_ishl dX3_winningFrom_12 ?_
  refine at_iand dX3_winningFrom_13 ?_
  refine at_istore [(0, .ref (b + 15)), (1, .int v1), (2, .int v2), (3, .int v3), (4, .int v4), (5, .int (q12 &&& (sp_shl (-1) v1)))] dX3_winningFrom_14 (Nat.le_of_ble_eq_true rfl) rfl ?_
  refine at_aload_n 0 dX3_winningFrom_16 rfl ?_
  refine at_iload_n 3 dX3_winningFrom_17 rfl ?_
  refine at_iload 4 dX3_winningFrom_18 rfl ?_
  refine at_aload_n 0 dX3_winningFrom_20 rfl ?_
  refine at_getf cl_X3 (by decide) fl_X3_9 hg_15 rfl dX3_winningFrom_21 ?_
  refine at_getf cl_X6 (by decide) fl_X3_54 hg_2 rfl dX3_winningFrom_24 ?_
  refine at_aload_n 0 dX3_winningFrom_27 rfl ?_
  refine at_getf cl_X3 (by decide) fl_X3_9 hg_15 rfl dX3_winningFrom_28 ?_
  refine at_getf cl_X6 (by decide) fl_X3_58 hg_2 rfl dX3_winningFrom_31 ?_
  obtain ⟨q13, hq13, h⟩ := sp_bind h
  refine at_callVi (st := []) hK mt_X3_lackingBetween ml_X3_61 cl_X3 hg_15 (t_X3_lackingBetween hK hq13) rfl rfl (Nat.le_of_ble_eq_true rfl) ⟨Nat.le_of_ble_eq_true rfl, Nat.le_of_ble_eq_true rfl⟩ ⟨Nat.le_refl _, Nat.le_refl _⟩ dX3_winningFrom_34 ?_
  refine at_istore [(0, .ref (b + 15)), (1, .int v1), (2, .int v2), (3, .int v3), (4, .int v4), (5, .int (q12 &&& (sp_shl (-1) v1))), (6, .int (q13.1))] dX3_winningFrom_37 (Nat.le_of_ble_eq_true rfl) rfl ?_
  refine at_iload 6 dX3_winningFrom_39 rfl ?_
  refine at_iconst 1 dX3_winningFrom_41 ic_1 ?_
  refine at_icmp_eq 79 dX3_winningFrom_42 (by decide) (fun c14 => ?_) (fun c14 => ?_)
  · rw [if_pos c14] at h
    refine at_iconst 0 dX3_winningFrom_79 ic_0 ?_
    refine at_istore [(0, .ref (b + 15)), (1, .int v1), (2, .int v2), (3, .int v3), (4, .int v4), (5, .int (q12 &&& (sp_shl (-1) v1))), (6, .int (q13.1)), (7, .int 0)] dX3_winningFrom_80 (Nat.le_of_ble_eq_true rfl) rfl ?_
    refine at_sub [0, 2, 3, 4, 5, 7] [(0, .ref (b + 15)), (2, .int v2), (3, .int v3), (4, .int v4), (5, .int (q12 &&& (sp_shl (-1) v1))), (7, .int 0)] rfl ?_
    exact t_X3_winningFrom_82 hK N _ N _ _ _ _ _ _ h
  · rw [if_neg c14] at h
    refine at_iload 6 dX3_winningFrom_45 rfl ?_
    refine at_if_ne 54 dX3_winningFrom_47 (by decide) (fun c15 => ?_) (fun c15 => ?_)
    · rw [if_neg c15] at h
      refine at_iconst 0 dX3_winningFrom_54 ic_0 ?_
      refine at_sub [2, 5] [(2, .int v2), (5, .int (q12 &&& (sp_shl (-1) v1)))] rfl ?_
      exact t_X3_winningFrom_55 hK N _ _ _ _ _ h
    · rw [if_pos c15] at h
      refine at_iconst 1 dX3_winningFrom_50 ic_1 ?_
      refine at_goto 55 dX3_winningFrom_51 (by decide) ?_
      refine at_sub [2, 5] [(2, .int v2), (5, .int (q12 &&& (sp_shl (-1) v1)))] rfl ?_
      exact t_X3_winningFrom_55 hK N _ _ _ _ _ h
set_option maxRecDepth 100000 in
theorem t_X11_nthWinning_26 {D : va_G} {b : Nat} {K : State → Heap → Prop} {sa : Nat → Nat} (hK : sx_Kk b K sa) (N : Nat) {uG uN uD uR uP uL uT uA uM uH xA xB xC xD xE xF xG xH xI xJ xK xL uO : sx_C} {G : sx_H} (res : Int32 × sx_C) : ∀ (n0 : Nat) (v1 : Int32) (v3 : Int32) (v4 : Int32) (uF : sx_C), f_X11_nthWinning_26 N uG uN n0 v1 v3 v4 uF = some res → sx_At D b K YX11_nthWinning (sx_rm 5) (sx_Ex (some (.int res.1)) (sx_hp b uG uN uD uR (res.2) uP uL uT uA uM uH xA xB xC xD xE xF xG xH xI xJ xK xL uO G)) 26 [(0, .ref (b + 0)), (1, .int v1), (3, .int v3), (4, .int v4)] [] (sx_hp b uG uN uD uR uF uP uL uT uA uM uH xA xB xC xD xE xF xG xH xI xJ xK xL uO G) 0 0 := by
  intro n0
  induction n0 with
  | zero => intro _ _ _ _ h; cases h
  | succ n0 ih =>
    intro v1 v3 v4 uF h
    rw [f_X11_nthWinning_26] at h
    refine at_iload 3 dX11_nthWinning_26 rfl ?_
    refine at_if_le 61 dX11_nthWinning_28 (by decide) (fun c1 => ?_) (fun c1 => ?_)
    · rw [if_pos c1] at h
      refine at_iload_n 2 dX11_nthWinning_61 rfl ?_
      cases h; exact at_iret rfl (Nat.le_refl _) (Nat.le_refl _) ⟨rfl, rfl⟩ dX11_nthWinning_62
    · rw [if_neg c1] at h
      refine at_iload_n 2 dX11_nthWinning_31 rfl ?_
      refine at_if_lt 61 dX11_nthWinning_32 (by decide) (fun c2 => ?_) (fun c2 => ?_)
      · rw [if_pos c2] at h
        refine at_iload_n 2 dX11_nthWinning_61 rfl ?_
        cases h; exact at_iret rfl (Nat.le_refl _) (Nat.le_refl _) ⟨rfl, rfl⟩ dX11_nthWinning_62
      · rw [if_neg c2] at h
        refine at_aload_n 0 dX11_nthWinning_35 rfl ?_
        refine at_getf cl_X11 (by decide) fl_X11_44 hg_0 rfl dX11_nthWinning_36 ?_
        refine at_iload_n 2 dX11_nthWinning_39 rfl ?_
        refine at_iconst 1 dX11_nthWinning_40 ic_1 ?_
        refine at_iadd dX11_nthWinning_41 ?_
        refine at_iload_n 1 dX11_nthWinning_42 rfl ?_
        refine at_aload_n 0 dX11_nthWinning_43 rfl ?_
        refine at_getf cl_X11 (by decide) fl_X11_91 hg_0 rfl dX11_nthWinning_44 ?_
        refine at_aload_n 0 dX11_nthWinning_47 rfl ?_
        refine at_getf cl_X11 (by decide) fl_X11_94 hg_0 rfl dX11_nthWinning_48 ?_
        obtain ⟨q3, hq3, h⟩ := sp_bind h
        refine at_callVi (st := []) hK mt_X3_winningFrom ml_X11_276 cl_X3 hg_15 (t_X3_winningFrom hK hq3) rfl rfl (Nat.le_of_ble_eq_true rfl) ⟨Nat.le_of_ble_eq_true rfl, Nat.le_of_ble_eq_true rfl⟩ ⟨Nat.le_refl _, Nat.le_refl _⟩ dX11_nthWinning_51 ?_
        refine at_istore_n [(0, .ref (b + 0)), (1, .int v1), (3, .int (q3.1)), (4, .int v4)] dX11_nthWinning_54 (Nat.le_of_ble_eq_true rfl) rfl ?_
        refine at_iinc 3 (-1) [(0, .ref (b + 0)), (1, .int v1), (3, .int (q3.1)), (4, .int (v4 + (-1)))] dX11_nthWinning_55 rfl ic_m1 (Nat.le_of_ble_eq_true rfl) rfl ?_
        refine at_goto 26 dX11_nthWinning_58 (by decide) ?_
        exact ih _ _ _ _ h
set_option maxRecDepth 100000 in
theorem t_X11_nthWinning {D : va_G} {b : Nat} {K : State → Heap → Prop} {sa : Nat → Nat} (hK : sx_Kk b K sa) {N : Nat} {uG uN uD uR uP uL uT uA uM uH xA xB xC xD xE xF xG xH xI xJ xK xL uO : sx_C} {G : sx_H} {v1 : Int32} {v2 : Int32} {uF : sx_C} {res : Int32 × sx_C} (h : f_X11_nthWinning N uG uN v1 v2 uF = some res) : sx_Runs D b K yX11_nthWinning YX11_nthWinning (sx_rm 5) [.ref (b + 0), .int v1, .int v2] (sx_hp b uG uN uD uR uF uP uL uT uA uM uH xA xB xC xD xE xF xG xH xI xJ xK xL uO G) (sx_Ex (some (.int res.1)) (sx_hp b uG uN uD uR (res.2) uP uL uT uA uM uH xA xB xC xD xE xF xG xH xI xJ xK xL uO G)) := by
  rw [f_X11_nthWinning] at h
  refine sx_run (by decide +kernel) rfl rfl (Nat.le_of_ble_eq_true rfl) ?_
  refine at_aload_n 0 dX11_nthWinning_0 rfl ?_
  refine at_getf cl_X11 (by decide) fl_X11_44 hg_0 rfl dX11_nthWinning_1 ?_
  refine at_iconst 0 dX11_nthWinning_4 ic_0 ?_
  refine at_iload_n 1 dX11_nthWinning_5 rfl ?_
  refine at_aload_n 0 dX11_nthWinning_6 rfl ?_
  refine at_getf cl_X11 (by decide) fl_X11_91 hg_0 rfl dX11_nthWinning_7 ?_
  refine at_aload_n 0 dX11_nthWinning_10 rfl ?_
  refine at_getf cl_X11 (by decide) fl_X11_94 hg_0 rfl dX11_nthWinning_11 ?_
  obtain ⟨q4, hq4, h⟩ := sp_bind h
  refine at_callVi (st := []) hK mt_X3_winningFrom ml_X11_276 cl_X3 hg_15 (t_X3_winningFrom hK hq4) rfl rfl (Nat.le_of_ble_eq_true rfl) ⟨Nat.le_of_ble_eq_true rfl, Nat.le_of_ble_eq_true rfl⟩ ⟨Nat.le_refl _, Nat.le_refl _⟩ dX11_nthWinning_14 ?_
  refine at_istore_n [(0, .ref (b + 0)), (1, .int v1), (2, .int v2), (3, .int (q4.1))] dX11_nthWinning_17 (Nat.le_of_ble_eq_true rfl) rfl ?_
  refine at_iload_n 2 dX11_nthWinning_18 rfl ?_
  refine at_bipush 14 dX11_nthWinning_19 bp_14 ?_
  obtain ⟨q5, hq5, h⟩ := sp_bind h
  refine at_callSi (st := []) hK mt_J9_min_7cf53 ml_X11_350 (t_J9_min_7cf53 hK hq5) rfl rfl (Nat.le_of_ble_eq_true rfl) ⟨Nat.le_of_ble_eq_true rfl, Nat.le_of_ble_eq_true rfl⟩ ⟨Nat.le_refl _, Nat.le_refl _⟩ dX11_nthWinning_21 ?_
  refine at_istore [(0, .ref (b + 0)), (1, .int v1), (2, .int v2), (3, .int (q4.1)), (4, .int q5)] dX11_nthWinning_24 (Nat.le_of_ble_eq_true rfl) rfl ?_
  refine at_sub [0, 1, 3, 4] [(0, .ref (b + 0)), (1, .int v1), (3, .int (q4.1)), (4, .int q5)] rfl ?_
  exact t_X11_nthWinning_26 hK N _ N _ _ _ _ h
set_option maxRecDepth 100000 in
theorem t_X11_wins {D : va_G} {b : Nat} {K : State → Heap → Prop} {sa : Nat → Nat} (hK : sx_Kk b K sa) {N : Nat} {uG uN uD uR uP uL uT uA uM uH xA xB xC xD xE xF xG xH xI xJ xK xL uO : sx_C} {G : sx_H} {v1 : Int32} {v2 : Int32} {uF : sx_C} {res : Int32 × sx_C} (h : f_X11_wins N uG uN v1 v2 uF = some res) : sx_Runs D b K yX11_wins YX11_wins (sx_rm 6) [.ref (b + 0), .int v1, .int v2] (sx_hp b uG uN uD uR uF uP uL uT uA uM uH xA xB xC xD xE xF xG xH xI xJ xK xL uO G) (sx_Ex (some (.int res.1)) (sx_hp b uG uN uD uR (res.2) uP uL uT uA uM uH xA xB xC xD xE xF xG xH xI xJ xK xL uO G)) := by
  rw [f_X11_wins] at h
  refine sx_run (by decide +kernel) rfl rfl (Nat.le_of_ble_eq_true rfl) ?_
  refine at_iload_n 1 dX11_wins_0 rfl ?_
  refine at_if_lt 13 dX11_wins_1 (by decide) (fun c1 => ?_) (fun c1 => ?_)
  · rw [if_pos c1] at h
    refine at_iconst (-1) dX11_wins_13 ic_m1 ?_
    cases h; exact at_iret rfl (Nat.le_refl _) (Nat.le_refl _) ⟨rfl, rfl⟩ dX11_wins_14
  · rw [if_neg c1] at h
    refine at_iload_n 1 dX11_wins_4 rfl ?_
    refine at_iconst 1 dX11_wins_5 ic_1 ?_
    refine at_icmp_gt 13 dX11_wins_6 (by decide) (fun c2 => ?_) (fun c2 => ?_)
    · rw [if_pos c2] at h
      refine at_iconst (-1) dX11_wins_13 ic_m1 ?_
      cases h; exact at_iret rfl (Nat.le_refl _) (Nat.le_refl _) ⟨rfl, rfl⟩ dX11_wins_14
    · rw [if_neg c2] at h
      refine at_iload_n 2 dX11_wins_9 rfl ?_
      refine at_if_ge 15 dX11_wins_10 (by decide) (fun c3 => ?_) (fun c3 => ?_)
      · rw [if_pos c3] at h
        refine at_aload_n 0 dX11_wins_15 rfl ?_
        obtain ⟨q4, hq4, h⟩ := sp_bind h
        refine at_callVi (st := []) hK mt_X11_isOver ml_X11_174 cl_X11 hg_0 (t_X11_isOver hK hq4) rfl rfl (Nat.le_of_ble_eq_true rfl) ⟨Nat.le_of_ble_eq_true rfl, Nat.le_of_ble_eq_true rfl⟩ ⟨Nat.le_refl _, Nat.le_refl _⟩ dX11_wins_16 ?_
        refine at_zeq 27 dX11_wins_19 (by decide) (fun c5 => ?_) (fun c5 => ?_)
        · rw [if_neg c5] at h
          refine at_aload_n 0 dX11_wins_27 rfl ?_
          refine at_iload_n 1 dX11_wins_28 rfl ?_
          refine at_iload_n 2 dX11_wins_29 rfl ?_
          obtain ⟨q6, hq6, h⟩ := sp_bind h
          refine at_callVi (st := []) hK mt_X11_nthWinning ml_X11_223 cl_X11 hg_0 (t_X11_nthWinning hK hq6) rfl rfl (Nat.le_of_ble_eq_true rfl) ⟨Nat.le_of_ble_eq_true rfl, Nat.le_of_ble_eq_true rfl⟩ ⟨Nat.le_refl _, Nat.le_refl _⟩ dX11_wins_30 ?_
          cases h; exact at_iret rfl (Nat.le_refl _) (Nat.le_refl _) ⟨rfl, rfl⟩ dX11_wins_33
        · rw [if_pos c5] at h
          refine at_bipush (-2) dX11_wins_22 bp_m2 ?_
          refine at_goto 33 dX11_wins_24 (by decide) ?_
          cases h; exact at_iret rfl (Nat.le_refl _) (Nat.le_refl _) ⟨rfl, rfl⟩ dX11_wins_33
      · rw [if_neg c3] at h
        refine at_iconst (-1) dX11_wins_13 ic_m1 ?_
        cases h; exact at_iret rfl (Nat.le_refl _) (Nat.le_refl _) ⟨rfl, rfl⟩ dX11_wins_14
set_option maxRecDepth 100000 in
theorem t_X7_links {D : va_G} {b : Nat} {K : State → Heap → Prop} {sa : Nat → Nat} (hK : sx_Kk b K sa) {N : Nat} {uG uN uD uR uP uL uT uA uM uH xA xB xC xD xE xF xG xH xI xJ xK xL uO : sx_C} {G : sx_H} {v1 : Int32} {v2 : Int32} {v3 : Int32} {uF : sx_C} {res : Bool × sx_C} (h : f_X7_links N v1 v2 v3 uF = some res) : sx_Runs D b K yX7_links YX7_links (sx_rm 1) [.ref (b + 16), .int v1, .int v2, .int v3] (sx_hp b uG uN uD uR uF uP uL uT uA uM uH xA xB xC xD xE xF xG xH xI xJ xK xL uO G) (sx_Ex (some (.int (sp_b res.1))) (sx_hp b uG uN uD uR (res.2) uP uL uT uA uM uH xA xB xC xD xE xF xG xH xI xJ xK xL uO G)) := by
  rw [f_X7_links] at h
  refine sx_run (by decide +kernel) rfl rfl (Nat.le_of_ble_eq_true rfl) ?_
  refine at_aload_n 0 dX7_links_0 rfl ?_
  refine at_getf cl_X7 (by decide) fl_X7_28 hg_16 rfl dX7_links_1 ?_
  refine at_iload_n 1 dX7_links_4 rfl ?_
  refine at_iconst 1 dX7_links_5 ic_1 ?_
  refine at_iload_n 2 dX7_links_6 rfl ?_
  refine at_ishl dX7_links_7 ?_
  refine at_iconst (-1) dX7_links_8 ic_m1 ?_
  refine at_ixor dX7_links_9 ?_
  refine at_iand dX7_links_10 ?_
  refine at_iload_n 3 dX7_links_11 rfl ?_
  obtain ⟨q1, hq1, h⟩ := sp_bind h
  refine at_callVi (st := []) hK mt_X0_ring ml_X7_124 cl_X0 hg_9 (t_X0_ring hK hq1) rfl rfl (Nat.le_of_ble_eq_true rfl) ⟨Nat.le_of_ble_eq_true rfl, Nat.le_of_ble_eq_true rfl⟩ ⟨Nat.le_refl _, Nat.le_refl _⟩ dX7_links_12 ?_
  refine at_iconst (-1) dX7_links_15 ic_m1 ?_
  refine at_icmp_ne 23 dX7_links_16 (by decide) (fun c2 => ?_) (fun c2 => ?_)
  · rw [if_neg c2] at h
    refine at_iconst 0 dX7_links_23 ic_0 ?_
    cases h; exact at_zret rfl rfl (Nat.le_refl _) (Nat.le_refl _) ⟨rfl, rfl⟩ dX7_links_24
  · rw [if_pos c2] at h
    refine at_iconst 1 dX7_links_19 ic_1 ?_
    refine at_goto 24 dX7_links_20 (by decide) ?_
    cases h; exact at_zret rfl rfl (Nat.le_refl _) (Nat.le_refl _) ⟨rfl, rfl⟩ dX7_links_24
set_option maxRecDepth 100000 in
theorem t_X7_reply_109 {D : va_G} {b : Nat} {K : State → Heap → Prop} {sa : Nat → Nat} (hK : sx_Kk b K sa) (N : Nat) {k79 : Int32 → Int32 → Int32 → Int32 → sx_C → Option (Int32 × sx_C)} {uG uN uD uR uP uL uT uA uM uH xA xB xC xD xE xF xG xH xI xJ xK xL uO : sx_C} {G : sx_H} (res : Int32 × sx_C) (hk79 : ∀ (v1 : Int32) (v2 : Int32) (v3 : Int32) (v4 : Int32) (uF : sx_C), k79 v1 v2 v3 v4 uF = some res → sx_At D b K YX7_reply (sx_rm 2) (sx_Ex (some (.int res.1)) (sx_hp b uG uN uD uR (res.2) uP uL uT uA uM uH xA xB xC xD xE xF xG xH xI xJ xK xL uO G)) 79 [(0, .ref (b + 16)), (1, .int v1), (2, .int v2), (3, .int v3), (4, .int v4)] [] (sx_hp b uG uN uD uR uF uP uL uT uA uM uH xA xB xC xD xE xF xG xH xI xJ xK xL uO G) 0 0) : ∀ (v1 : Int32) (v2 : Int32) (v3 : Int32) (v4 : Int32) (uF : sx_C), f_X7_reply_109 N k79 uP v1 v2 v3 v4 uF = some res → sx_At D b K YX7_reply (sx_rm 2) (sx_Ex (some (.int res.1)) (sx_hp b uG uN uD uR (res.2) uP uL uT uA uM uH xA xB xC xD xE xF xG xH xI xJ xK xL uO G)) 109 [(0, .ref (b + 16)), (1, .int v1), (2, .int v2), (3, .int v3), (4, .int v4)] [] (sx_hp b uG uN uD uR uF uP uL uT uA uM uH xA xB xC xD xE xF xG xH xI xJ xK xL uO G) 0 0 := by
  intro v1 v2 v3 v4 uF h
  rw [f_X7_reply_109] at h
  refine at_iinc 4 1 [(0, .ref (b + 16)), (1, .int v1), (2, .int v2), (3, .int v3), (4, .int (v4 + 1))] dX7_reply_109 rfl ic_1 (Nat.le_of_ble_eq_true rfl) rfl ?_
  refine at_goto 79 dX7_reply_112 (by decide) ?_
  exact hk79 _ _ _ _ _ h
set_option maxRecDepth 100000 in
theorem t_X7_reply_79 {D : va_G} {b : Nat} {K : State → Heap → Prop} {sa : Nat → Nat} (hK : sx_Kk b K sa) (N : Nat) {uG uN uD uR uP uL uT uA uM uH xA xB xC xD xE xF xG xH xI xJ xK xL uO : sx_C} {G : sx_H} (res : Int32 × sx_C) : ∀ (n0 : Nat) (v1 : Int32) (v2 : Int32) (v3 : Int32) (v4 : Int32) (uF : sx_C), f_X7_reply_79 N uP n0 v1 v2 v3 v4 uF = some res → sx_At D b K YX7_reply (sx_rm 2) (sx_Ex (some (.int res.1)) (sx_hp b uG uN uD uR (res.2) uP uL uT uA uM uH xA xB xC xD xE xF xG xH xI xJ xK xL uO G)) 79 [(0, .ref (b + 16)), (1, .int v1), (2, .int v2), (3, .int v3), (4, .int v4)] [] (sx_hp b uG uN uD uR uF uP uL uT uA uM uH xA xB xC xD xE xF xG xH xI xJ xK xL uO G) 0 0 := by
  intro n0
  induction n0 with
  | zero => intro _ _ _ _ _ h; cases h
  | succ n0 ih =>
    intro v1 v2 v3 v4 uF h
    rw [f_X7_reply_79] at h
    refine at_iload 4 dX7_reply_79 rfl ?_
    refine at_bipush 14 dX7_reply_81 bp_14 ?_
    refine at_icmp_ge 115 dX7_reply_83 (by decide) (fun c3 => ?_) (fun c3 => ?_)
    · rw [if_pos c3] at h
      refine at_bipush (-2) dX7_reply_115 bp_m2 ?_
      cases h; exact at_iret rfl (Nat.le_refl _) (Nat.le_refl _) ⟨rfl, rfl⟩ dX7_reply_117
    · rw [if_neg c3] at h
      refine at_iload_n 3 dX7_reply_86 rfl ?_
      refine at_iload 4 dX7_reply_87 rfl ?_
      obtain ⟨q4, hq4, h⟩ := sp_bind h
      refine at_callSi (st := []) hK mt_X11_has ml_X7_90 (t_X11_has hK hq4) rfl rfl (Nat.le_of_ble_eq_true rfl) ⟨Nat.le_of_ble_eq_true rfl, Nat.le_of_ble_eq_true rfl⟩ ⟨Nat.le_refl _, Nat.le_refl _⟩ dX7_reply_89 ?_
      refine at_zeq 109 dX7_reply_92 (by decide) (fun c5 => ?_) (fun c5 => ?_)
      · rw [if_neg c5] at h
        exact t_X7_reply_109 hK N _ ih _ _ _ _ _ h
      · rw [if_pos c5] at h
        refine at_aload_n 0 dX7_reply_95 rfl ?_
        refine at_iload_n 2 dX7_reply_96 rfl ?_
        refine at_iload_n 1 dX7_reply_97 rfl ?_
        refine at_iload 4 dX7_reply_98 rfl ?_
        obtain ⟨q6, hq6, h⟩ := sp_bind h
        refine at_callVi (st := []) hK mt_X7_links ml_X7_130 cl_X7 hg_16 (t_X7_links hK hq6) rfl rfl (Nat.le_of_ble_eq_true rfl) ⟨Nat.le_of_ble_eq_true rfl, Nat.le_of_ble_eq_true rfl⟩ ⟨Nat.le_refl _, Nat.le_refl _⟩ dX7_reply_100 ?_
        refine at_zeq 109 dX7_reply_103 (by decide) (fun c7 => ?_) (fun c7 => ?_)
        · rw [if_neg c7] at h
          exact t_X7_reply_109 hK N _ ih _ _ _ _ _ h
        · rw [if_pos c7] at h
          refine at_iload 4 dX7_reply_106 rfl ?_
          cases h; exact at_iret rfl (Nat.le_refl _) (Nat.le_refl _) ⟨rfl, rfl⟩ dX7_reply_108
set_option maxRecDepth 100000 in
theorem t_X7_reply_75 {D : va_G} {b : Nat} {K : State → Heap → Prop} {sa : Nat → Nat} (hK : sx_Kk b K sa) (N : Nat) {uG uN uD uR uP uL uT uA uM uH xA xB xC xD xE xF xG xH xI xJ xK xL uO : sx_C} {G : sx_H} (res : Int32 × sx_C) : ∀ (v1 : Int32) (v2 : Int32) (s0 : Int32) (uF : sx_C), f_X7_reply_75 N uP v1 v2 s0 uF = some res → sx_At D b K YX7_reply (sx_rm 2) (sx_Ex (some (.int res.1)) (sx_hp b uG uN uD uR (res.2) uP uL uT uA uM uH xA xB xC xD xE xF xG xH xI xJ xK xL uO G)) 75 [(0, .ref (b + 16)), (1, .int v1), (2, .int v2)] [.int s0] (sx_hp b uG uN uD uR uF uP uL uT uA uM uH xA xB xC xD xE xF xG xH xI xJ xK xL uO G) 0 0 := by
  intro v1 v2 s0 uF h
  rw [f_X7_reply_75] at h
  refine at_istore_n [(0, .ref (b + 16)), (1, .int v1), (2, .int v2), (3, .int s0)] dX7_reply_75 (Nat.le_of_ble_eq_true rfl) rfl ?_
  refine at_iconst 0 dX7_reply_76 ic_0 ?_
  refine at_istore [(0, .ref (b + 16)), (1, .int v1), (2, .int v2), (3, .int s0), (4, .int 0)] dX7_reply_77 (Nat.le_of_ble_eq_true rfl) rfl ?_
  exact t_X7_reply_79 hK N _ N _ _ _ _ _ h
set_option maxRecDepth 100000 in
theorem t_X7_reply_52 {D : va_G} {b : Nat} {K : State → Heap → Prop} {sa : Nat → Nat} (hK : sx_Kk b K sa) (N : Nat) {uG uN uD uR uP uL uT uA uM uH xA xB xC xD xE xF xG xH xI xJ xK xL uO : sx_C} {G : sx_H} (res : Int32 × sx_C) : ∀ (v1 : Int32) (s0 : Int32) (uF : sx_C), f_X7_reply_52 N uP v1 s0 uF = some res → sx_At D b K YX7_reply (sx_rm 2) (sx_Ex (some (.int res.1)) (sx_hp b uG uN uD uR (res.2) uP uL uT uA uM uH xA xB xC xD xE xF xG xH xI xJ xK xL uO G)) 52 [(0, .ref (b + 16)), (1, .int v1)] [.int s0] (sx_hp b uG uN uD uR uF uP uL uT uA uM uH xA xB xC xD xE xF xG xH xI xJ xK xL uO G) 0 0 := by
  intro v1 s0 uF h
  rw [f_X7_reply_52] at h
  refine at_istore_n [(0, .ref (b + 16)), (1, .int v1), (2, .int s0)] dX7_reply_52 (Nat.le_of_ble_eq_true rfl) rfl ?_
  refine at_aload_n 0 dX7_reply_53 rfl ?_
  refine at_getf cl_X7 (by decide) fl_X7_18 hg_16 rfl dX7_reply_54 ?_
  refine at_iload_n 1 dX7_reply_57 rfl ?_
  obtain ⟨q1, hq1, h⟩ := sp_bind h
  refine at_callSi (st := []) hK mt_X11_has ml_X7_90 (t_X11_has hK hq1) rfl rfl (Nat.le_of_ble_eq_true rfl) ⟨Nat.le_of_ble_eq_true rfl, Nat.le_of_ble_eq_true rfl⟩ ⟨Nat.le_refl _, Nat.le_refl _⟩ dX7_reply_58 ?_
  refine at_zeq 71 dX7_reply_61 (by decide) (fun c2 => ?_) (fun c2 => ?_)
  · rw [if_neg c2] at h
    refine at_aload_n 0 dX7_reply_71 rfl ?_
    refine at_getf cl_X7 (by decide) fl_X7_18 hg_16 rfl dX7_reply_72 ?_
    exact t_X7_reply_75 hK N _ _ _ _ _ h
  · rw [if_pos c2] at h
    refine at_aload_n 0 dX7_reply_64 rfl ?_
    refine at_getf cl_X7 (by decide) fl_X7_21 hg_16 rfl dX7_reply_65 ?_
    refine at_goto 75 dX7_reply_68 (by decide) ?_
    exact t_X7_reply_75 hK N _ _ _ _ _ h
set_option maxRecDepth 100000 in
theorem t_X7_reply {D : va_G} {b : Nat} {K : State → Heap → Prop} {sa : Nat → Nat} (hK : sx_Kk b K sa) {N : Nat} {uG uN uD uR uP uL uT uA uM uH xA xB xC xD xE xF xG xH xI xJ xK xL uO : sx_C} {G : sx_H} {v1 : Int32} {uF : sx_C} {res : Int32 × sx_C} (h : f_X7_reply N uP v1 uF = some res) : sx_Runs D b K yX7_reply YX7_reply (sx_rm 2) [.ref (b + 16), .int v1] (sx_hp b uG uN uD uR uF uP uL uT uA uM uH xA xB xC xD xE xF xG xH xI xJ xK xL uO G) (sx_Ex (some (.int res.1)) (sx_hp b uG uN uD uR (res.2) uP uL uT uA uM uH xA xB xC xD xE xF xG xH xI xJ xK xL uO G)) := by
  rw [f_X7_reply] at h
  refine sx_run (by decide +kernel) rfl rfl (Nat.le_of_ble_eq_true rfl) ?_
  refine at_aload_n 0 dX7_reply_0 rfl ?_
  refine at_getf cl_X7 (by decide) fl_X7_18 hg_16 rfl dX7_reply_1 ?_
  refine at_aload_n 0 dX7_reply_4 rfl ?_
  refine at_getf cl_X7 (by decide) fl_X7_21 hg_16 rfl dX7_reply_5 ?_
  refine at_ior dX7_reply_8 ?_
  refine at_iload_n 1 dX7_reply_9 rfl ?_
  obtain ⟨q8, hq8, h⟩ := sp_bind h
  refine at_callSi (st := []) hK mt_X11_has ml_X7_90 (t_X11_has hK hq8) rfl rfl (Nat.le_of_ble_eq_true rfl) ⟨Nat.le_of_ble_eq_true rfl, Nat.le_of_ble_eq_true rfl⟩ ⟨Nat.le_refl _, Nat.le_refl _⟩ dX7_reply_10 ?_
  refine at_zne 30 dX7_reply_13 (by decide) (fun c9 => ?_) (fun c9 => ?_)
  · rw [if_pos c9] at h
    refine at_aload_n 0 dX7_reply_30 rfl ?_
    refine at_getf cl_X7 (by decide) fl_X7_18 hg_16 rfl dX7_reply_31 ?_
    refine at_iload_n 1 dX7_reply_34 rfl ?_
    obtain ⟨q10, hq10, h⟩ := sp_bind h
    refine at_callSi (st := []) hK mt_X11_has ml_X7_90 (t_X11_has hK hq10) rfl rfl (Nat.le_of_ble_eq_true rfl) ⟨Nat.le_of_ble_eq_true rfl, Nat.le_of_ble_eq_true rfl⟩ ⟨Nat.le_refl _, Nat.le_refl _⟩ dX7_reply_35 ?_
    refine at_zeq 48 dX7_reply_38 (by decide) (fun c11 => ?_) (fun c11 => ?_)
    · rw [if_neg c11] at h
      refine at_aload_n 0 dX7_reply_48 rfl ?_
      refine at_getf cl_X7 (by decide) fl_X7_21 hg_16 rfl dX7_reply_49 ?_
      exact t_X7_reply_52 hK N _ _ _ _ h
    · rw [if_pos c11] at h
      refine at_aload_n 0 dX7_reply_41 rfl ?_
      refine at_getf cl_X7 (by decide) fl_X7_18 hg_16 rfl dX7_reply_42 ?_
      refine at_goto 52 dX7_reply_45 (by decide) ?_
      exact t_X7_reply_52 hK N _ _ _ _ h
  · rw [if_neg c9] at h
    refine at_aload_n 0 dX7_reply_16 rfl ?_
    refine at_getf cl_X7 (by decide) fl_X7_18 hg_16 rfl dX7_reply_17 ?_
    refine at_aload_n 0 dX7_reply_20 rfl ?_
    refine at_getf cl_X7 (by decide) fl_X7_21 hg_16 rfl dX7_reply_21 ?_
    refine at_ior dX7_reply_24 ?_
    refine at_iconst 0 dX7_reply_25 ic_0 ?_
    obtain ⟨q12, hq12, h⟩ := sp_bind h
    refine at_callSi (st := []) hK mt_X11_nth ml_X7_127 (t_X11_nth hK hq12) rfl rfl (Nat.le_of_ble_eq_true rfl) ⟨Nat.le_of_ble_eq_true rfl, Nat.le_of_ble_eq_true rfl⟩ ⟨Nat.le_refl _, Nat.le_refl _⟩ dX7_reply_26 ?_
    cases h; exact at_iret rfl (Nat.le_refl _) (Nat.le_refl _) ⟨rfl, rfl⟩ dX7_reply_29
set_option maxRecDepth 100000 in
theorem t_X11_answer {D : va_G} {b : Nat} {K : State → Heap → Prop} {sa : Nat → Nat} (hK : sx_Kk b K sa) {N : Nat} {uG uN uD uR uL uT uA uM uH xA xB xC xD xE xF xG xH xI xJ xK xL uO : sx_C} {G : sx_H} {v1 : Int32} {uF : sx_C} {uP : sx_C} {res : Int32 × sx_C × sx_C} (h : f_X11_answer N uG uN v1 uF uP = some res) : sx_Runs D b K yX11_answer YX11_answer (sx_rm 5) [.ref (b + 0), .int v1] (sx_hp b uG uN uD uR uF uP uL uT uA uM uH xA xB xC xD xE xF xG xH xI xJ xK xL uO G) (sx_Ex (some (.int res.1)) (sx_hp b uG uN uD uR (res.2.1) (res.2.2) uL uT uA uM uH xA xB xC xD xE xF xG xH xI xJ xK xL uO G)) := by
  rw [f_X11_answer] at h
  refine sx_run (by decide +kernel) rfl rfl (Nat.le_of_ble_eq_true rfl) ?_
  refine at_aload_n 0 dX11_answer_0 rfl ?_
  refine at_getf cl_X11 (by decide) fl_X11_16 hg_0 rfl dX11_answer_1 ?_
  refine at_iload_n 1 dX11_answer_4 rfl ?_
  obtain ⟨q1, hq1, h⟩ := sp_bind h
  refine at_callVi (st := []) hK mt_X6_isLine ml_X11_122 cl_X6 hg_2 (t_X6_isLine hK hq1) rfl rfl (Nat.le_of_ble_eq_true rfl) ⟨Nat.le_of_ble_eq_true rfl, Nat.le_of_ble_eq_true rfl⟩ ⟨Nat.le_refl _, Nat.le_refl _⟩ dX11_answer_5 ?_
  refine at_zne 13 dX11_answer_8 (by decide) (fun c2 => ?_) (fun c2 => ?_)
  · rw [if_pos c2] at h
    refine at_aload_n 0 dX11_answer_13 rfl ?_
    refine at_iload_n 1 dX11_answer_14 rfl ?_
    obtain ⟨q3, hq3, h⟩ := sp_bind h
    refine at_callVi (st := []) hK mt_X11_isOpen ml_X11_171 cl_X11 hg_0 (t_X11_isOpen hK hq3) rfl rfl (Nat.le_of_ble_eq_true rfl) ⟨Nat.le_of_ble_eq_true rfl, Nat.le_of_ble_eq_true rfl⟩ ⟨Nat.le_refl _, Nat.le_refl _⟩ dX11_answer_15 ?_
    refine at_zne 24 dX11_answer_18 (by decide) (fun c4 => ?_) (fun c4 => ?_)
    · rw [if_pos c4] at h
      refine at_aload_n 0 dX11_answer_24 rfl ?_
      refine at_getf cl_X11 (by decide) fl_X11_51 hg_0 rfl dX11_answer_25 ?_
      refine at_aload_n 0 dX11_answer_28 rfl ?_
      refine at_getf cl_X11 (by decide) fl_X11_91 hg_0 rfl dX11_answer_29 ?_
      refine at_aload_n 0 dX11_answer_32 rfl ?_
      refine at_getf cl_X11 (by decide) fl_X11_94 hg_0 rfl dX11_answer_33 ?_
      obtain ⟨q5, hq5, h⟩ := sp_bind h
      refine at_callVi (st := []) hK mt_X7_find ml_X11_204 cl_X7 hg_16 (t_X7_find hK hq5) rfl rfl (Nat.le_of_ble_eq_true rfl) ⟨Nat.le_of_ble_eq_true rfl, Nat.le_of_ble_eq_true rfl⟩ ⟨Nat.le_refl _, Nat.le_refl _⟩ dX11_answer_36 ?_
      refine at_zeq 53 dX11_answer_39 (by decide) (fun c6 => ?_) (fun c6 => ?_)
      · rw [if_neg c6] at h
        refine at_bipush (-3) dX11_answer_53 bp_m3 ?_
        cases h; exact at_iret rfl (Nat.le_refl _) (Nat.le_refl _) ⟨rfl, rfl⟩ dX11_answer_55
      · rw [if_pos c6] at h
        refine at_aload_n 0 dX11_answer_42 rfl ?_
        refine at_getf cl_X11 (by decide) fl_X11_51 hg_0 rfl dX11_answer_43 ?_
        refine at_iload_n 1 dX11_answer_46 rfl ?_
        obtain ⟨q7, hq7, h⟩ := sp_bind h
        refine at_callVi (st := []) hK mt_X7_reply ml_X11_226 cl_X7 hg_16 (t_X7_reply hK hq7) rfl rfl (Nat.le_of_ble_eq_true rfl) ⟨Nat.le_of_ble_eq_true rfl, Nat.le_of_ble_eq_true rfl⟩ ⟨Nat.le_refl _, Nat.le_refl _⟩ dX11_answer_47 ?_
        refine at_goto 55 dX11_answer_50 (by decide) ?_
        cases h; exact at_iret rfl (Nat.le_refl _) (Nat.le_refl _) ⟨rfl, rfl⟩ dX11_answer_55
    · rw [if_neg c4] at h
      refine at_bipush (-2) dX11_answer_21 bp_m2 ?_
      cases h; exact at_iret rfl (Nat.le_refl _) (Nat.le_refl _) ⟨rfl, rfl⟩ dX11_answer_23
  · rw [if_neg c2] at h
    refine at_iconst (-1) dX11_answer_11 ic_m1 ?_
    cases h; exact at_iret rfl (Nat.le_refl _) (Nat.le_refl _) ⟨rfl, rfl⟩ dX11_answer_12
set_option maxRecDepth 100000 in
theorem t_X7_swapFor_109 {D : va_G} {b : Nat} {K : State → Heap → Prop} {sa : Nat → Nat} (hK : sx_Kk b K sa) (N : Nat) {k68 : Int32 → Int32 → Int32 → Int32 → sx_C → Option (Int32 × sx_C)} {uG uN uD uR uP uL uT uA uM uH xA xB xC xD xE xF xG xH xI xJ xK xL uO : sx_C} {G : sx_H} (res : Int32 × sx_C) (hk68 : ∀ (v1 : Int32) (v2 : Int32) (v3 : Int32) (v4 : Int32) (uF : sx_C), k68 v1 v2 v3 v4 uF = some res → sx_At D b K YX7_swapFor (sx_rm 2) (sx_Ex (some (.int res.1)) (sx_hp b uG uN uD uR (res.2) uP uL uT uA uM uH xA xB xC xD xE xF xG xH xI xJ xK xL uO G)) 68 [(0, .ref (b + 16)), (1, .int v1), (2, .int v2), (3, .int v3), (4, .int v4)] [] (sx_hp b uG uN uD uR uF uP uL uT uA uM uH xA xB xC xD xE xF xG xH xI xJ xK xL uO G) 0 0) : ∀ (v1 : Int32) (v2 : Int32) (v3 : Int32) (v4 : Int32) (uF : sx_C), f_X7_swapFor_109 N k68 uP v1 v2 v3 v4 uF = some res → sx_At D b K YX7_swapFor (sx_rm 2) (sx_Ex (some (.int res.1)) (sx_hp b uG uN uD uR (res.2) uP uL uT uA uM uH xA xB xC xD xE xF xG xH xI xJ xK xL uO G)) 109 [(0, .ref (b + 16)), (1, .int v1), (2, .int v2), (3, .int v3), (4, .int v4)] [] (sx_hp b uG uN uD uR uF uP uL uT uA uM uH xA xB xC xD xE xF xG xH xI xJ xK xL uO G) 0 0 := by
  intro v1 v2 v3 v4 uF h
  rw [f_X7_swapFor_109] at h
  refine at_iinc 4 1 [(0, .ref (b + 16)), (1, .int v1), (2, .int v2), (3, .int v3), (4, .int (v4 + 1))] dX7_swapFor_109 rfl ic_1 (Nat.le_of_ble_eq_true rfl) rfl ?_
  refine at_goto 68 dX7_swapFor_112 (by decide) ?_
  exact hk68 _ _ _ _ _ h
set_option maxRecDepth 100000 in
theorem t_X7_swapFor_68 {D : va_G} {b : Nat} {K : State → Heap → Prop} {sa : Nat → Nat} (hK : sx_Kk b K sa) (N : Nat) {uG uN uD uR uP uL uT uA uM uH xA xB xC xD xE xF xG xH xI xJ xK xL uO : sx_C} {G : sx_H} (res : Int32 × sx_C) : ∀ (n0 : Nat) (v1 : Int32) (v2 : Int32) (v3 : Int32) (v4 : Int32) (uF : sx_C), f_X7_swapFor_68 N uP n0 v1 v2 v3 v4 uF = some res → sx_At D b K YX7_swapFor (sx_rm 2) (sx_Ex (some (.int res.1)) (sx_hp b uG uN uD uR (res.2) uP uL uT uA uM uH xA xB xC xD xE xF xG xH xI xJ xK xL uO G)) 68 [(0, .ref (b + 16)), (1, .int v1), (2, .int v2), (3, .int v3), (4, .int v4)] [] (sx_hp b uG uN uD uR uF uP uL uT uA uM uH xA xB xC xD xE xF xG xH xI xJ xK xL uO G) 0 0 := by
  intro n0
  induction n0 with
  | zero => intro _ _ _ _ _ h; cases h
  | succ n0 ih =>
    intro v1 v2 v3 v4 uF h
    rw [f_X7_swapFor_68] at h
    refine at_iload 4 dX7_swapFor_68 rfl ?_
    refine at_bipush 14 dX7_swapFor_70 bp_14 ?_
    refine at_icmp_ge 115 dX7_swapFor_72 (by decide) (fun c3 => ?_) (fun c3 => ?_)
    · rw [if_pos c3] at h
      refine at_bipush (-2) dX7_swapFor_115 bp_m2 ?_
      cases h; exact at_iret rfl (Nat.le_refl _) (Nat.le_refl _) ⟨rfl, rfl⟩ dX7_swapFor_117
    · rw [if_neg c3] at h
      refine at_iload_n 3 dX7_swapFor_75 rfl ?_
      refine at_iload 4 dX7_swapFor_76 rfl ?_
      obtain ⟨q4, hq4, h⟩ := sp_bind h
      refine at_callSi (st := []) hK mt_X11_has ml_X7_90 (t_X11_has hK hq4) rfl rfl (Nat.le_of_ble_eq_true rfl) ⟨Nat.le_of_ble_eq_true rfl, Nat.le_of_ble_eq_true rfl⟩ ⟨Nat.le_refl _, Nat.le_refl _⟩ dX7_swapFor_78 ?_
      refine at_zeq 109 dX7_swapFor_81 (by decide) (fun c5 => ?_) (fun c5 => ?_)
      · rw [if_neg c5] at h
        exact t_X7_swapFor_109 hK N _ ih _ _ _ _ _ h
      · rw [if_pos c5] at h
        refine at_aload_n 0 dX7_swapFor_84 rfl ?_
        refine at_iload_n 2 dX7_swapFor_85 rfl ?_
        refine at_iload_n 1 dX7_swapFor_86 rfl ?_
        refine at_iload 4 dX7_swapFor_87 rfl ?_
        obtain ⟨q6, hq6, h⟩ := sp_bind h
        refine at_callVi (st := []) hK mt_X7_links ml_X7_130 cl_X7 hg_16 (t_X7_links hK hq6) rfl rfl (Nat.le_of_ble_eq_true rfl) ⟨Nat.le_of_ble_eq_true rfl, Nat.le_of_ble_eq_true rfl⟩ ⟨Nat.le_refl _, Nat.le_refl _⟩ dX7_swapFor_89 ?_
        refine at_zeq 109 dX7_swapFor_92 (by decide) (fun c7 => ?_) (fun c7 => ?_)
        · rw [if_neg c7] at h
          exact t_X7_swapFor_109 hK N _ ih _ _ _ _ _ h
        · rw [if_pos c7] at h
          refine at_aload_n 0 dX7_swapFor_95 rfl ?_
          refine at_iload_n 3 dX7_swapFor_96 rfl ?_
          refine at_iload 4 dX7_swapFor_97 rfl ?_
          refine at_iload_n 1 dX7_swapFor_99 rfl ?_
          obtain ⟨q8, hq8, h⟩ := sp_bind h
          refine at_callVi (st := []) hK mt_X7_links ml_X7_130 cl_X7 hg_16 (t_X7_links hK hq8) rfl rfl (Nat.le_of_ble_eq_true rfl) ⟨Nat.le_of_ble_eq_true rfl, Nat.le_of_ble_eq_true rfl⟩ ⟨Nat.le_refl _, Nat.le_refl _⟩ dX7_swapFor_100 ?_
          refine at_zeq 109 dX7_swapFor_103 (by decide) (fun c9 => ?_) (fun c9 => ?_)
          · rw [if_neg c9] at h
            exact t_X7_swapFor_109 hK N _ ih _ _ _ _ _ h
          · rw [if_pos c9] at h
            refine at_iload 4 dX7_swapFor_106 rfl ?_
            cases h; exact at_iret rfl (Nat.le_refl _) (Nat.le_refl _) ⟨rfl, rfl⟩ dX7_swapFor_108
set_option maxRecDepth 100000 in
theorem t_X7_swapFor_64 {D : va_G} {b : Nat} {K : State → Heap → Prop} {sa : Nat → Nat} (hK : sx_Kk b K sa) (N : Nat) {uG uN uD uR uP uL uT uA uM uH xA xB xC xD xE xF xG xH xI xJ xK xL uO : sx_C} {G : sx_H} (res : Int32 × sx_C) : ∀ (v1 : Int32) (v2 : Int32) (s0 : Int32) (uF : sx_C), f_X7_swapFor_64 N uP v1 v2 s0 uF = some res → sx_At D b K YX7_swapFor (sx_rm 2) (sx_Ex (some (.int res.1)) (sx_hp b uG uN uD uR (res.2) uP uL uT uA uM uH xA xB xC xD xE xF xG xH xI xJ xK xL uO G)) 64 [(0, .ref (b + 16)), (1, .int v1), (2, .int v2)] [.int s0] (sx_hp b uG uN uD uR uF uP uL uT uA uM uH xA xB xC xD xE xF xG xH xI xJ xK xL uO G) 0 0 := by
  intro v1 v2 s0 uF h
  rw [f_X7_swapFor_64] at h
  refine at_istore_n [(0, .ref (b + 16)), (1, .int v1), (2, .int v2), (3, .int s0)] dX7_swapFor_64 (Nat.le_of_ble_eq_true rfl) rfl ?_
  refine at_iconst 0 dX7_swapFor_65 ic_0 ?_
  refine at_istore [(0, .ref (b + 16)), (1, .int v1), (2, .int v2), (3, .int s0), (4, .int 0)] dX7_swapFor_66 (Nat.le_of_ble_eq_true rfl) rfl ?_
  exact t_X7_swapFor_68 hK N _ N _ _ _ _ _ h
set_option maxRecDepth 100000 in
theorem t_X7_swapFor_41 {D : va_G} {b : Nat} {K : State → Heap → Prop} {sa : Nat → Nat} (hK : sx_Kk b K sa) (N : Nat) {uG uN uD uR uP uL uT uA uM uH xA xB xC xD xE xF xG xH xI xJ xK xL uO : sx_C} {G : sx_H} (res : Int32 × sx_C) : ∀ (v1 : Int32) (s0 : Int32) (uF : sx_C), f_X7_swapFor_41 N uP v1 s0 uF = some res → sx_At D b K YX7_swapFor (sx_rm 2) (sx_Ex (some (.int res.1)) (sx_hp b uG uN uD uR (res.2) uP uL uT uA uM uH xA xB xC xD xE xF xG xH xI xJ xK xL uO G)) 41 [(0, .ref (b + 16)), (1, .int v1)] [.int s0] (sx_hp b uG uN uD uR uF uP uL uT uA uM uH xA xB xC xD xE xF xG xH xI xJ xK xL uO G) 0 0 := by
  intro v1 s0 uF h
  rw [f_X7_swapFor_41] at h
  refine at_istore_n [(0, .ref (b + 16)), (1, .int v1), (2, .int s0)] dX7_swapFor_41 (Nat.le_of_ble_eq_true rfl) rfl ?_
  refine at_aload_n 0 dX7_swapFor_42 rfl ?_
  refine at_getf cl_X7 (by decide) fl_X7_18 hg_16 rfl dX7_swapFor_43 ?_
  refine at_iload_n 1 dX7_swapFor_46 rfl ?_
  obtain ⟨q1, hq1, h⟩ := sp_bind h
  refine at_callSi (st := []) hK mt_X11_has ml_X7_90 (t_X11_has hK hq1) rfl rfl (Nat.le_of_ble_eq_true rfl) ⟨Nat.le_of_ble_eq_true rfl, Nat.le_of_ble_eq_true rfl⟩ ⟨Nat.le_refl _, Nat.le_refl _⟩ dX7_swapFor_47 ?_
  refine at_zeq 60 dX7_swapFor_50 (by decide) (fun c2 => ?_) (fun c2 => ?_)
  · rw [if_neg c2] at h
    refine at_aload_n 0 dX7_swapFor_60 rfl ?_
    refine at_getf cl_X7 (by decide) fl_X7_18 hg_16 rfl dX7_swapFor_61 ?_
    exact t_X7_swapFor_64 hK N _ _ _ _ _ h
  · rw [if_pos c2] at h
    refine at_aload_n 0 dX7_swapFor_53 rfl ?_
    refine at_getf cl_X7 (by decide) fl_X7_21 hg_16 rfl dX7_swapFor_54 ?_
    refine at_goto 64 dX7_swapFor_57 (by decide) ?_
    exact t_X7_swapFor_64 hK N _ _ _ _ _ h
set_option maxRecDepth 100000 in
theorem t_X7_swapFor {D : va_G} {b : Nat} {K : State → Heap → Prop} {sa : Nat → Nat} (hK : sx_Kk b K sa) {N : Nat} {uG uN uD uR uP uL uT uA uM uH xA xB xC xD xE xF xG xH xI xJ xK xL uO : sx_C} {G : sx_H} {v1 : Int32} {uF : sx_C} {res : Int32 × sx_C} (h : f_X7_swapFor N uP v1 uF = some res) : sx_Runs D b K yX7_swapFor YX7_swapFor (sx_rm 2) [.ref (b + 16), .int v1] (sx_hp b uG uN uD uR uF uP uL uT uA uM uH xA xB xC xD xE xF xG xH xI xJ xK xL uO G) (sx_Ex (some (.int res.1)) (sx_hp b uG uN uD uR (res.2) uP uL uT uA uM uH xA xB xC xD xE xF xG xH xI xJ xK xL uO G)) := by
  rw [f_X7_swapFor] at h
  refine sx_run (by decide +kernel) rfl rfl (Nat.le_of_ble_eq_true rfl) ?_
  refine at_aload_n 0 dX7_swapFor_0 rfl ?_
  refine at_getf cl_X7 (by decide) fl_X7_18 hg_16 rfl dX7_swapFor_1 ?_
  refine at_aload_n 0 dX7_swapFor_4 rfl ?_
  refine at_getf cl_X7 (by decide) fl_X7_21 hg_16 rfl dX7_swapFor_5 ?_
  refine at_ior dX7_swapFor_8 ?_
  refine at_iload_n 1 dX7_swapFor_9 rfl ?_
  obtain ⟨q10, hq10, h⟩ := sp_bind h
  refine at_callSi (st := []) hK mt_X11_has ml_X7_90 (t_X11_has hK hq10) rfl rfl (Nat.le_of_ble_eq_true rfl) ⟨Nat.le_of_ble_eq_true rfl, Nat.le_of_ble_eq_true rfl⟩ ⟨Nat.le_refl _, Nat.le_refl _⟩ dX7_swapFor_10 ?_
  refine at_zne 19 dX7_swapFor_13 (by decide) (fun c11 => ?_) (fun c11 => ?_)
  · rw [if_pos c11] at h
    refine at_aload_n 0 dX7_swapFor_19 rfl ?_
    refine at_getf cl_X7 (by decide) fl_X7_18 hg_16 rfl dX7_swapFor_20 ?_
    refine at_iload_n 1 dX7_swapFor_23 rfl ?_
    obtain ⟨q12, hq12, h⟩ := sp_bind h
    refine at_callSi (st := []) hK mt_X11_has ml_X7_90 (t_X11_has hK hq12) rfl rfl (Nat.le_of_ble_eq_true rfl) ⟨Nat.le_of_ble_eq_true rfl, Nat.le_of_ble_eq_true rfl⟩ ⟨Nat.le_refl _, Nat.le_refl _⟩ dX7_swapFor_24 ?_
    refine at_zeq 37 dX7_swapFor_27 (by decide) (fun c13 => ?_) (fun c13 => ?_)
    · rw [if_neg c13] at h
      refine at_aload_n 0 dX7_swapFor_37 rfl ?_
      refine at_getf cl_X7 (by decide) fl_X7_21 hg_16 rfl dX7_swapFor_38 ?_
      exact t_X7_swapFor_41 hK N _ _ _ _ h
    · rw [if_pos c13] at h
      refine at_aload_n 0 dX7_swapFor_30 rfl ?_
      refine at_getf cl_X7 (by decide) fl_X7_18 hg_16 rfl dX7_swapFor_31 ?_
      refine at_goto 41 dX7_swapFor_34 (by decide) ?_
      exact t_X7_swapFor_41 hK N _ _ _ _ h
  · rw [if_neg c11] at h
    refine at_bipush (-2) dX7_swapFor_16 bp_m2 ?_
    cases h; exact at_iret rfl (Nat.le_refl _) (Nat.le_refl _) ⟨rfl, rfl⟩ dX7_swapFor_18
set_option maxRecDepth 100000 in
theorem t_X11_exchange {D : va_G} {b : Nat} {K : State → Heap → Prop} {sa : Nat → Nat} (hK : sx_Kk b K sa) {N : Nat} {uG uN uD uR uL uT uA uM uH xA xB xC xD xE xF xG xH xI xJ xK xL uO : sx_C} {G : sx_H} {v1 : Int32} {uF : sx_C} {uP : sx_C} {res : Int32 × sx_C × sx_C} (h : f_X11_exchange N uG uN v1 uF uP = some res) : sx_Runs D b K yX11_exchange YX11_exchange (sx_rm 5) [.ref (b + 0), .int v1] (sx_hp b uG uN uD uR uF uP uL uT uA uM uH xA xB xC xD xE xF xG xH xI xJ xK xL uO G) (sx_Ex (some (.int res.1)) (sx_hp b uG uN uD uR (res.2.1) (res.2.2) uL uT uA uM uH xA xB xC xD xE xF xG xH xI xJ xK xL uO G)) := by
  rw [f_X11_exchange] at h
  refine sx_run (by decide +kernel) rfl rfl (Nat.le_of_ble_eq_true rfl) ?_
  refine at_aload_n 0 dX11_exchange_0 rfl ?_
  refine at_getf cl_X11 (by decide) fl_X11_16 hg_0 rfl dX11_exchange_1 ?_
  refine at_iload_n 1 dX11_exchange_4 rfl ?_
  obtain ⟨q1, hq1, h⟩ := sp_bind h
  refine at_callVi (st := []) hK mt_X6_isLine ml_X11_122 cl_X6 hg_2 (t_X6_isLine hK hq1) rfl rfl (Nat.le_of_ble_eq_true rfl) ⟨Nat.le_of_ble_eq_true rfl, Nat.le_of_ble_eq_true rfl⟩ ⟨Nat.le_refl _, Nat.le_refl _⟩ dX11_exchange_5 ?_
  refine at_zne 13 dX11_exchange_8 (by decide) (fun c2 => ?_) (fun c2 => ?_)
  · rw [if_pos c2] at h
    refine at_aload_n 0 dX11_exchange_13 rfl ?_
    refine at_getf cl_X11 (by decide) fl_X11_51 hg_0 rfl dX11_exchange_14 ?_
    refine at_aload_n 0 dX11_exchange_17 rfl ?_
    refine at_getf cl_X11 (by decide) fl_X11_91 hg_0 rfl dX11_exchange_18 ?_
    refine at_aload_n 0 dX11_exchange_21 rfl ?_
    refine at_getf cl_X11 (by decide) fl_X11_94 hg_0 rfl dX11_exchange_22 ?_
    obtain ⟨q3, hq3, h⟩ := sp_bind h
    refine at_callVi (st := []) hK mt_X7_find ml_X11_204 cl_X7 hg_16 (t_X7_find hK hq3) rfl rfl (Nat.le_of_ble_eq_true rfl) ⟨Nat.le_of_ble_eq_true rfl, Nat.le_of_ble_eq_true rfl⟩ ⟨Nat.le_refl _, Nat.le_refl _⟩ dX11_exchange_25 ?_
    refine at_zeq 42 dX11_exchange_28 (by decide) (fun c4 => ?_) (fun c4 => ?_)
    · rw [if_neg c4] at h
      refine at_bipush (-3) dX11_exchange_42 bp_m3 ?_
      cases h; exact at_iret rfl (Nat.le_refl _) (Nat.le_refl _) ⟨rfl, rfl⟩ dX11_exchange_44
    · rw [if_pos c4] at h
      refine at_aload_n 0 dX11_exchange_31 rfl ?_
      refine at_getf cl_X11 (by decide) fl_X11_51 hg_0 rfl dX11_exchange_32 ?_
      refine at_iload_n 1 dX11_exchange_35 rfl ?_
      obtain ⟨q5, hq5, h⟩ := sp_bind h
      refine at_callVi (st := []) hK mt_X7_swapFor ml_X11_229 cl_X7 hg_16 (t_X7_swapFor hK hq5) rfl rfl (Nat.le_of_ble_eq_true rfl) ⟨Nat.le_of_ble_eq_true rfl, Nat.le_of_ble_eq_true rfl⟩ ⟨Nat.le_refl _, Nat.le_refl _⟩ dX11_exchange_36 ?_
      refine at_goto 44 dX11_exchange_39 (by decide) ?_
      cases h; exact at_iret rfl (Nat.le_refl _) (Nat.le_refl _) ⟨rfl, rfl⟩ dX11_exchange_44
  · rw [if_neg c2] at h
    refine at_iconst (-1) dX11_exchange_11 ic_m1 ?_
    cases h; exact at_iret rfl (Nat.le_refl _) (Nat.le_refl _) ⟨rfl, rfl⟩ dX11_exchange_12
set_option maxRecDepth 100000 in
theorem t_X1_playOn_132 {D : va_G} {b : Nat} {K : State → Heap → Prop} {sa : Nat → Nat} (hK : sx_Kk b K sa) (N : Nat) {k12 : Int32 → Int32 → Int32 → Int32 → Int32 → sx_C → Option (Int32 × sx_C)} {uG uN uD uR uP uL uT uA uM uH xA xB xC xD xE xF xG xH xI xJ xK xL uO : sx_C} {G : sx_H} (res : Int32 × sx_C) (hk12 : ∀ (v4 : Int32) (v5 : Int32) (v6 : Int32) (v7 : Int32) (v8 : Int32) (uF : sx_C), k12 v4 v5 v6 v7 v8 uF = some res → sx_At D b K YX1_playOn (sx_rm 5) (sx_Ex (some (.int res.1)) (sx_hp b uG uN uD uR (res.2) uP uL uT uA uM uH xA xB xC xD xE xF xG xH xI xJ xK xL uO G)) 12 [(0, .ref (b + 32)), (4, .int v4), (5, .int v5), (6, .int v6), (7, .int v7), (8, .int v8)] [] (sx_hp b uG uN uD uR uF uP uL uT uA uM uH xA xB xC xD xE xF xG xH xI xJ xK xL uO G) 0 0) : ∀ (v4 : Int32) (v5 : Int32) (v6 : Int32) (v7 : Int32) (v8 : Int32) (uF : sx_C), f_X1_playOn_132 N k12 uN v4 v5 v6 v7 v8 uF = some res → sx_At D b K YX1_playOn (sx_rm 5) (sx_Ex (some (.int res.1)) (sx_hp b uG uN uD uR (res.2) uP uL uT uA uM uH xA xB xC xD xE xF xG xH xI xJ xK xL uO G)) 132 [(0, .ref (b + 32)), (4, .int v4), (5, .int v5), (6, .int v6), (7, .int v7), (8, .int v8)] [] (sx_hp b uG uN uD uR uF uP uL uT uA uM uH xA xB xC xD xE xF xG xH xI xJ xK xL uO G) 0 0 := by
  intro v4 v5 v6 v7 v8 uF h
  rw [f_X1_playOn_132] at h
  refine at_iconst 1 dX1_playOn_132 ic_1 ?_
  refine at_iload 4 dX1_playOn_133 rfl ?_
  refine at_isub dX1_playOn_135 ?_
  refine at_istore [(0, .ref (b + 32)), (4, .int v4), (5, .int v5), (6, .int v6), (7, .int (1 - v7)), (8, .int v8)] dX1_playOn_136 (Nat.le_of_ble_eq_true rfl) rfl ?_
  refine at_iinc 5 1 [(0, .ref (b + 32)), (4, .int v4), (5, .int v5), (6, .int v6), (7, .int (1 - v7)), (8, .int (v8 + 1))] dX1_playOn_138 rfl ic_1 (Nat.le_of_ble_eq_true rfl) rfl ?_
  refine at_goto 12 dX1_playOn_141 (by decide) ?_
  exact hk12 _ _ _ _ _ _ h
set_option maxRecDepth 100000 in
theorem t_X1_playOn_89 {D : va_G} {b : Nat} {K : State → Heap → Prop} {sa : Nat → Nat} (hK : sx_Kk b K sa) (N : Nat) {k12 : Int32 → Int32 → Int32 → Int32 → Int32 → sx_C → Option (Int32 × sx_C)} {uG uN uD uR uP uL uT uA uM uH xA xB xC xD xE xF xG xH xI xJ xK xL uO : sx_C} {G : sx_H} (res : Int32 × sx_C) (hk12 : ∀ (v4 : Int32) (v5 : Int32) (v6 : Int32) (v7 : Int32) (v8 : Int32) (uF : sx_C), k12 v4 v5 v6 v7 v8 uF = some res → sx_At D b K YX1_playOn (sx_rm 5) (sx_Ex (some (.int res.1)) (sx_hp b uG uN uD uR (res.2) uP uL uT uA uM uH xA xB xC xD xE xF xG xH xI xJ xK xL uO G)) 12 [(0, .ref (b + 32)), (4, .int v4), (5, .int v5), (6, .int v6), (7, .int v7), (8, .int v8)] [] (sx_hp b uG uN uD uR uF uP uL uT uA uM uH xA xB xC xD xE xF xG xH xI xJ xK xL uO G) 0 0) : ∀ (v4 : Int32) (v5 : Int32) (v6 : Int32) (v7 : Int32) (v8 : Int32) (s0 : Int32) (uF : sx_C), f_X1_playOn_89 N k12 uN v4 v5 v6 v7 v8 s0 uF = some res → sx_At D b K YX1_playOn (sx_rm 5) (sx_Ex (some (.int res.1)) (sx_hp b uG uN uD uR (res.2) uP uL uT uA uM uH xA xB xC xD xE xF xG xH xI xJ xK xL uO G)) 89 [(0, .ref (b + 32)), (4, .int v4), (5, .int v5), (6, .int v6), (7, .int v7), (8, .int v8)] [.int s0] (sx_hp b uG uN uD uR uF uP uL uT uA uM uH xA xB xC xD xE xF xG xH xI xJ xK xL uO G) 0 0 := by
  intro v4 v5 v6 v7 v8 s0 uF h
  rw [f_X1_playOn_89] at h
  refine at_istore [(0, .ref (b + 32)), (4, .int v4), (5, .int v5), (6, .int v6), (7, .int v7), (8, .int v8), (10, .int s0)] dX1_playOn_89 (Nat.le_of_ble_eq_true rfl) rfl ?_
  refine at_iload 5 dX1_playOn_91 rfl ?_
  refine at_iload 1 dX1_playOn_93 rfl ?_
  refine at_icmp_eq 103 dX1_playOn_95 (by decide) (fun c9 => ?_) (fun c9 => ?_)
  · rw [if_pos c9] at h
    refine at_iload 6 dX1_playOn_103 rfl ?_
    cases h; exact at_iret rfl (Nat.le_refl _) (Nat.le_refl _) ⟨rfl, rfl⟩ dX1_playOn_105
  · rw [if_neg c9] at h
    refine at_iload 6 dX1_playOn_98 rfl ?_
    refine at_if_ge 106 dX1_playOn_100 (by decide) (fun c10 => ?_) (fun c10 => ?_)
    · rw [if_pos c10] at h
      refine at_iload 4 dX1_playOn_106 rfl ?_
      refine at_if_ne 123 dX1_playOn_108 (by decide) (fun c11 => ?_) (fun c11 => ?_)
      · rw [if_neg c11] at h
        refine at_iload 3 dX1_playOn_123 rfl ?_
        refine at_iconst 1 dX1_playOn_125 ic_1 ?_
        refine at_iload 6 dX1_playOn_126 rfl ?_
        refine at_ishl dX1_playOn_128 ?_
        refine at_ior dX1_playOn_129 ?_
        refine at_istore [(0, .ref (b + 32)), (4, .int v4), (5, .int v5), (6, .int (v6 ||| (sp_shl 1 s0))), (7, .int v7), (8, .int v8), (10, .int s0)] dX1_playOn_130 (Nat.le_of_ble_eq_true rfl) rfl ?_
        refine at_sub [0, 1, 2, 3, 4, 5] [(0, .ref (b + 32)), (4, .int v4), (5, .int v5), (6, .int (v6 ||| (sp_shl 1 s0))), (7, .int v7), (8, .int v8)] rfl ?_
        exact t_X1_playOn_132 hK N _ hk12 _ _ _ _ _ _ h
      · rw [if_pos c11] at h
        refine at_iload 2 dX1_playOn_111 rfl ?_
        refine at_iconst 1 dX1_playOn_113 ic_1 ?_
        refine at_iload 6 dX1_playOn_114 rfl ?_
        refine at_ishl dX1_playOn_116 ?_
        refine at_ior dX1_playOn_117 ?_
        refine at_istore [(0, .ref (b + 32)), (4, .int v4), (5, .int (v5 ||| (sp_shl 1 s0))), (6, .int v6), (7, .int v7), (8, .int v8), (10, .int s0)] dX1_playOn_118 (Nat.le_of_ble_eq_true rfl) rfl ?_
        refine at_goto 132 dX1_playOn_120 (by decide) ?_
        refine at_sub [0, 1, 2, 3, 4, 5] [(0, .ref (b + 32)), (4, .int v4), (5, .int (v5 ||| (sp_shl 1 s0))), (6, .int v6), (7, .int v7), (8, .int v8)] rfl ?_
        exact t_X1_playOn_132 hK N _ hk12 _ _ _ _ _ _ h
    · rw [if_neg c10] at h
      refine at_iload 6 dX1_playOn_103 rfl ?_
      cases h; exact at_iret rfl (Nat.le_refl _) (Nat.le_refl _) ⟨rfl, rfl⟩ dX1_playOn_105
set_option maxRecDepth 100000 in
theorem t_X1_playOn_12 {D : va_G} {b : Nat} {K : State → Heap → Prop} {sa : Nat → Nat} (hK : sx_Kk b K sa) (N : Nat) {uG uN uD uR uP uL uT uA uM uH xA xB xC xD xE xF xG xH xI xJ xK xL uO : sx_C} {G : sx_H} (res : Int32 × sx_C) : ∀ (n0 : Nat) (v4 : Int32) (v5 : Int32) (v6 : Int32) (v7 : Int32) (v8 : Int32) (uF : sx_C), f_X1_playOn_12 N uN n0 v4 v5 v6 v7 v8 uF = some res → sx_At D b K YX1_playOn (sx_rm 5) (sx_Ex (some (.int res.1)) (sx_hp b uG uN uD uR (res.2) uP uL uT uA uM uH xA xB xC xD xE xF xG xH xI xJ xK xL uO G)) 12 [(0, .ref (b + 32)), (4, .int v4), (5, .int v5), (6, .int v6), (7, .int v7), (8, .int v8)] [] (sx_hp b uG uN uD uR uF uP uL uT uA uM uH xA xB xC xD xE xF xG xH xI xJ xK xL uO G) 0 0 := by
  intro n0
  induction n0 with
  | zero => intro _ _ _ _ _ _ h; cases h
  | succ n0 ih =>
    intro v4 v5 v6 v7 v8 uF h
    rw [f_X1_playOn_12] at h
    refine at_iload 5 dX1_playOn_12 rfl ?_
    refine at_bipush 14 dX1_playOn_14 bp_14 ?_
    refine at_icmp_gt 144 dX1_playOn_16 (by decide) (fun c1 => ?_) (fun c1 => ?_)
    · rw [if_pos c1] at h
      refine at_bipush (-2) dX1_playOn_144 bp_m2 ?_
      cases h; exact at_iret rfl (Nat.le_refl _) (Nat.le_refl _) ⟨rfl, rfl⟩ dX1_playOn_146
    · rw [if_neg c1] at h
      refine at_aload_n 0 dX1_playOn_19 rfl ?_
      refine at_getf cl_X1 (by decide) fl_X1_22 hg_32 rfl dX1_playOn_20 ?_
      refine at_iload 2 dX1_playOn_23 rfl ?_
      refine at_iload 3 dX1_playOn_25 rfl ?_
      obtain ⟨q2, hq2, h⟩ := sp_bind h
      refine at_callVi (st := []) hK mt_X6_holder ml_X1_34 cl_X6 hg_2 (t_X6_holder hK hq2) rfl rfl (Nat.le_of_ble_eq_true rfl) ⟨Nat.le_of_ble_eq_true rfl, Nat.le_of_ble_eq_true rfl⟩ ⟨Nat.le_refl _, Nat.le_refl _⟩ dX1_playOn_27 ?_
      refine at_iconst 2 dX1_playOn_30 ic_2 ?_
      refine at_icmp_eq 48 dX1_playOn_31 (by decide) (fun c3 => ?_) (fun c3 => ?_)
      · rw [if_pos c3] at h
        refine at_aload_n 0 dX1_playOn_48 rfl ?_
        refine at_getf cl_X1 (by decide) fl_X1_26 hg_32 rfl dX1_playOn_49 ?_
        refine at_iconst 0 dX1_playOn_52 ic_0 ?_
        refine at_iload 4 dX1_playOn_53 rfl ?_
        refine at_iload 2 dX1_playOn_55 rfl ?_
        refine at_iload 3 dX1_playOn_57 rfl ?_
        obtain ⟨q4, hq4, h⟩ := sp_bind h
        refine at_callVi (st := []) hK mt_X3_winningFrom ml_X1_40 cl_X3 hg_15 (t_X3_winningFrom hK hq4) rfl rfl (Nat.le_of_ble_eq_true rfl) ⟨Nat.le_of_ble_eq_true rfl, Nat.le_of_ble_eq_true rfl⟩ ⟨Nat.le_refl _, Nat.le_refl _⟩ dX1_playOn_59 ?_
        refine at_istore [(0, .ref (b + 32)), (4, .int v4), (5, .int v5), (6, .int v6), (7, .int v7), (8, .int v8), (9, .int (q4.1))] dX1_playOn_62 (Nat.le_of_ble_eq_true rfl) rfl ?_
        refine at_iload 6 dX1_playOn_64 rfl ?_
        refine at_if_ge 87 dX1_playOn_66 (by decide) (fun c5 => ?_) (fun c5 => ?_)
        · rw [if_pos c5] at h
          refine at_iload 6 dX1_playOn_87 rfl ?_
          refine at_sub [0, 1, 2, 3, 4, 5] [(0, .ref (b + 32)), (4, .int v4), (5, .int v5), (6, .int v6), (7, .int v7), (8, .int v8)] rfl ?_
          exact t_X1_playOn_89 hK N _ ih _ _ _ _ _ _ _ h
        · rw [if_neg c5] at h
          refine at_aload_n 0 dX1_playOn_69 rfl ?_
          refine at_getf cl_X1 (by decide) fl_X1_22 hg_32 rfl dX1_playOn_70 ?_
          refine at_iload 2 dX1_playOn_73 rfl ?_
          refine at_iload 3 dX1_playOn_75 rfl ?_
          obtain ⟨q6, hq6, h⟩ := sp_bind h
          refine at_callVi (st := []) hK mt_X6_openOf ml_X1_46 cl_X6 hg_2 (t_X6_openOf hK hq6) rfl rfl (Nat.le_of_ble_eq_true rfl) ⟨Nat.le_of_ble_eq_true rfl, Nat.le_of_ble_eq_true rfl⟩ ⟨Nat.le_refl _, Nat.le_refl _⟩ dX1_playOn_77 ?_
          refine at_iconst 0 dX1_playOn_80 ic_0 ?_
          obtain ⟨q7, hq7, h⟩ := sp_bind h
          refine at_callSi (st := []) hK mt_X11_nth ml_X1_49 (t_X11_nth hK hq7) rfl rfl (Nat.le_of_ble_eq_true rfl) ⟨Nat.le_of_ble_eq_true rfl, Nat.le_of_ble_eq_true rfl⟩ ⟨Nat.le_refl _, Nat.le_refl _⟩ dX1_playOn_81 ?_
          refine at_goto 89 dX1_playOn_84 (by decide) ?_
          refine at_sub [0, 1, 2, 3, 4, 5] [(0, .ref (b + 32)), (4, .int v4), (5, .int v5), (6, .int v6), (7, .int v7), (8, .int v8)] rfl ?_
          exact t_X1_playOn_89 hK N _ ih _ _ _ _ _ _ _ h
      · rw [if_neg c3] at h
        refine at_iload 1 dX1_playOn_34 rfl ?_
        refine at_iconst (-1) dX1_playOn_36 ic_m1 ?_
        refine at_icmp_ne 45 dX1_playOn_37 (by decide) (fun c8 => ?_) (fun c8 => ?_)
        · rw [if_neg c8] at h
          refine at_bipush (-2) dX1_playOn_45 bp_m2 ?_
          cases h; exact at_iret rfl (Nat.le_refl _) (Nat.le_refl _) ⟨rfl, rfl⟩ dX1_playOn_47
        · rw [if_pos c8] at h
          refine at_iload 5 dX1_playOn_40 rfl ?_
          refine at_goto 47 dX1_playOn_42 (by decide) ?_
          cases h; exact at_iret rfl (Nat.le_refl _) (Nat.le_refl _) ⟨rfl, rfl⟩ dX1_playOn_47
set_option maxRecDepth 100000 in
theorem t_X1_playOn {D : va_G} {b : Nat} {K : State → Heap → Prop} {sa : Nat → Nat} (hK : sx_Kk b K sa) {N : Nat} {uG uN uD uR uP uL uT uA uM uH xA xB xC xD xE xF xG xH xI xJ xK xL uO : sx_C} {G : sx_H} {v1 : Int32} {v2 : Int32} {v3 : Int32} {v4 : Int32} {uF : sx_C} {res : Int32 × sx_C} (h : f_X1_playOn N uN v1 v2 v3 v4 uF = some res) : sx_Runs D b K yX1_playOn YX1_playOn (sx_rm 5) [.ref (b + 32), .int v1, .int v2, .int v3, .int v4] (sx_hp b uG uN uD uR uF uP uL uT uA uM uH xA xB xC xD xE xF xG xH xI xJ xK xL uO G) (sx_Ex (some (.int res.1)) (sx_hp b uG uN uD uR (res.2) uP uL uT uA uM uH xA xB xC xD xE xF xG xH xI xJ xK xL uO G)) := by
  rw [f_X1_playOn] at h
  refine sx_run (by decide +kernel) rfl rfl (Nat.le_of_ble_eq_true rfl) ?_
  refine at_iload_n 1 dX1_playOn_0 rfl ?_
  refine at_istore [(0, .ref (b + 32)), (1, .int v1), (2, .int v2), (3, .int v3), (4, .int v4), (5, .int v1)] dX1_playOn_1 (Nat.le_of_ble_eq_true rfl) rfl ?_
  refine at_iload_n 2 dX1_playOn_3 rfl ?_
  refine at_istore [(0, .ref (b + 32)), (1, .int v1), (2, .int v2), (3, .int v3), (4, .int v4), (5, .int v1), (6, .int v2)] dX1_playOn_4 (Nat.le_of_ble_eq_true rfl) rfl ?_
  refine at_iload_n 3 dX1_playOn_6 rfl ?_
  refine at_istore [(0, .ref (b + 32)), (1, .int v1), (2, .int v2), (3, .int v3), (4, .int v4), (5, .int v1), (6, .int v2), (7, .int v3)] dX1_playOn_7 (Nat.le_of_ble_eq_true rfl) rfl ?_
  refine at_iconst 0 dX1_playOn_9 ic_0 ?_
  refine at_istore [(0, .ref (b + 32)), (1, .int v1), (2, .int v2), (3, .int v3), (4, .int v4), (5, .int v1), (6, .int v2), (7, .int v3), (8, .int 0)] dX1_playOn_10 (Nat.le_of_ble_eq_true rfl) rfl ?_
  refine at_sub [0, 4, 5, 6, 7, 8] [(0, .ref (b + 32)), (4, .int v4), (5, .int v1), (6, .int v2), (7, .int v3), (8, .int 0)] rfl ?_
  exact t_X1_playOn_12 hK N _ N _ _ _ _ _ _ h
set_option maxRecDepth 100000 in
theorem t_X11_played {D : va_G} {b : Nat} {K : State → Heap → Prop} {sa : Nat → Nat} (hK : sx_Kk b K sa) {N : Nat} {uG uN uD uR uP uL uT uA uM uH xA xB xC xD xE xF xG xH xI xJ xK xL uO : sx_C} {G : sx_H} {v1 : Int32} {uF : sx_C} {res : Int32 × sx_C} (h : f_X11_played N uG uN v1 uF = some res) : sx_Runs D b K yX11_played YX11_played (sx_rm 6) [.ref (b + 0), .int v1] (sx_hp b uG uN uD uR uF uP uL uT uA uM uH xA xB xC xD xE xF xG xH xI xJ xK xL uO G) (sx_Ex (some (.int res.1)) (sx_hp b uG uN uD uR (res.2) uP uL uT uA uM uH xA xB xC xD xE xF xG xH xI xJ xK xL uO G)) := by
  rw [f_X11_played] at h
  refine sx_run (by decide +kernel) rfl rfl (Nat.le_of_ble_eq_true rfl) ?_
  refine at_iload_n 1 dX11_played_0 rfl ?_
  refine at_iconst (-1) dX11_played_1 ic_m1 ?_
  refine at_icmp_ge 10 dX11_played_2 (by decide) (fun c1 => ?_) (fun c1 => ?_)
  · rw [if_pos c1] at h
    refine at_aload_n 0 dX11_played_10 rfl ?_
    refine at_getf cl_X11 (by decide) fl_X11_76 hg_0 rfl dX11_played_11 ?_
    refine at_aload_n 0 dX11_played_14 rfl ?_
    refine at_getf cl_X11 (by decide) fl_X11_91 hg_0 rfl dX11_played_15 ?_
    refine at_aload_n 0 dX11_played_18 rfl ?_
    refine at_getf cl_X11 (by decide) fl_X11_94 hg_0 rfl dX11_played_19 ?_
    refine at_aload_n 0 dX11_played_22 rfl ?_
    refine at_getf cl_X11 (by decide) fl_X11_97 hg_0 rfl dX11_played_23 ?_
    refine at_iload_n 1 dX11_played_26 rfl ?_
    obtain ⟨q2, hq2, h⟩ := sp_bind h
    refine at_callVi (st := []) hK mt_X1_playOn ml_X11_232 cl_X1 hg_32 (t_X1_playOn hK hq2) rfl rfl (Nat.le_of_ble_eq_true rfl) ⟨Nat.le_of_ble_eq_true rfl, Nat.le_of_ble_eq_true rfl⟩ ⟨Nat.le_refl _, Nat.le_refl _⟩ dX11_played_27 ?_
    cases h; exact at_iret rfl (Nat.le_refl _) (Nat.le_refl _) ⟨rfl, rfl⟩ dX11_played_30
  · rw [if_neg c1] at h
    refine at_bipush (-3) dX11_played_5 bp_m3 ?_
    refine at_goto 30 dX11_played_7 (by decide) ?_
    cases h; exact at_iret rfl (Nat.le_refl _) (Nat.le_refl _) ⟨rfl, rfl⟩ dX11_played_30
set_option maxRecDepth 100000 in
theorem t_X11_isSmall {D : va_G} {b : Nat} {K : State → Heap → Prop} {sa : Nat → Nat} (hK : sx_Kk b K sa) {uG uN uD uR uF uP uL uT uA uM uH xA xB xC xD xE xF xG xH xI xJ xK xL uO : sx_C} {G : sx_H} {res : Bool} (h : f_X11_isSmall uG uN  = some res) : sx_Runs D b K yX11_isSmall YX11_isSmall (sx_rm 3) [.ref (b + 0)] (sx_hp b uG uN uD uR uF uP uL uT uA uM uH xA xB xC xD xE xF xG xH xI xJ xK xL uO G) (sx_Ex (some (.int (sp_b res))) (sx_hp b uG uN uD uR uF uP uL uT uA uM uH xA xB xC xD xE xF xG xH xI xJ xK xL uO G)) := by
  rw [f_X11_isSmall] at h
  refine sx_run (by decide +kernel) rfl rfl (Nat.le_of_ble_eq_true rfl) ?_
  refine at_aload_n 0 dX11_isSmall_0 rfl ?_
  obtain ⟨q1, hq1, h⟩ := sp_bind h
  refine at_callVi (st := []) hK mt_X11_open ml_X11_193 cl_X11 hg_0 (t_X11_open hK hq1) rfl rfl (Nat.le_of_ble_eq_true rfl) ⟨Nat.le_of_ble_eq_true rfl, Nat.le_of_ble_eq_true rfl⟩ ⟨Nat.le_refl _, Nat.le_refl _⟩ dX11_isSmall_1 ?_
  obtain ⟨q2, hq2, h⟩ := sp_bind h
  refine at_callSi (st := []) hK mt_J6_bitCount_0f7a4 ml_X11_196 (t_J6_bitCount_0f7a4 hK hq2) rfl rfl (Nat.le_of_ble_eq_true rfl) ⟨Nat.le_of_ble_eq_true rfl, Nat.le_of_ble_eq_true rfl⟩ ⟨Nat.le_refl _, Nat.le_refl _⟩ dX11_isSmall_4 ?_
  refine at_bipush 10 dX11_isSmall_7 bp_10 ?_
  refine at_icmp_gt 16 dX11_isSmall_9 (by decide) (fun c3 => ?_) (fun c3 => ?_)
  · rw [if_pos c3] at h
    refine at_iconst 0 dX11_isSmall_16 ic_0 ?_
    cases h; exact at_zret rfl rfl (Nat.le_refl _) (Nat.le_refl _) ⟨rfl, rfl⟩ dX11_isSmall_17
  · rw [if_neg c3] at h
    refine at_iconst 1 dX11_isSmall_12 ic_1 ?_
    refine at_goto 17 dX11_isSmall_13 (by decide) ?_
    cases h; exact at_zret rfl rfl (Nat.le_refl _) (Nat.le_refl _) ⟨rfl, rfl⟩ dX11_isSmall_17
set_option maxRecDepth 100000 in
theorem t_X5_keyOf {D : va_G} {b : Nat} {K : State → Heap → Prop} {sa : Nat → Nat} (hK : sx_Kk b K sa) {σ : sx_H} {v0 : Int32} {v1 : Int32} {res : Int32} (h : f_X5_keyOf v0 v1 = some res) : sx_Runs D b K yX5_keyOf YX5_keyOf (sx_rm 0) [.int v0, .int v1] σ (sx_Ex (some (.int res)) σ) := by
  rw [f_X5_keyOf] at h
  refine sx_run (by decide +kernel) rfl rfl (Nat.le_of_ble_eq_true rfl) ?_
  refine at_iload_n 0 dX5_keyOf_0 rfl ?_
  refine at_iload_n 1 dX5_keyOf_1 rfl ?_
  refine at_bipush 14 dX5_keyOf_2 bp_14 ?_
  refine at_ishl dX5_keyOf_4 ?_
  refine at_ior dX5_keyOf_5 ?_
  refine at_iconst 1 dX5_keyOf_6 ic_1 ?_
  refine at_iadd dX5_keyOf_7 ?_
  cases h; exact at_iret rfl (Nat.le_refl _) (Nat.le_refl _) ⟨rfl, rfl⟩ dX5_keyOf_8
set_option maxRecDepth 100000 in
theorem t_X5_slotOf_10 {D : va_G} {b : Nat} {K : State → Heap → Prop} {sa : Nat → Nat} (hK : sx_Kk b K sa) (N : Nat) {uG uN uD uR uF uP uL uT uA uM uH xA xB xC xD xE xF xG xH xI xJ xK xL uO : sx_C} {G : sx_H} (res : Int32) : ∀ (n0 : Nat) (v1 : Int32) (v2 : Int32) (v3 : Int32), f_X5_slotOf_10 N uM n0 v1 v2 v3 = some res → sx_At D b K YX5_slotOf (sx_rm 0) (sx_Ex (some (.int res)) (sx_hp b uG uN uD uR uF uP uL uT uA uM uH xA xB xC xD xE xF xG xH xI xJ xK xL uO G)) 10 [(0, .ref (b + 33)), (1, .int v1), (2, .int v2), (3, .int v3)] [] (sx_hp b uG uN uD uR uF uP uL uT uA uM uH xA xB xC xD xE xF xG xH xI xJ xK xL uO G) 0 0 := by
  intro n0
  induction n0 with
  | zero => intro _ _ _ h; cases h
  | succ n0 ih =>
    intro v1 v2 v3 h
    rw [f_X5_slotOf_10] at h
    refine at_iload_n 3 dX5_slotOf_10 rfl ?_
    refine at_bipush 64 dX5_slotOf_11 bp_64 ?_
    refine at_icmp_ge 55 dX5_slotOf_13 (by decide) (fun c1 => ?_) (fun c1 => ?_)
    · rw [if_pos c1] at h
      refine at_iconst (-1) dX5_slotOf_55 ic_m1 ?_
      cases h; exact at_iret rfl (Nat.le_refl _) (Nat.le_refl _) ⟨rfl, rfl⟩ dX5_slotOf_56
    · rw [if_neg c1] at h
      refine at_iload_n 2 dX5_slotOf_16 rfl ?_
      refine at_iload_n 3 dX5_slotOf_17 rfl ?_
      refine at_iadd dX5_slotOf_18 ?_
      refine at_sipush 1023 dX5_slotOf_19 sh_1023 ?_
      refine at_iand dX5_slotOf_22 ?_
      refine at_istore [(0, .ref (b + 33)), (1, .int v1), (2, .int v2), (3, .int v3), (4, .int ((v2 + v3) &&& 1023))] dX5_slotOf_23 (Nat.le_of_ble_eq_true rfl) rfl ?_
      refine at_aload_n 0 dX5_slotOf_25 rfl ?_
      refine at_getf cl_X5 (by decide) fl_X5_11 hg_33 rfl dX5_slotOf_26 ?_
      refine at_iload 4 dX5_slotOf_29 rfl ?_
      obtain ⟨w2, hw2, h⟩ := sp_bind h
      refine at_iald hg_34 hw2 dX5_slotOf_31 ?_
      refine at_iload_n 1 dX5_slotOf_32 rfl ?_
      refine at_icmp_eq 46 dX5_slotOf_33 (by decide) (fun c3 => ?_) (fun c3 => ?_)
      · rw [if_pos c3] at h
        refine at_iload 4 dX5_slotOf_46 rfl ?_
        cases h; exact at_iret rfl (Nat.le_refl _) (Nat.le_refl _) ⟨rfl, rfl⟩ dX5_slotOf_48
      · rw [if_neg c3] at h
        refine at_aload_n 0 dX5_slotOf_36 rfl ?_
        refine at_getf cl_X5 (by decide) fl_X5_11 hg_33 rfl dX5_slotOf_37 ?_
        refine at_iload 4 dX5_slotOf_40 rfl ?_
        obtain ⟨w4, hw4, h⟩ := sp_bind h
        refine at_iald hg_34 hw4 dX5_slotOf_42 ?_
        refine at_if_ne 49 dX5_slotOf_43 (by decide) (fun c5 => ?_) (fun c5 => ?_)
        · rw [if_neg c5] at h
          refine at_iinc 3 1 [(0, .ref (b + 33)), (1, .int v1), (2, .int v2), (3, .int (v3 + 1)), (4, .int ((v2 + v3) &&& 1023))] dX5_slotOf_49 rfl ic_1 (Nat.le_of_ble_eq_true rfl) rfl ?_
          refine at_goto 10 dX5_slotOf_52 (by decide) ?_
          refine at_sub [0, 1, 2, 3] [(0, .ref (b + 33)), (1, .int v1), (2, .int v2), (3, .int (v3 + 1))] rfl ?_
          exact ih _ _ _ h
        · rw [if_pos c5] at h
          refine at_iload 4 dX5_slotOf_46 rfl ?_
          cases h; exact at_iret rfl (Nat.le_refl _) (Nat.le_refl _) ⟨rfl, rfl⟩ dX5_slotOf_48
set_option maxRecDepth 100000 in
theorem t_X5_slotOf {D : va_G} {b : Nat} {K : State → Heap → Prop} {sa : Nat → Nat} (hK : sx_Kk b K sa) {N : Nat} {uG uN uD uR uF uP uL uT uA uM uH xA xB xC xD xE xF xG xH xI xJ xK xL uO : sx_C} {G : sx_H} {v1 : Int32} {res : Int32} (h : f_X5_slotOf N uM v1 = some res) : sx_Runs D b K yX5_slotOf YX5_slotOf (sx_rm 0) [.ref (b + 33), .int v1] (sx_hp b uG uN uD uR uF uP uL uT uA uM uH xA xB xC xD xE xF xG xH xI xJ xK xL uO G) (sx_Ex (some (.int res)) (sx_hp b uG uN uD uR uF uP uL uT uA uM uH xA xB xC xD xE xF xG xH xI xJ xK xL uO G)) := by
  rw [f_X5_slotOf] at h
  refine sx_run (by decide +kernel) rfl rfl (Nat.le_of_ble_eq_true rfl) ?_
  refine at_iload_n 1 dX5_slotOf_0 rfl ?_
  refine at_ldc kn_X5_24 dX5_slotOf_1 ?_
  refine at_imul dX5_slotOf_3 ?_
  refine at_bipush 22 dX5_slotOf_4 bp_22 ?_
  refine at_iushr dX5_slotOf_6 ?_
  refine at_istore_n [(0, .ref (b + 33)), (1, .int v1), (2, .int (sp_ushr (v1 * (-1640531535)) 22))] dX5_slotOf_7 (Nat.le_of_ble_eq_true rfl) rfl ?_
  refine at_iconst 0 dX5_slotOf_8 ic_0 ?_
  refine at_istore_n [(0, .ref (b + 33)), (1, .int v1), (2, .int (sp_ushr (v1 * (-1640531535)) 22)), (3, .int 0)] dX5_slotOf_9 (Nat.le_of_ble_eq_true rfl) rfl ?_
  exact t_X5_slotOf_10 hK N _ N _ _ _ h
set_option maxRecDepth 100000 in
theorem t_X5_keep {D : va_G} {b : Nat} {K : State → Heap → Prop} {sa : Nat → Nat} (hK : sx_Kk b K sa) {N : Nat} {uG uN uD uR uF uP uL uT uA uH xA xB xC xD xE xF xG xH xI xJ xK xL uO : sx_C} {G : sx_H} {v1 : Int32} {v2 : Int32} {v3 : Int32} {uM : sx_C} {res : sx_C} (h : f_X5_keep N v1 v2 v3 uM = some res) : sx_Runs D b K yX5_keep YX5_keep (sx_rm 1) [.ref (b + 33), .int v1, .int v2, .int v3] (sx_hp b uG uN uD uR uF uP uL uT uA uM uH xA xB xC xD xE xF xG xH xI xJ xK xL uO G) (sx_Ex none (sx_hp b uG uN uD uR uF uP uL uT uA res uH xA xB xC xD xE xF xG xH xI xJ xK xL uO G)) := by
  rw [f_X5_keep] at h
  refine sx_run (by decide +kernel) rfl rfl (Nat.le_of_ble_eq_true rfl) ?_
  refine at_aload_n 0 dX5_keep_0 rfl ?_
  refine at_iload_n 1 dX5_keep_1 rfl ?_
  refine at_iload_n 2 dX5_keep_2 rfl ?_
  obtain ⟨q1, hq1, h⟩ := sp_bind h
  refine at_callSi (st := [.ref (b + 33)]) hK mt_X5_keyOf ml_X5_25 (t_X5_keyOf hK hq1) rfl rfl (Nat.le_of_ble_eq_true rfl) ⟨Nat.le_of_ble_eq_true rfl, Nat.le_of_ble_eq_true rfl⟩ ⟨Nat.le_refl _, Nat.le_refl _⟩ dX5_keep_3 ?_
  obtain ⟨q2, hq2, h⟩ := sp_bind h
  refine at_callVi (st := []) hK mt_X5_slotOf ml_X5_29 cl_X5 hg_33 (t_X5_slotOf hK hq2) rfl rfl (Nat.le_of_ble_eq_true rfl) ⟨Nat.le_of_ble_eq_true rfl, Nat.le_of_ble_eq_true rfl⟩ ⟨Nat.le_refl _, Nat.le_refl _⟩ dX5_keep_6 ?_
  refine at_istore [(0, .ref (b + 33)), (1, .int v1), (2, .int v2), (3, .int v3), (4, .int q2)] dX5_keep_9 (Nat.le_of_ble_eq_true rfl) rfl ?_
  refine at_iload 4 dX5_keep_11 rfl ?_
  refine at_if_lt 44 dX5_keep_13 (by decide) (fun c3 => ?_) (fun c3 => ?_)
  · rw [if_pos c3] at h
    cases h; exact at_vret rfl (Nat.le_refl _) (Nat.le_refl _) ⟨rfl, rfl⟩ dX5_keep_44
  · rw [if_neg c3] at h
    refine at_iload 4 dX5_keep_16 rfl ?_
    refine at_sipush 1024 dX5_keep_18 sh_1024 ?_
    refine at_icmp_ge 44 dX5_keep_21 (by decide) (fun c4 => ?_) (fun c4 => ?_)
    · rw [if_pos c4] at h
      cases h; exact at_vret rfl (Nat.le_refl _) (Nat.le_refl _) ⟨rfl, rfl⟩ dX5_keep_44
    · rw [if_neg c4] at h
      refine at_aload_n 0 dX5_keep_24 rfl ?_
      refine at_getf cl_X5 (by decide) fl_X5_11 hg_33 rfl dX5_keep_25 ?_
      refine at_iload 4 dX5_keep_28 rfl ?_
      refine at_iload_n 1 dX5_keep_30 rfl ?_
      refine at_iload_n 2 dX5_keep_31 rfl ?_
      obtain ⟨q5, hq5, h⟩ := sp_bind h
      refine at_callSi (st := [.int q2, .ref (b + 34)]) hK mt_X5_keyOf ml_X5_25 (t_X5_keyOf hK hq5) rfl rfl (Nat.le_of_ble_eq_true rfl) ⟨Nat.le_of_ble_eq_true rfl, Nat.le_of_ble_eq_true rfl⟩ ⟨Nat.le_refl _, Nat.le_refl _⟩ dX5_keep_32 ?_
      obtain ⟨hi6, h⟩ := sp_chk h
      refine at_iast hg_34 hi6 hs_34 dX5_keep_35 ?_
      refine at_aload_n 0 dX5_keep_36 rfl ?_
      refine at_getf cl_X5 (by decide) fl_X5_15 hg_33 rfl dX5_keep_37 ?_
      refine at_iload 4 dX5_keep_40 rfl ?_
      refine at_iload_n 3 dX5_keep_42 rfl ?_
      obtain ⟨hi7, h⟩ := sp_chk h
      refine at_iast hg_35 hi7 hs_35 dX5_keep_43 ?_
      cases h; exact at_vret rfl (Nat.le_refl _) (Nat.le_refl _) ⟨rfl, rfl⟩ dX5_keep_44
set_option maxRecDepth 100000 in
theorem t_X5_valueOf {D : va_G} {b : Nat} {K : State → Heap → Prop} {sa : Nat → Nat} (hK : sx_Kk b K sa) {N : Nat} {uG uN uD uR uF uP uL uT uA uM uH xA xB xC xD xE xF xG xH xI xJ xK xL uO : sx_C} {G : sx_H} {v1 : Int32} {v2 : Int32} {res : Int32} (h : f_X5_valueOf N uM v1 v2 = some res) : sx_Runs D b K yX5_valueOf YX5_valueOf (sx_rm 1) [.ref (b + 33), .int v1, .int v2] (sx_hp b uG uN uD uR uF uP uL uT uA uM uH xA xB xC xD xE xF xG xH xI xJ xK xL uO G) (sx_Ex (some (.int res)) (sx_hp b uG uN uD uR uF uP uL uT uA uM uH xA xB xC xD xE xF xG xH xI xJ xK xL uO G)) := by
  rw [f_X5_valueOf] at h
  refine sx_run (by decide +kernel) rfl rfl (Nat.le_of_ble_eq_true rfl) ?_
  refine at_iload_n 1 dX5_valueOf_0 rfl ?_
  refine at_iload_n 2 dX5_valueOf_1 rfl ?_
  obtain ⟨q1, hq1, h⟩ := sp_bind h
  refine at_callSi (st := []) hK mt_X5_keyOf ml_X5_25 (t_X5_keyOf hK hq1) rfl rfl (Nat.le_of_ble_eq_true rfl) ⟨Nat.le_of_ble_eq_true rfl, Nat.le_of_ble_eq_true rfl⟩ ⟨Nat.le_refl _, Nat.le_refl _⟩ dX5_valueOf_2 ?_
  refine at_istore_n [(0, .ref (b + 33)), (1, .int v1), (2, .int v2), (3, .int q1)] dX5_valueOf_5 (Nat.le_of_ble_eq_true rfl) rfl ?_
  refine at_aload_n 0 dX5_valueOf_6 rfl ?_
  refine at_iload_n 3 dX5_valueOf_7 rfl ?_
  obtain ⟨q2, hq2, h⟩ := sp_bind h
  refine at_callVi (st := []) hK mt_X5_slotOf ml_X5_29 cl_X5 hg_33 (t_X5_slotOf hK hq2) rfl rfl (Nat.le_of_ble_eq_true rfl) ⟨Nat.le_of_ble_eq_true rfl, Nat.le_of_ble_eq_true rfl⟩ ⟨Nat.le_refl _, Nat.le_refl _⟩ dX5_valueOf_8 ?_
  refine at_istore [(0, .ref (b + 33)), (1, .int v1), (2, .int v2), (3, .int q1), (4, .int q2)] dX5_valueOf_11 (Nat.le_of_ble_eq_true rfl) rfl ?_
  refine at_iload 4 dX5_valueOf_13 rfl ?_
  refine at_if_lt 47 dX5_valueOf_15 (by decide) (fun c3 => ?_) (fun c3 => ?_)
  · rw [if_pos c3] at h
    refine at_iconst (-1) dX5_valueOf_47 ic_m1 ?_
    cases h; exact at_iret rfl (Nat.le_refl _) (Nat.le_refl _) ⟨rfl, rfl⟩ dX5_valueOf_48
  · rw [if_neg c3] at h
    refine at_iload 4 dX5_valueOf_18 rfl ?_
    refine at_sipush 1024 dX5_valueOf_20 sh_1024 ?_
    refine at_icmp_ge 47 dX5_valueOf_23 (by decide) (fun c4 => ?_) (fun c4 => ?_)
    · rw [if_pos c4] at h
      refine at_iconst (-1) dX5_valueOf_47 ic_m1 ?_
      cases h; exact at_iret rfl (Nat.le_refl _) (Nat.le_refl _) ⟨rfl, rfl⟩ dX5_valueOf_48
    · rw [if_neg c4] at h
      refine at_aload_n 0 dX5_valueOf_26 rfl ?_
      refine at_getf cl_X5 (by decide) fl_X5_11 hg_33 rfl dX5_valueOf_27 ?_
      refine at_iload 4 dX5_valueOf_30 rfl ?_
      obtain ⟨w5, hw5, h⟩ := sp_bind h
      refine at_iald hg_34 hw5 dX5_valueOf_32 ?_
      refine at_iload_n 3 dX5_valueOf_33 rfl ?_
      refine at_icmp_ne 47 dX5_valueOf_34 (by decide) (fun c6 => ?_) (fun c6 => ?_)
      · rw [if_neg c6] at h
        refine at_iconst (-1) dX5_valueOf_47 ic_m1 ?_
        cases h; exact at_iret rfl (Nat.le_refl _) (Nat.le_refl _) ⟨rfl, rfl⟩ dX5_valueOf_48
      · rw [if_pos c6] at h
        refine at_aload_n 0 dX5_valueOf_37 rfl ?_
        refine at_getf cl_X5 (by decide) fl_X5_15 hg_33 rfl dX5_valueOf_38 ?_
        refine at_iload 4 dX5_valueOf_41 rfl ?_
        obtain ⟨w7, hw7, h⟩ := sp_bind h
        refine at_iald hg_35 hw7 dX5_valueOf_43 ?_
        refine at_goto 48 dX5_valueOf_44 (by decide) ?_
        cases h; exact at_iret rfl (Nat.le_refl _) (Nat.le_refl _) ⟨rfl, rfl⟩ dX5_valueOf_48
set_option maxRecDepth 100000 in
theorem t_X7_replies_44 {D : va_G} {b : Nat} {K : State → Heap → Prop} {sa : Nat → Nat} (hK : sx_Kk b K sa) (N : Nat) {k10 : Int32 → Int64 → Int32 → sx_C → Option (Int64 × sx_C)} {uG uN uD uR uP uL uT uA uM uH xA xB xC xD xE xF xG xH xI xJ xK xL uO : sx_C} {G : sx_H} (res : Int64 × sx_C) (hk10 : ∀ (v1 : Int32) (v2 : Int64) (v4 : Int32) (uF : sx_C), k10 v1 v2 v4 uF = some res → sx_At D b K YX7_replies (sx_rm 3) (sx_Ex (some (.long res.1)) (sx_hp b uG uN uD uR (res.2) uP uL uT uA uM uH xA xB xC xD xE xF xG xH xI xJ xK xL uO G)) 10 [(0, .ref (b + 16)), (1, .int v1), (2, .long v2), (4, .int v4)] [] (sx_hp b uG uN uD uR uF uP uL uT uA uM uH xA xB xC xD xE xF xG xH xI xJ xK xL uO G) 0 0) : ∀ (v1 : Int32) (v2 : Int64) (v4 : Int32) (uF : sx_C), f_X7_replies_44 N k10 uP v1 v2 v4 uF = some res → sx_At D b K YX7_replies (sx_rm 3) (sx_Ex (some (.long res.1)) (sx_hp b uG uN uD uR (res.2) uP uL uT uA uM uH xA xB xC xD xE xF xG xH xI xJ xK xL uO G)) 44 [(0, .ref (b + 16)), (1, .int v1), (2, .long v2), (4, .int v4)] [] (sx_hp b uG uN uD uR uF uP uL uT uA uM uH xA xB xC xD xE xF xG xH xI xJ xK xL uO G) 0 0 := by
  intro v1 v2 v4 uF h
  rw [f_X7_replies_44] at h
  refine at_iinc 3 1 [(0, .ref (b + 16)), (1, .int v1), (2, .long v2), (4, .int (v4 + 1))] dX7_replies_44 rfl ic_1 (Nat.le_of_ble_eq_true rfl) rfl ?_
  refine at_goto 10 dX7_replies_47 (by decide) ?_
  exact hk10 _ _ _ _ h
set_option maxRecDepth 100000 in
theorem t_X7_replies_10 {D : va_G} {b : Nat} {K : State → Heap → Prop} {sa : Nat → Nat} (hK : sx_Kk b K sa) (N : Nat) {uG uN uD uR uP uL uT uA uM uH xA xB xC xD xE xF xG xH xI xJ xK xL uO : sx_C} {G : sx_H} (res : Int64 × sx_C) : ∀ (n0 : Nat) (v1 : Int32) (v2 : Int64) (v4 : Int32) (uF : sx_C), f_X7_replies_10 N uP n0 v1 v2 v4 uF = some res → sx_At D b K YX7_replies (sx_rm 3) (sx_Ex (some (.long res.1)) (sx_hp b uG uN uD uR (res.2) uP uL uT uA uM uH xA xB xC xD xE xF xG xH xI xJ xK xL uO G)) 10 [(0, .ref (b + 16)), (1, .int v1), (2, .long v2), (4, .int v4)] [] (sx_hp b uG uN uD uR uF uP uL uT uA uM uH xA xB xC xD xE xF xG xH xI xJ xK xL uO G) 0 0 := by
  intro n0
  induction n0 with
  | zero => intro _ _ _ _ h; cases h
  | succ n0 ih =>
    intro v1 v2 v4 uF h
    rw [f_X7_replies_10] at h
    refine at_iload 3 dX7_replies_10 rfl ?_
    refine at_bipush 14 dX7_replies_12 bp_14 ?_
    refine at_icmp_ge 50 dX7_replies_14 (by decide) (fun c1 => ?_) (fun c1 => ?_)
    · rw [if_pos c1] at h
      refine at_lload_n 2 dX7_replies_50 rfl ?_
      cases h; exact at_lret rfl (Nat.le_refl _) (Nat.le_refl _) ⟨rfl, rfl⟩ dX7_replies_51
    · rw [if_neg c1] at h
      refine at_iload_n 1 dX7_replies_17 rfl ?_
      refine at_iload 3 dX7_replies_18 rfl ?_
      obtain ⟨q2, hq2, h⟩ := sp_bind h
      refine at_callSi (st := []) hK mt_X11_has ml_X7_90 (t_X11_has hK hq2) rfl rfl (Nat.le_of_ble_eq_true rfl) ⟨Nat.le_of_ble_eq_true rfl, Nat.le_of_ble_eq_true rfl⟩ ⟨Nat.le_refl _, Nat.le_refl _⟩ dX7_replies_20 ?_
      refine at_zeq 44 dX7_replies_23 (by decide) (fun c3 => ?_) (fun c3 => ?_)
      · rw [if_neg c3] at h
        exact t_X7_replies_44 hK N _ ih _ _ _ _ h
      · rw [if_pos c3] at h
        refine at_lload_n 2 dX7_replies_26 rfl ?_
        refine at_aload_n 0 dX7_replies_27 rfl ?_
        refine at_iload 3 dX7_replies_28 rfl ?_
        obtain ⟨q4, hq4, h⟩ := sp_bind h
        refine at_callVi (st := [.long v2]) hK mt_X7_reply ml_X7_134 cl_X7 hg_16 (t_X7_reply hK hq4) rfl rfl (Nat.le_of_ble_eq_true rfl) ⟨Nat.le_of_ble_eq_true rfl, Nat.le_of_ble_eq_true rfl⟩ ⟨Nat.le_refl _, Nat.le_refl _⟩ dX7_replies_30 ?_
        refine at_bipush 15 dX7_replies_33 bp_15 ?_
        refine at_iand dX7_replies_35 ?_
        refine at_i2l dX7_replies_36 ?_
        refine at_iconst 4 dX7_replies_37 ic_4 ?_
        refine at_iload 3 dX7_replies_38 rfl ?_
        refine at_imul dX7_replies_40 ?_
        refine at_lshl dX7_replies_41 ?_
        refine at_lor dX7_replies_42 ?_
        refine at_lstore_n [(0, .ref (b + 16)), (1, .int v1), (2, .long (v2 ||| (sp_lshl ((((q4.1) &&& 15) : Int32).toInt64) (4 * v4)))), (4, .int v4)] dX7_replies_43 (Nat.le_of_ble_eq_true rfl) rfl ?_
        exact t_X7_replies_44 hK N _ ih _ _ _ _ h
set_option maxRecDepth 100000 in
theorem t_X7_replies {D : va_G} {b : Nat} {K : State → Heap → Prop} {sa : Nat → Nat} (hK : sx_Kk b K sa) {N : Nat} {uG uN uD uR uP uL uT uA uM uH xA xB xC xD xE xF xG xH xI xJ xK xL uO : sx_C} {G : sx_H} {uF : sx_C} {res : Int64 × sx_C} (h : f_X7_replies N uP uF = some res) : sx_Runs D b K yX7_replies YX7_replies (sx_rm 3) [.ref (b + 16)] (sx_hp b uG uN uD uR uF uP uL uT uA uM uH xA xB xC xD xE xF xG xH xI xJ xK xL uO G) (sx_Ex (some (.long res.1)) (sx_hp b uG uN uD uR (res.2) uP uL uT uA uM uH xA xB xC xD xE xF xG xH xI xJ xK xL uO G)) := by
  rw [f_X7_replies] at h
  refine sx_run (by decide +kernel) rfl rfl (Nat.le_of_ble_eq_true rfl) ?_
  refine at_aload_n 0 dX7_replies_0 rfl ?_
  refine at_getf cl_X7 (by decide) fl_X7_9 hg_16 rfl dX7_replies_1 ?_
  refine at_istore_n [(0, .ref (b + 16)), (1, .int (gi uP 2))] dX7_replies_4 (Nat.le_of_ble_eq_true rfl) rfl ?_
  refine at_lconst 0 dX7_replies_5 lc_0 ?_
  refine at_lstore_n [(0, .ref (b + 16)), (1, .int (gi uP 2)), (2, .long 0)] dX7_replies_6 (Nat.le_of_ble_eq_true rfl) rfl ?_
  refine at_iconst 0 dX7_replies_7 ic_0 ?_
  refine at_istore [(0, .ref (b + 16)), (1, .int (gi uP 2)), (2, .long 0), (4, .int 0)] dX7_replies_8 (Nat.le_of_ble_eq_true rfl) rfl ?_
  exact t_X7_replies_10 hK N _ N _ _ _ _ h
set_option maxRecDepth 100000 in
theorem t_X1_cutFirst_23 {D : va_G} {b : Nat} {K : State → Heap → Prop} {sa : Nat → Nat} (hK : sx_Kk b K sa) (N : Nat) {δ : Nat} {kR : Int32 → Int32 → Int32 → sx_C → sx_C → sx_C → Option (Int32 × sx_C × sx_C × sx_C)} {uG uN uD uR uL uT uA uH xA xB xC xD xE xF xG xH xI xJ xK xL uO : sx_C} {G : sx_H} (res : Int32 × sx_C × sx_C × sx_C) (hR : ∀ (v1 : Int32) (v2 : Int32) (v3 : Int32) (uF : sx_C) (uP : sx_C) (uM : sx_C) (res : Int32 × sx_C × sx_C × sx_C), kR v1 v2 v3 uF uP uM = some res → sx_Runs D b K yX1_cutFirst YX1_cutFirst (sx_rm (5 + δ)) [.ref (b + 32), .int v1, .int v2, .int v3] (sx_hp b uG uN uD uR uF uP uL uT uA uM uH xA xB xC xD xE xF xG xH xI xJ xK xL uO G) (sx_Ex (some (.int res.1)) (sx_hp b uG uN uD uR (res.2.1) (res.2.2.1) uL uT uA (res.2.2.2) uH xA xB xC xD xE xF xG xH xI xJ xK xL uO G))) : ∀ (v4 : Int32) (uF : sx_C) (uP : sx_C) (uM : sx_C), f_X1_cutFirst_23 N kR uN v4 uF uP uM = some res → sx_At D b K YX1_cutFirst (sx_rm (5 + δ + 1)) (sx_Ex (some (.int res.1)) (sx_hp b uG uN uD uR (res.2.1) (res.2.2.1) uL uT uA (res.2.2.2) uH xA xB xC xD xE xF xG xH xI xJ xK xL uO G)) 23 [(4, .int v4)] [] (sx_hp b uG uN uD uR uF uP uL uT uA uM uH xA xB xC xD xE xF xG xH xI xJ xK xL uO G) 0 0 := by
  intro v4 uF uP uM h
  rw [f_X1_cutFirst_23] at h
  refine at_iload 0 dX1_cutFirst_23 rfl ?_
  refine at_if_ne 33 dX1_cutFirst_25 (by decide) (fun c1 => ?_) (fun c1 => ?_)
  · rw [if_neg c1] at h
    refine at_ldc kn_X1_62 dX1_cutFirst_33 ?_
    cases h; exact at_iret rfl (Nat.le_refl _) (Nat.le_refl _) ⟨rfl, rfl⟩ dX1_cutFirst_35
  · rw [if_pos c1] at h
    refine at_ldc kn_X1_64 dX1_cutFirst_28 ?_
    refine at_goto 35 dX1_cutFirst_30 (by decide) ?_
    cases h; exact at_iret rfl (Nat.le_refl _) (Nat.le_refl _) ⟨rfl, rfl⟩ dX1_cutFirst_35
set_option maxRecDepth 100000 in
theorem t_X1_cutFirst_151 {D : va_G} {b : Nat} {K : State → Heap → Prop} {sa : Nat → Nat} (hK : sx_Kk b K sa) (N : Nat) {δ : Nat} {kR : Int32 → Int32 → Int32 → sx_C → sx_C → sx_C → Option (Int32 × sx_C × sx_C × sx_C)} {k97 : Int32 → Int32 → Int32 → Int32 → Int64 → Int32 → Int32 → sx_C → sx_C → sx_C → Option (Int32 × sx_C × sx_C × sx_C)} {uG uN uD uR uL uT uA uH xA xB xC xD xE xF xG xH xI xJ xK xL uO : sx_C} {G : sx_H} (res : Int32 × sx_C × sx_C × sx_C) (hR : ∀ (v1 : Int32) (v2 : Int32) (v3 : Int32) (uF : sx_C) (uP : sx_C) (uM : sx_C) (res : Int32 × sx_C × sx_C × sx_C), kR v1 v2 v3 uF uP uM = some res → sx_Runs D b K yX1_cutFirst YX1_cutFirst (sx_rm (5 + δ)) [.ref (b + 32), .int v1, .int v2, .int v3] (sx_hp b uG uN uD uR uF uP uL uT uA uM uH xA xB xC xD xE xF xG xH xI xJ xK xL uO G) (sx_Ex (some (.int res.1)) (sx_hp b uG uN uD uR (res.2.1) (res.2.2.1) uL uT uA (res.2.2.2) uH xA xB xC xD xE xF xG xH xI xJ xK xL uO G))) (hk97 : ∀ (v1 : Int32) (v2 : Int32) (v3 : Int32) (v6 : Int32) (v7 : Int64) (v9 : Int32) (v10 : Int32) (uF : sx_C) (uP : sx_C) (uM : sx_C), k97 v1 v2 v3 v6 v7 v9 v10 uF uP uM = some res → sx_At D b K YX1_cutFirst (sx_rm (5 + δ + 1)) (sx_Ex (some (.int res.1)) (sx_hp b uG uN uD uR (res.2.1) (res.2.2.1) uL uT uA (res.2.2.2) uH xA xB xC xD xE xF xG xH xI xJ xK xL uO G)) 97 [(0, .ref (b + 32)), (1, .int v1), (2, .int v2), (3, .int v3), (6, .int v6), (7, .long v7), (9, .int v9), (10, .int v10)] [] (sx_hp b uG uN uD uR uF uP uL uT uA uM uH xA xB xC xD xE xF xG xH xI xJ xK xL uO G) 0 0) : ∀ (v1 : Int32) (v2 : Int32) (v3 : Int32) (v6 : Int32) (v7 : Int64) (v9 : Int32) (v10 : Int32) (uF : sx_C) (uP : sx_C) (uM : sx_C), f_X1_cutFirst_151 N kR k97 uN v1 v2 v3 v6 v7 v9 v10 uF uP uM = some res → sx_At D b K YX1_cutFirst (sx_rm (5 + δ + 1)) (sx_Ex (some (.int res.1)) (sx_hp b uG uN uD uR (res.2.1) (res.2.2.1) uL uT uA (res.2.2.2) uH xA xB xC xD xE xF xG xH xI xJ xK xL uO G)) 151 [(0, .ref (b + 32)), (1, .int v1), (2, .int v2), (3, .int v3), (6, .int v6), (7, .long v7), (9, .int v9), (10, .int v10)] [] (sx_hp b uG uN uD uR uF uP uL uT uA uM uH xA xB xC xD xE xF xG xH xI xJ xK xL uO G) 0 0 := by
  intro v1 v2 v3 v6 v7 v9 v10 uF uP uM h
  rw [f_X1_cutFirst_151] at h
  refine at_iinc 7 1 [(0, .ref (b + 32)), (1, .int v1), (2, .int v2), (3, .int v3), (6, .int v6), (7, .long v7), (9, .int v9), (10, .int (v10 + 1))] dX1_cutFirst_151 rfl ic_1 (Nat.le_of_ble_eq_true rfl) rfl ?_
  refine at_goto 97 dX1_cutFirst_154 (by decide) ?_
  exact hk97 _ _ _ _ _ _ _ _ _ _ h
set_option maxRecDepth 100000 in
theorem t_X1_cutFirst_97 {D : va_G} {b : Nat} {K : State → Heap → Prop} {sa : Nat → Nat} (hK : sx_Kk b K sa) (N : Nat) {δ : Nat} {kR : Int32 → Int32 → Int32 → sx_C → sx_C → sx_C → Option (Int32 × sx_C × sx_C × sx_C)} {uG uN uD uR uL uT uA uH xA xB xC xD xE xF xG xH xI xJ xK xL uO : sx_C} {G : sx_H} (res : Int32 × sx_C × sx_C × sx_C) (hR : ∀ (v1 : Int32) (v2 : Int32) (v3 : Int32) (uF : sx_C) (uP : sx_C) (uM : sx_C) (res : Int32 × sx_C × sx_C × sx_C), kR v1 v2 v3 uF uP uM = some res → sx_Runs D b K yX1_cutFirst YX1_cutFirst (sx_rm (5 + δ)) [.ref (b + 32), .int v1, .int v2, .int v3] (sx_hp b uG uN uD uR uF uP uL uT uA uM uH xA xB xC xD xE xF xG xH xI xJ xK xL uO G) (sx_Ex (some (.int res.1)) (sx_hp b uG uN uD uR (res.2.1) (res.2.2.1) uL uT uA (res.2.2.2) uH xA xB xC xD xE xF xG xH xI xJ xK xL uO G))) : ∀ (n0 : Nat) (v1 : Int32) (v2 : Int32) (v3 : Int32) (v6 : Int32) (v7 : Int64) (v9 : Int32) (v10 : Int32) (uF : sx_C) (uP : sx_C) (uM : sx_C), f_X1_cutFirst_97 N kR uN n0 v1 v2 v3 v6 v7 v9 v10 uF uP uM = some res → sx_At D b K YX1_cutFirst (sx_rm (5 + δ + 1)) (sx_Ex (some (.int res.1)) (sx_hp b uG uN uD uR (res.2.1) (res.2.2.1) uL uT uA (res.2.2.2) uH xA xB xC xD xE xF xG xH xI xJ xK xL uO G)) 97 [(0, .ref (b + 32)), (1, .int v1), (2, .int v2), (3, .int v3), (6, .int v6), (7, .long v7), (9, .int v9), (10, .int v10)] [] (sx_hp b uG uN uD uR uF uP uL uT uA uM uH xA xB xC xD xE xF xG xH xI xJ xK xL uO G) 0 0 := by
  intro n0
  induction n0 with
  | zero => intro _ _ _ _ _ _ _ _ _ _ h; cases h
  | succ n0 ih =>
    intro v1 v2 v3 v6 v7 v9 v10 uF uP uM h
    rw [f_X1_cutFirst_97] at h
    refine at_iload 7 dX1_cutFirst_97 rfl ?_
    refine at_bipush 14 dX1_cutFirst_99 bp_14 ?_
    refine at_icmp_ge 157 dX1_cutFirst_101 (by decide) (fun c2 => ?_) (fun c2 => ?_)
    · rw [if_pos c2] at h
      refine at_aload_n 0 dX1_cutFirst_157 rfl ?_
      refine at_getf cl_X1 (by decide) fl_X1_14 hg_32 rfl dX1_cutFirst_158 ?_
      refine at_iload_n 1 dX1_cutFirst_161 rfl ?_
      refine at_iload_n 2 dX1_cutFirst_162 rfl ?_
      refine at_iload 6 dX1_cutFirst_163 rfl ?_
      obtain ⟨q3, hq3, h⟩ := sp_bind h
      refine at_callVv (st := []) hK mt_X5_keep ml_X1_81 cl_X5 hg_33 (t_X5_keep hK hq3) rfl rfl (Nat.le_of_ble_eq_true rfl) ⟨(by show 1 + 1 ≤ 5 + δ + 1; omega), (by show 8 + (5 + 11) + 100 * 1 ≤ 100 * (5 + δ + 1); omega)⟩ ⟨Nat.le_refl _, Nat.le_refl _⟩ dX1_cutFirst_165 ?_
      refine at_iload 6 dX1_cutFirst_168 rfl ?_
      cases h; exact at_iret rfl (Nat.le_refl _) (Nat.le_refl _) ⟨rfl, rfl⟩ dX1_cutFirst_170
    · rw [if_neg c2] at h
      refine at_iload 4 dX1_cutFirst_104 rfl ?_
      refine at_iload 7 dX1_cutFirst_106 rfl ?_
      obtain ⟨q4, hq4, h⟩ := sp_bind h
      refine at_callSi (st := []) hK mt_X11_has ml_X1_78 (t_X11_has hK hq4) rfl rfl (Nat.le_of_ble_eq_true rfl) ⟨(by show 0 + 1 ≤ 5 + δ + 1; omega), (by show 8 + (2 + 11) + 100 * 0 ≤ 100 * (5 + δ + 1); omega)⟩ ⟨Nat.le_refl _, Nat.le_refl _⟩ dX1_cutFirst_108 ?_
      refine at_zeq 151 dX1_cutFirst_111 (by decide) (fun c5 => ?_) (fun c5 => ?_)
      · rw [if_neg c5] at h
        exact t_X1_cutFirst_151 hK N _ hR ih _ _ _ _ _ _ _ _ _ _ h
      · rw [if_pos c5] at h
        refine at_lload 5 dX1_cutFirst_114 rfl ?_
        refine at_iconst 4 dX1_cutFirst_116 ic_4 ?_
        refine at_iload 7 dX1_cutFirst_117 rfl ?_
        refine at_imul dX1_cutFirst_119 ?_
        refine at_lushr dX1_cutFirst_120 ?_
        refine at_l2i dX1_cutFirst_121 ?_
        refine at_bipush 15 dX1_cutFirst_122 bp_15 ?_
        refine at_iand dX1_cutFirst_124 ?_
        refine at_istore [(0, .ref (b + 32)), (1, .int v1), (2, .int v2), (3, .int v3), (6, .int v6), (7, .long v7), (9, .int v9), (10, .int v10), (11, .int (((sp_lushr v7 (4 * v10)) : Int64).toInt32 &&& 15))] dX1_cutFirst_125 (Nat.le_of_ble_eq_true rfl) rfl ?_
        refine at_iload 6 dX1_cutFirst_127 rfl ?_
        refine at_aload_n 0 dX1_cutFirst_129 rfl ?_
        refine at_iload_n 1 dX1_cutFirst_130 rfl ?_
        refine at_iconst 1 dX1_cutFirst_131 ic_1 ?_
        refine at_iload 8 dX1_cutFirst_132 rfl ?_
        refine at_ishl dX1_cutFirst_134 ?_
        refine at_ior dX1_cutFirst_135 ?_
        refine at_iload_n 2 dX1_cutFirst_136 rfl ?_
        refine at_iconst 1 dX1_cutFirst_137 ic_1 ?_
        refine at_iload 7 dX1_cutFirst_138 rfl ?_
        refine at_ishl dX1_cutFirst_140 ?_
        refine at_ior dX1_cutFirst_141 ?_
        refine at_iload_n 3 dX1_cutFirst_142 rfl ?_
        refine at_iconst 1 dX1_cutFirst_143 ic_1 ?_
        refine at_iadd dX1_cutFirst_144 ?_
        obtain ⟨q6, hq6, h⟩ := sp_bind h
        refine at_callVi (st := [.int v9]) hK mt_X1_cutFirst ml_X1_55 cl_X1 hg_32 (hR _ _ _ _ _ _ _ hq6) rfl rfl (Nat.le_of_ble_eq_true rfl) ⟨(by show (5 + δ) + 1 ≤ 5 + δ + 1; omega), (by show 8 + (12 + 11) + 100 * (5 + δ) ≤ 100 * (5 + δ + 1); omega)⟩ ⟨Nat.le_refl _, Nat.le_refl _⟩ dX1_cutFirst_145 ?_
        refine at_iadd dX1_cutFirst_148 ?_
        refine at_istore [(0, .ref (b + 32)), (1, .int v1), (2, .int v2), (3, .int v3), (6, .int v6), (7, .long v7), (9, .int (v9 + (q6.1))), (10, .int v10), (11, .int (((sp_lushr v7 (4 * v10)) : Int64).toInt32 &&& 15))] dX1_cutFirst_149 (Nat.le_of_ble_eq_true rfl) rfl ?_
        refine at_sub [0, 1, 2, 3, 4, 5, 6, 7] [(0, .ref (b + 32)), (1, .int v1), (2, .int v2), (3, .int v3), (6, .int v6), (7, .long v7), (9, .int (v9 + (q6.1))), (10, .int v10)] rfl ?_
        exact t_X1_cutFirst_151 hK N _ hR ih _ _ _ _ _ _ _ _ _ _ h
set_option maxRecDepth 100000 in
theorem t_X1_cutFirst_rec {D : va_G} {b : Nat} {K : State → Heap → Prop} {sa : Nat → Nat} (hK : sx_Kk b K sa) {N : Nat} {uG uN uD uR uL uT uA uH xA xB xC xD xE xF xG xH xI xJ xK xL uO : sx_C} {G : sx_H} : ∀ (δ : Nat), ∀ (v1 : Int32) (v2 : Int32) (v3 : Int32) (uF : sx_C) (uP : sx_C) (uM : sx_C) (res : Int32 × sx_C × sx_C × sx_C), f_X1_cutFirst N uN δ v1 v2 v3 uF uP uM = some res → sx_Runs D b K yX1_cutFirst YX1_cutFirst (sx_rm (5 + δ)) [.ref (b + 32), .int v1, .int v2, .int v3] (sx_hp b uG uN uD uR uF uP uL uT uA uM uH xA xB xC xD xE xF xG xH xI xJ xK xL uO G) (sx_Ex (some (.int res.1)) (sx_hp b uG uN uD uR (res.2.1) (res.2.2.1) uL uT uA (res.2.2.2) uH xA xB xC xD xE xF xG xH xI xJ xK xL uO G)) := by
  intro δ
  induction δ with
  | zero => intro _ _ _ _ _ _ _ h; cases h
  | succ δ ihR =>
    intro v1 v2 v3 uF uP uM res h
    have hR := ihR
    rw [f_X1_cutFirst] at h
    refine sx_run (by decide +kernel) rfl rfl (Nat.le_of_ble_eq_true rfl) ?_
    refine at_aload_n 0 dX1_cutFirst_0 rfl ?_
    refine at_getf cl_X1 (by decide) fl_X1_22 hg_32 rfl dX1_cutFirst_1 ?_
    refine at_iload_n 1 dX1_cutFirst_4 rfl ?_
    refine at_iload_n 2 dX1_cutFirst_5 rfl ?_
    obtain ⟨q7, hq7, h⟩ := sp_bind h
    refine at_callVi (st := []) hK mt_X6_holder ml_X1_34 cl_X6 hg_2 (t_X6_holder hK hq7) rfl rfl (Nat.le_of_ble_eq_true rfl) ⟨(by show 3 + 1 ≤ 5 + δ + 1; omega), (by show 8 + (3 + 11) + 100 * 3 ≤ 100 * (5 + δ + 1); omega)⟩ ⟨Nat.le_refl _, Nat.le_refl _⟩ dX1_cutFirst_6 ?_
    refine at_istore [(0, .ref (b + 32)), (1, .int v1), (2, .int v2), (3, .int v3), (4, .int q7)] dX1_cutFirst_9 (Nat.le_of_ble_eq_true rfl) rfl ?_
    refine at_iload 4 dX1_cutFirst_11 rfl ?_
    refine at_iconst 2 dX1_cutFirst_13 ic_2 ?_
    refine at_icmp_ne 23 dX1_cutFirst_14 (by decide) (fun c8 => ?_) (fun c8 => ?_)
    · rw [if_neg c8] at h
      refine at_sub [4] [(4, .int q7)] rfl ?_
      exact t_X1_cutFirst_23 hK N _ hR _ _ _ _ h
    · rw [if_pos c8] at h
      refine at_iload_n 3 dX1_cutFirst_17 rfl ?_
      refine at_bipush 14 dX1_cutFirst_18 bp_14 ?_
      refine at_icmp_le 36 dX1_cutFirst_20 (by decide) (fun c9 => ?_) (fun c9 => ?_)
      · rw [if_pos c9] at h
        refine at_aload_n 0 dX1_cutFirst_36 rfl ?_
        refine at_getf cl_X1 (by decide) fl_X1_14 hg_32 rfl dX1_cutFirst_37 ?_
        refine at_iload_n 1 dX1_cutFirst_40 rfl ?_
        refine at_iload_n 2 dX1_cutFirst_41 rfl ?_
        obtain ⟨q10, hq10, h⟩ := sp_bind h
        refine at_callVi (st := []) hK mt_X5_valueOf ml_X1_65 cl_X5 hg_33 (t_X5_valueOf hK hq10) rfl rfl (Nat.le_of_ble_eq_true rfl) ⟨(by show 1 + 1 ≤ 5 + δ + 1; omega), (by show 8 + (5 + 11) + 100 * 1 ≤ 100 * (5 + δ + 1); omega)⟩ ⟨Nat.le_refl _, Nat.le_refl _⟩ dX1_cutFirst_42 ?_
        refine at_istore [(0, .ref (b + 32)), (1, .int v1), (2, .int v2), (3, .int v3), (4, .int q7), (5, .int q10)] dX1_cutFirst_45 (Nat.le_of_ble_eq_true rfl) rfl ?_
        refine at_iload 5 dX1_cutFirst_47 rfl ?_
        refine at_iconst (-1) dX1_cutFirst_49 ic_m1 ?_
        refine at_icmp_eq 56 dX1_cutFirst_50 (by decide) (fun c11 => ?_) (fun c11 => ?_)
        · rw [if_pos c11] at h
          refine at_aload_n 0 dX1_cutFirst_56 rfl ?_
          refine at_getf cl_X1 (by decide) fl_X1_30 hg_32 rfl dX1_cutFirst_57 ?_
          refine at_iload_n 1 dX1_cutFirst_60 rfl ?_
          refine at_iload_n 2 dX1_cutFirst_61 rfl ?_
          obtain ⟨q12, hq12, h⟩ := sp_bind h
          refine at_callVi (st := []) hK mt_X7_find ml_X1_68 cl_X7 hg_16 (t_X7_find hK hq12) rfl rfl (Nat.le_of_ble_eq_true rfl) ⟨(by show 4 + 1 ≤ 5 + δ + 1; omega), (by show 8 + (4 + 11) + 100 * 4 ≤ 100 * (5 + δ + 1); omega)⟩ ⟨Nat.le_refl _, Nat.le_refl _⟩ dX1_cutFirst_62 ?_
          refine at_zne 71 dX1_cutFirst_65 (by decide) (fun c13 => ?_) (fun c13 => ?_)
          · rw [if_pos c13] at h
            refine at_aload_n 0 dX1_cutFirst_71 rfl ?_
            refine at_getf cl_X1 (by decide) fl_X1_22 hg_32 rfl dX1_cutFirst_72 ?_
            refine at_iload_n 1 dX1_cutFirst_75 rfl ?_
            refine at_iload_n 2 dX1_cutFirst_76 rfl ?_
            obtain ⟨q14, hq14, h⟩ := sp_bind h
            refine at_callVi (st := []) hK mt_X6_openOf ml_X1_46 cl_X6 hg_2 (t_X6_openOf hK hq14) rfl rfl (Nat.le_of_ble_eq_true rfl) ⟨(by show 1 + 1 ≤ 5 + δ + 1; omega), (by show 8 + (3 + 11) + 100 * 1 ≤ 100 * (5 + δ + 1); omega)⟩ ⟨Nat.le_refl _, Nat.le_refl _⟩ dX1_cutFirst_77 ?_
            refine at_istore [(0, .ref (b + 32)), (1, .int v1), (2, .int v2), (3, .int v3), (4, .int q7), (5, .int q10), (6, .int q14)] dX1_cutFirst_80 (Nat.le_of_ble_eq_true rfl) rfl ?_
            refine at_aload_n 0 dX1_cutFirst_82 rfl ?_
            refine at_getf cl_X1 (by decide) fl_X1_30 hg_32 rfl dX1_cutFirst_83 ?_
            obtain ⟨q15, hq15, h⟩ := sp_bind h
            refine at_callVl (st := []) hK mt_X7_replies ml_X1_74 cl_X7 hg_16 (t_X7_replies hK hq15) rfl rfl (Nat.le_of_ble_eq_true rfl) ⟨(by show 3 + 1 ≤ 5 + δ + 1; omega), (by show 8 + (5 + 11) + 100 * 3 ≤ 100 * (5 + δ + 1); omega)⟩ ⟨Nat.le_refl _, Nat.le_refl _⟩ dX1_cutFirst_86 ?_
            refine at_lstore [(0, .ref (b + 32)), (1, .int v1), (2, .int v2), (3, .int v3), (4, .int q7), (5, .int q10), (6, .int q14), (7, .long (q15.1))] dX1_cutFirst_89 (Nat.le_of_ble_eq_true rfl) rfl ?_
            refine at_iconst 0 dX1_cutFirst_91 ic_0 ?_
            refine at_istore [(0, .ref (b + 32)), (1, .int v1), (2, .int v2), (3, .int v3), (4, .int q7), (5, .int q10), (6, .int q14), (7, .long (q15.1)), (9, .int 0)] dX1_cutFirst_92 (Nat.le_of_ble_eq_true rfl) rfl ?_
            refine at_iconst 0 dX1_cutFirst_94 ic_0 ?_
            refine at_istore [(0, .ref (b + 32)), (1, .int v1), (2, .int v2), (3, .int v3), (4, .int q7), (5, .int q10), (6, .int q14), (7, .long (q15.1)), (9, .int 0), (10, .int 0)] dX1_cutFirst_95 (Nat.le_of_ble_eq_true rfl) rfl ?_
            refine at_sub [0, 1, 2, 3, 6, 7, 8, 9] [(0, .ref (b + 32)), (1, .int v1), (2, .int v2), (3, .int v3), (6, .int q14), (7, .long (q15.1)), (9, .int 0), (10, .int 0)] rfl ?_
            exact t_X1_cutFirst_97 hK N _ hR N _ _ _ _ _ _ _ _ _ _ h
          · rw [if_neg c13] at h
            refine at_ldc kn_X1_62 dX1_cutFirst_68 ?_
            cases h; exact at_iret rfl (Nat.le_refl _) (Nat.le_refl _) ⟨rfl, rfl⟩ dX1_cutFirst_70
        · rw [if_neg c11] at h
          refine at_iload 5 dX1_cutFirst_53 rfl ?_
          cases h; exact at_iret rfl (Nat.le_refl _) (Nat.le_refl _) ⟨rfl, rfl⟩ dX1_cutFirst_55
      · rw [if_neg c9] at h
        refine at_sub [4] [(4, .int q7)] rfl ?_
        exact t_X1_cutFirst_23 hK N _ hR _ _ _ _ h
theorem t_X1_cutFirst {D : va_G} {b : Nat} {K : State → Heap → Prop} {sa : Nat → Nat} (hK : sx_Kk b K sa) {N : Nat} {uG uN uD uR uL uT uA uH xA xB xC xD xE xF xG xH xI xJ xK xL uO : sx_C} {G : sx_H} {v1 : Int32} {v2 : Int32} {v3 : Int32} {uF : sx_C} {uP : sx_C} {uM : sx_C} {δ : Nat} {res : Int32 × sx_C × sx_C × sx_C} (h : f_X1_cutFirst N uN δ v1 v2 v3 uF uP uM = some res) : sx_Runs D b K yX1_cutFirst YX1_cutFirst (sx_rm (5 + δ)) [.ref (b + 32), .int v1, .int v2, .int v3] (sx_hp b uG uN uD uR uF uP uL uT uA uM uH xA xB xC xD xE xF xG xH xI xJ xK xL uO G) (sx_Ex (some (.int res.1)) (sx_hp b uG uN uD uR (res.2.1) (res.2.2.1) uL uT uA (res.2.2.2) uH xA xB xC xD xE xF xG xH xI xJ xK xL uO G)) := t_X1_cutFirst_rec hK δ _ _ _ _ _ _ _ h
set_option maxRecDepth 100000 in
theorem t_X1_joinFirst_23 {D : va_G} {b : Nat} {K : State → Heap → Prop} {sa : Nat → Nat} (hK : sx_Kk b K sa) (N : Nat) {δ : Nat} {kR : Int32 → Int32 → Int32 → sx_C → sx_C → Option (Int32 × sx_C × sx_C)} {uG uN uD uR uP uL uT uA uH xA xB xC xD xE xF xG xH xI xJ xK xL uO : sx_C} {G : sx_H} (res : Int32 × sx_C × sx_C) (hR : ∀ (v1 : Int32) (v2 : Int32) (v3 : Int32) (uF : sx_C) (uM : sx_C) (res : Int32 × sx_C × sx_C), kR v1 v2 v3 uF uM = some res → sx_Runs D b K yX1_joinFirst YX1_joinFirst (sx_rm (5 + δ)) [.ref (b + 32), .int v1, .int v2, .int v3] (sx_hp b uG uN uD uR uF uP uL uT uA uM uH xA xB xC xD xE xF xG xH xI xJ xK xL uO G) (sx_Ex (some (.int res.1)) (sx_hp b uG uN uD uR (res.2.1) uP uL uT uA (res.2.2) uH xA xB xC xD xE xF xG xH xI xJ xK xL uO G))) : ∀ (v4 : Int32) (uF : sx_C) (uM : sx_C), f_X1_joinFirst_23 N kR uN v4 uF uM = some res → sx_At D b K YX1_joinFirst (sx_rm (5 + δ + 1)) (sx_Ex (some (.int res.1)) (sx_hp b uG uN uD uR (res.2.1) uP uL uT uA (res.2.2) uH xA xB xC xD xE xF xG xH xI xJ xK xL uO G)) 23 [(4, .int v4)] [] (sx_hp b uG uN uD uR uF uP uL uT uA uM uH xA xB xC xD xE xF xG xH xI xJ xK xL uO G) 0 0 := by
  intro v4 uF uM h
  rw [f_X1_joinFirst_23] at h
  refine at_iload 0 dX1_joinFirst_23 rfl ?_
  refine at_iconst 1 dX1_joinFirst_25 ic_1 ?_
  refine at_icmp_ne 34 dX1_joinFirst_26 (by decide) (fun c1 => ?_) (fun c1 => ?_)
  · rw [if_neg c1] at h
    refine at_ldc kn_X1_62 dX1_joinFirst_34 ?_
    cases h; exact at_iret rfl (Nat.le_refl _) (Nat.le_refl _) ⟨rfl, rfl⟩ dX1_joinFirst_36
  · rw [if_pos c1] at h
    refine at_ldc kn_X1_64 dX1_joinFirst_29 ?_
    refine at_goto 36 dX1_joinFirst_31 (by decide) ?_
    cases h; exact at_iret rfl (Nat.le_refl _) (Nat.le_refl _) ⟨rfl, rfl⟩ dX1_joinFirst_36
set_option maxRecDepth 100000 in
theorem t_X1_joinFirst_170 {D : va_G} {b : Nat} {K : State → Heap → Prop} {sa : Nat → Nat} (hK : sx_Kk b K sa) (N : Nat) {δ : Nat} {kR : Int32 → Int32 → Int32 → sx_C → sx_C → Option (Int32 × sx_C × sx_C)} {k74 : Int32 → Int32 → Int32 → Int32 → Int32 → Int32 → sx_C → sx_C → Option (Int32 × sx_C × sx_C)} {uG uN uD uR uP uL uT uA uH xA xB xC xD xE xF xG xH xI xJ xK xL uO : sx_C} {G : sx_H} (res : Int32 × sx_C × sx_C) (hR : ∀ (v1 : Int32) (v2 : Int32) (v3 : Int32) (uF : sx_C) (uM : sx_C) (res : Int32 × sx_C × sx_C), kR v1 v2 v3 uF uM = some res → sx_Runs D b K yX1_joinFirst YX1_joinFirst (sx_rm (5 + δ)) [.ref (b + 32), .int v1, .int v2, .int v3] (sx_hp b uG uN uD uR uF uP uL uT uA uM uH xA xB xC xD xE xF xG xH xI xJ xK xL uO G) (sx_Ex (some (.int res.1)) (sx_hp b uG uN uD uR (res.2.1) uP uL uT uA (res.2.2) uH xA xB xC xD xE xF xG xH xI xJ xK xL uO G))) (hk74 : ∀ (v1 : Int32) (v2 : Int32) (v3 : Int32) (v6 : Int32) (v7 : Int32) (v8 : Int32) (uF : sx_C) (uM : sx_C), k74 v1 v2 v3 v6 v7 v8 uF uM = some res → sx_At D b K YX1_joinFirst (sx_rm (5 + δ + 1)) (sx_Ex (some (.int res.1)) (sx_hp b uG uN uD uR (res.2.1) uP uL uT uA (res.2.2) uH xA xB xC xD xE xF xG xH xI xJ xK xL uO G)) 74 [(0, .ref (b + 32)), (1, .int v1), (2, .int v2), (3, .int v3), (6, .int v6), (7, .int v7), (8, .int v8)] [] (sx_hp b uG uN uD uR uF uP uL uT uA uM uH xA xB xC xD xE xF xG xH xI xJ xK xL uO G) 0 0) : ∀ (v1 : Int32) (v2 : Int32) (v3 : Int32) (v6 : Int32) (v7 : Int32) (v8 : Int32) (uF : sx_C) (uM : sx_C), f_X1_joinFirst_170 N kR k74 uN v1 v2 v3 v6 v7 v8 uF uM = some res → sx_At D b K YX1_joinFirst (sx_rm (5 + δ + 1)) (sx_Ex (some (.int res.1)) (sx_hp b uG uN uD uR (res.2.1) uP uL uT uA (res.2.2) uH xA xB xC xD xE xF xG xH xI xJ xK xL uO G)) 170 [(0, .ref (b + 32)), (1, .int v1), (2, .int v2), (3, .int v3), (6, .int v6), (7, .int v7), (8, .int v8)] [] (sx_hp b uG uN uD uR uF uP uL uT uA uM uH xA xB xC xD xE xF xG xH xI xJ xK xL uO G) 0 0 := by
  intro v1 v2 v3 v6 v7 v8 uF uM h
  rw [f_X1_joinFirst_170] at h
  refine at_iinc 6 1 [(0, .ref (b + 32)), (1, .int v1), (2, .int v2), (3, .int v3), (6, .int v6), (7, .int v7), (8, .int (v8 + 1))] dX1_joinFirst_170 rfl ic_1 (Nat.le_of_ble_eq_true rfl) rfl ?_
  refine at_goto 74 dX1_joinFirst_173 (by decide) ?_
  exact hk74 _ _ _ _ _ _ _ _ h
set_option maxRecDepth 100000 in
theorem t_X1_joinFirst_152 {D : va_G} {b : Nat} {K : State → Heap → Prop} {sa : Nat → Nat} (hK : sx_Kk b K sa) (N : Nat) {δ : Nat} {kR : Int32 → Int32 → Int32 → sx_C → sx_C → Option (Int32 × sx_C × sx_C)} {k74 : Int32 → Int32 → Int32 → Int32 → Int32 → Int32 → sx_C → sx_C → Option (Int32 × sx_C × sx_C)} {uG uN uD uR uP uL uT uA uH xA xB xC xD xE xF xG xH xI xJ xK xL uO : sx_C} {G : sx_H} (res : Int32 × sx_C × sx_C) (hR : ∀ (v1 : Int32) (v2 : Int32) (v3 : Int32) (uF : sx_C) (uM : sx_C) (res : Int32 × sx_C × sx_C), kR v1 v2 v3 uF uM = some res → sx_Runs D b K yX1_joinFirst YX1_joinFirst (sx_rm (5 + δ)) [.ref (b + 32), .int v1, .int v2, .int v3] (sx_hp b uG uN uD uR uF uP uL uT uA uM uH xA xB xC xD xE xF xG xH xI xJ xK xL uO G) (sx_Ex (some (.int res.1)) (sx_hp b uG uN uD uR (res.2.1) uP uL uT uA (res.2.2) uH xA xB xC xD xE xF xG xH xI xJ xK xL uO G))) (hk74 : ∀ (v1 : Int32) (v2 : Int32) (v3 : Int32) (v6 : Int32) (v7 : Int32) (v8 : Int32) (uF : sx_C) (uM : sx_C), k74 v1 v2 v3 v6 v7 v8 uF uM = some res → sx_At D b K YX1_joinFirst (sx_rm (5 + δ + 1)) (sx_Ex (some (.int res.1)) (sx_hp b uG uN uD uR (res.2.1) uP uL uT uA (res.2.2) uH xA xB xC xD xE xF xG xH xI xJ xK xL uO G)) 74 [(0, .ref (b + 32)), (1, .int v1), (2, .int v2), (3, .int v3), (6, .int v6), (7, .int v7), (8, .int v8)] [] (sx_hp b uG uN uD uR uF uP uL uT uA uM uH xA xB xC xD xE xF xG xH xI xJ xK xL uO G) 0 0) : ∀ (v1 : Int32) (v2 : Int32) (v3 : Int32) (v6 : Int32) (v7 : Int32) (v8 : Int32) (v9 : Int32) (s0 : Int32) (uF : sx_C) (uM : sx_C), f_X1_joinFirst_152 N kR k74 uN v1 v2 v3 v6 v7 v8 v9 s0 uF uM = some res → sx_At D b K YX1_joinFirst (sx_rm (5 + δ + 1)) (sx_Ex (some (.int res.1)) (sx_hp b uG uN uD uR (res.2.1) uP uL uT uA (res.2.2) uH xA xB xC xD xE xF xG xH xI xJ xK xL uO G)) 152 [(0, .ref (b + 32)), (1, .int v1), (2, .int v2), (3, .int v3), (6, .int v6), (7, .int v7), (8, .int v8), (9, .int v9)] [.int s0] (sx_hp b uG uN uD uR uF uP uL uT uA uM uH xA xB xC xD xE xF xG xH xI xJ xK xL uO G) 0 0 := by
  intro v1 v2 v3 v6 v7 v8 v9 s0 uF uM h
  rw [f_X1_joinFirst_152] at h
  refine at_istore [(0, .ref (b + 32)), (1, .int v1), (2, .int v2), (3, .int v3), (6, .int v6), (7, .int v7), (8, .int v8), (9, .int v9), (11, .int s0)] dX1_joinFirst_152 (Nat.le_of_ble_eq_true rfl) rfl ?_
  refine at_iload 5 dX1_joinFirst_154 rfl ?_
  refine at_aload_n 0 dX1_joinFirst_156 rfl ?_
  refine at_iload 7 dX1_joinFirst_157 rfl ?_
  refine at_iload 8 dX1_joinFirst_159 rfl ?_
  refine at_iload_n 3 dX1_joinFirst_161 rfl ?_
  refine at_iconst 1 dX1_joinFirst_162 ic_1 ?_
  refine at_iadd dX1_joinFirst_163 ?_
  obtain ⟨q11, hq11, h⟩ := sp_bind h
  refine at_callVi (st := [.int v7]) hK mt_X1_joinFirst ml_X1_59 cl_X1 hg_32 (hR _ _ _ _ _ _ hq11) rfl rfl (Nat.le_of_ble_eq_true rfl) ⟨(by show (5 + δ) + 1 ≤ 5 + δ + 1; omega), (by show 8 + (12 + 11) + 100 * (5 + δ) ≤ 100 * (5 + δ + 1); omega)⟩ ⟨Nat.le_refl _, Nat.le_refl _⟩ dX1_joinFirst_164 ?_
  refine at_iadd dX1_joinFirst_167 ?_
  refine at_istore [(0, .ref (b + 32)), (1, .int v1), (2, .int v2), (3, .int v3), (6, .int v6), (7, .int (v7 + (q11.1))), (8, .int v8), (9, .int v9), (11, .int s0)] dX1_joinFirst_168 (Nat.le_of_ble_eq_true rfl) rfl ?_
  refine at_sub [0, 1, 2, 3, 4, 5, 6] [(0, .ref (b + 32)), (1, .int v1), (2, .int v2), (3, .int v3), (6, .int v6), (7, .int (v7 + (q11.1))), (8, .int v8)] rfl ?_
  exact t_X1_joinFirst_170 hK N _ hR hk74 _ _ _ _ _ _ _ _ h
set_option maxRecDepth 100000 in
theorem t_X1_joinFirst_135 {D : va_G} {b : Nat} {K : State → Heap → Prop} {sa : Nat → Nat} (hK : sx_Kk b K sa) (N : Nat) {δ : Nat} {kR : Int32 → Int32 → Int32 → sx_C → sx_C → Option (Int32 × sx_C × sx_C)} {k74 : Int32 → Int32 → Int32 → Int32 → Int32 → Int32 → sx_C → sx_C → Option (Int32 × sx_C × sx_C)} {uG uN uD uR uP uL uT uA uH xA xB xC xD xE xF xG xH xI xJ xK xL uO : sx_C} {G : sx_H} (res : Int32 × sx_C × sx_C) (hR : ∀ (v1 : Int32) (v2 : Int32) (v3 : Int32) (uF : sx_C) (uM : sx_C) (res : Int32 × sx_C × sx_C), kR v1 v2 v3 uF uM = some res → sx_Runs D b K yX1_joinFirst YX1_joinFirst (sx_rm (5 + δ)) [.ref (b + 32), .int v1, .int v2, .int v3] (sx_hp b uG uN uD uR uF uP uL uT uA uM uH xA xB xC xD xE xF xG xH xI xJ xK xL uO G) (sx_Ex (some (.int res.1)) (sx_hp b uG uN uD uR (res.2.1) uP uL uT uA (res.2.2) uH xA xB xC xD xE xF xG xH xI xJ xK xL uO G))) (hk74 : ∀ (v1 : Int32) (v2 : Int32) (v3 : Int32) (v6 : Int32) (v7 : Int32) (v8 : Int32) (uF : sx_C) (uM : sx_C), k74 v1 v2 v3 v6 v7 v8 uF uM = some res → sx_At D b K YX1_joinFirst (sx_rm (5 + δ + 1)) (sx_Ex (some (.int res.1)) (sx_hp b uG uN uD uR (res.2.1) uP uL uT uA (res.2.2) uH xA xB xC xD xE xF xG xH xI xJ xK xL uO G)) 74 [(0, .ref (b + 32)), (1, .int v1), (2, .int v2), (3, .int v3), (6, .int v6), (7, .int v7), (8, .int v8)] [] (sx_hp b uG uN uD uR uF uP uL uT uA uM uH xA xB xC xD xE xF xG xH xI xJ xK xL uO G) 0 0) : ∀ (v1 : Int32) (v2 : Int32) (v3 : Int32) (v6 : Int32) (v7 : Int32) (v8 : Int32) (v9 : Int32) (s0 : Int32) (uF : sx_C) (uM : sx_C), f_X1_joinFirst_135 N kR k74 uN v1 v2 v3 v6 v7 v8 v9 s0 uF uM = some res → sx_At D b K YX1_joinFirst (sx_rm (5 + δ + 1)) (sx_Ex (some (.int res.1)) (sx_hp b uG uN uD uR (res.2.1) uP uL uT uA (res.2.2) uH xA xB xC xD xE xF xG xH xI xJ xK xL uO G)) 135 [(0, .ref (b + 32)), (1, .int v1), (2, .int v2), (3, .int v3), (6, .int v6), (7, .int v7), (8, .int v8), (9, .int v9)] [.int s0] (sx_hp b uG uN uD uR uF uP uL uT uA uM uH xA xB xC xD xE xF xG xH xI xJ xK xL uO G) 0 0 := by
  intro v1 v2 v3 v6 v7 v8 v9 s0 uF uM h
  rw [f_X1_joinFirst_135] at h
  refine at_istore [(0, .ref (b + 32)), (1, .int v1), (2, .int v2), (3, .int v3), (6, .int v6), (7, .int v7), (8, .int v8), (9, .int v9), (10, .int s0)] dX1_joinFirst_135 (Nat.le_of_ble_eq_true rfl) rfl ?_
  refine at_iload 8 dX1_joinFirst_137 rfl ?_
  refine at_if_ge 146 dX1_joinFirst_139 (by decide) (fun c10 => ?_) (fun c10 => ?_)
  · rw [if_pos c10] at h
    refine at_iload_n 2 dX1_joinFirst_146 rfl ?_
    refine at_iconst 1 dX1_joinFirst_147 ic_1 ?_
    refine at_iload 8 dX1_joinFirst_148 rfl ?_
    refine at_ishl dX1_joinFirst_150 ?_
    refine at_ior dX1_joinFirst_151 ?_
    refine at_sub [0, 1, 2, 3, 4, 5, 6, 7] [(0, .ref (b + 32)), (1, .int v1), (2, .int v2), (3, .int v3), (6, .int v6), (7, .int v7), (8, .int v8), (9, .int v9)] rfl ?_
    exact t_X1_joinFirst_152 hK N _ hR hk74 _ _ _ _ _ _ _ _ _ _ h
  · rw [if_neg c10] at h
    refine at_iload_n 2 dX1_joinFirst_142 rfl ?_
    refine at_goto 152 dX1_joinFirst_143 (by decide) ?_
    refine at_sub [0, 1, 2, 3, 4, 5, 6, 7] [(0, .ref (b + 32)), (1, .int v1), (2, .int v2), (3, .int v3), (6, .int v6), (7, .int v7), (8, .int v8), (9, .int v9)] rfl ?_
    exact t_X1_joinFirst_152 hK N _ hR hk74 _ _ _ _ _ _ _ _ _ _ h
set_option maxRecDepth 100000 in
theorem t_X1_joinFirst_74 {D : va_G} {b : Nat} {K : State → Heap → Prop} {sa : Nat → Nat} (hK : sx_Kk b K sa) (N : Nat) {δ : Nat} {kR : Int32 → Int32 → Int32 → sx_C → sx_C → Option (Int32 × sx_C × sx_C)} {uG uN uD uR uP uL uT uA uH xA xB xC xD xE xF xG xH xI xJ xK xL uO : sx_C} {G : sx_H} (res : Int32 × sx_C × sx_C) (hR : ∀ (v1 : Int32) (v2 : Int32) (v3 : Int32) (uF : sx_C) (uM : sx_C) (res : Int32 × sx_C × sx_C), kR v1 v2 v3 uF uM = some res → sx_Runs D b K yX1_joinFirst YX1_joinFirst (sx_rm (5 + δ)) [.ref (b + 32), .int v1, .int v2, .int v3] (sx_hp b uG uN uD uR uF uP uL uT uA uM uH xA xB xC xD xE xF xG xH xI xJ xK xL uO G) (sx_Ex (some (.int res.1)) (sx_hp b uG uN uD uR (res.2.1) uP uL uT uA (res.2.2) uH xA xB xC xD xE xF xG xH xI xJ xK xL uO G))) : ∀ (n0 : Nat) (v1 : Int32) (v2 : Int32) (v3 : Int32) (v6 : Int32) (v7 : Int32) (v8 : Int32) (uF : sx_C) (uM : sx_C), f_X1_joinFirst_74 N kR uN n0 v1 v2 v3 v6 v7 v8 uF uM = some res → sx_At D b K YX1_joinFirst (sx_rm (5 + δ + 1)) (sx_Ex (some (.int res.1)) (sx_hp b uG uN uD uR (res.2.1) uP uL uT uA (res.2.2) uH xA xB xC xD xE xF xG xH xI xJ xK xL uO G)) 74 [(0, .ref (b + 32)), (1, .int v1), (2, .int v2), (3, .int v3), (6, .int v6), (7, .int v7), (8, .int v8)] [] (sx_hp b uG uN uD uR uF uP uL uT uA uM uH xA xB xC xD xE xF xG xH xI xJ xK xL uO G) 0 0 := by
  intro n0
  induction n0 with
  | zero => intro _ _ _ _ _ _ _ _ h; cases h
  | succ n0 ih =>
    intro v1 v2 v3 v6 v7 v8 uF uM h
    rw [f_X1_joinFirst_74] at h
    refine at_iload 6 dX1_joinFirst_74 rfl ?_
    refine at_bipush 14 dX1_joinFirst_76 bp_14 ?_
    refine at_icmp_ge 176 dX1_joinFirst_78 (by decide) (fun c2 => ?_) (fun c2 => ?_)
    · rw [if_pos c2] at h
      refine at_aload_n 0 dX1_joinFirst_176 rfl ?_
      refine at_getf cl_X1 (by decide) fl_X1_14 hg_32 rfl dX1_joinFirst_177 ?_
      refine at_iload_n 1 dX1_joinFirst_180 rfl ?_
      refine at_iload_n 2 dX1_joinFirst_181 rfl ?_
      refine at_iload 5 dX1_joinFirst_182 rfl ?_
      obtain ⟨q3, hq3, h⟩ := sp_bind h
      refine at_callVv (st := []) hK mt_X5_keep ml_X1_81 cl_X5 hg_33 (t_X5_keep hK hq3) rfl rfl (Nat.le_of_ble_eq_true rfl) ⟨(by show 1 + 1 ≤ 5 + δ + 1; omega), (by show 8 + (5 + 11) + 100 * 1 ≤ 100 * (5 + δ + 1); omega)⟩ ⟨Nat.le_refl _, Nat.le_refl _⟩ dX1_joinFirst_184 ?_
      refine at_iload 5 dX1_joinFirst_187 rfl ?_
      cases h; exact at_iret rfl (Nat.le_refl _) (Nat.le_refl _) ⟨rfl, rfl⟩ dX1_joinFirst_189
    · rw [if_neg c2] at h
      refine at_iload 4 dX1_joinFirst_81 rfl ?_
      refine at_iload 6 dX1_joinFirst_83 rfl ?_
      obtain ⟨q4, hq4, h⟩ := sp_bind h
      refine at_callSi (st := []) hK mt_X11_has ml_X1_78 (t_X11_has hK hq4) rfl rfl (Nat.le_of_ble_eq_true rfl) ⟨(by show 0 + 1 ≤ 5 + δ + 1; omega), (by show 8 + (2 + 11) + 100 * 0 ≤ 100 * (5 + δ + 1); omega)⟩ ⟨Nat.le_refl _, Nat.le_refl _⟩ dX1_joinFirst_85 ?_
      refine at_zeq 170 dX1_joinFirst_88 (by decide) (fun c5 => ?_) (fun c5 => ?_)
      · rw [if_neg c5] at h
        exact t_X1_joinFirst_170 hK N _ hR ih _ _ _ _ _ _ _ _ h
      · rw [if_pos c5] at h
        refine at_iload_n 1 dX1_joinFirst_91 rfl ?_
        refine at_iconst 1 dX1_joinFirst_92 ic_1 ?_
        refine at_iload 6 dX1_joinFirst_93 rfl ?_
        refine at_ishl dX1_joinFirst_95 ?_
        refine at_ior dX1_joinFirst_96 ?_
        refine at_istore [(0, .ref (b + 32)), (1, .int v1), (2, .int v2), (3, .int v3), (6, .int v6), (7, .int v7), (8, .int v8), (9, .int (v1 ||| (sp_shl 1 v8)))] dX1_joinFirst_97 (Nat.le_of_ble_eq_true rfl) rfl ?_
        refine at_aload_n 0 dX1_joinFirst_99 rfl ?_
        refine at_getf cl_X1 (by decide) fl_X1_22 hg_32 rfl dX1_joinFirst_100 ?_
        refine at_aload_n 0 dX1_joinFirst_103 rfl ?_
        refine at_getf cl_X1 (by decide) fl_X1_22 hg_32 rfl dX1_joinFirst_104 ?_
        refine at_iload 7 dX1_joinFirst_107 rfl ?_
        obtain ⟨q6, hq6, h⟩ := sp_bind h
        refine at_callVi (st := [.ref (b + 2)]) hK mt_X6_placesBy ml_X1_85 cl_X6 hg_2 (t_X6_placesBy hK hq6) rfl rfl (Nat.le_of_ble_eq_true rfl) ⟨(by show 2 + 1 ≤ 5 + δ + 1; omega), (by show 8 + (4 + 11) + 100 * 2 ≤ 100 * (5 + δ + 1); omega)⟩ ⟨Nat.le_refl _, Nat.le_refl _⟩ dX1_joinFirst_109 ?_
        obtain ⟨q7, hq7, h⟩ := sp_bind h
        refine at_callVi (st := []) hK mt_X6_endsMeet ml_X1_89 cl_X6 hg_2 (t_X6_endsMeet hK hq7) rfl rfl (Nat.le_of_ble_eq_true rfl) ⟨(by show 2 + 1 ≤ 5 + δ + 1; omega), (by show 8 + (2 + 11) + 100 * 2 ≤ 100 * (5 + δ + 1); omega)⟩ ⟨Nat.le_refl _, Nat.le_refl _⟩ dX1_joinFirst_112 ?_
        refine at_zeq 123 dX1_joinFirst_115 (by decide) (fun c8 => ?_) (fun c8 => ?_)
        · rw [if_neg c8] at h
          refine at_aload_n 0 dX1_joinFirst_123 rfl ?_
          refine at_getf cl_X1 (by decide) fl_X1_26 hg_32 rfl dX1_joinFirst_124 ?_
          refine at_iconst 0 dX1_joinFirst_127 ic_0 ?_
          refine at_iconst 1 dX1_joinFirst_128 ic_1 ?_
          refine at_iload 7 dX1_joinFirst_129 rfl ?_
          refine at_iload_n 2 dX1_joinFirst_131 rfl ?_
          obtain ⟨q9, hq9, h⟩ := sp_bind h
          refine at_callVi (st := []) hK mt_X3_winningFrom ml_X1_40 cl_X3 hg_15 (t_X3_winningFrom hK hq9) rfl rfl (Nat.le_of_ble_eq_true rfl) ⟨(by show 4 + 1 ≤ 5 + δ + 1; omega), (by show 8 + (10 + 11) + 100 * 4 ≤ 100 * (5 + δ + 1); omega)⟩ ⟨Nat.le_refl _, Nat.le_refl _⟩ dX1_joinFirst_132 ?_
          exact t_X1_joinFirst_135 hK N _ hR ih _ _ _ _ _ _ _ _ _ _ h
        · rw [if_pos c8] at h
          refine at_bipush (-2) dX1_joinFirst_118 bp_m2 ?_
          refine at_goto 135 dX1_joinFirst_120 (by decide) ?_
          exact t_X1_joinFirst_135 hK N _ hR ih _ _ _ _ _ _ _ _ _ _ h
set_option maxRecDepth 100000 in
theorem t_X1_joinFirst_rec {D : va_G} {b : Nat} {K : State → Heap → Prop} {sa : Nat → Nat} (hK : sx_Kk b K sa) {N : Nat} {uG uN uD uR uP uL uT uA uH xA xB xC xD xE xF xG xH xI xJ xK xL uO : sx_C} {G : sx_H} : ∀ (δ : Nat), ∀ (v1 : Int32) (v2 : Int32) (v3 : Int32) (uF : sx_C) (uM : sx_C) (res : Int32 × sx_C × sx_C), f_X1_joinFirst N uN δ v1 v2 v3 uF uM = some res → sx_Runs D b K yX1_joinFirst YX1_joinFirst (sx_rm (5 + δ)) [.ref (b + 32), .int v1, .int v2, .int v3] (sx_hp b uG uN uD uR uF uP uL uT uA uM uH xA xB xC xD xE xF xG xH xI xJ xK xL uO G) (sx_Ex (some (.int res.1)) (sx_hp b uG uN uD uR (res.2.1) uP uL uT uA (res.2.2) uH xA xB xC xD xE xF xG xH xI xJ xK xL uO G)) := by
  intro δ
  induction δ with
  | zero => intro _ _ _ _ _ _ h; cases h
  | succ δ ihR =>
    intro v1 v2 v3 uF uM res h
    have hR := ihR
    rw [f_X1_joinFirst] at h
    refine sx_run (by decide +kernel) rfl rfl (Nat.le_of_ble_eq_true rfl) ?_
    refine at_aload_n 0 dX1_joinFirst_0 rfl ?_
    refine at_getf cl_X1 (by decide) fl_X1_22 hg_32 rfl dX1_joinFirst_1 ?_
    refine at_iload_n 1 dX1_joinFirst_4 rfl ?_
    refine at_iload_n 2 dX1_joinFirst_5 rfl ?_
    obtain ⟨q12, hq12, h⟩ := sp_bind h
    refine at_callVi (st := []) hK mt_X6_holder ml_X1_34 cl_X6 hg_2 (t_X6_holder hK hq12) rfl rfl (Nat.le_of_ble_eq_true rfl) ⟨(by show 3 + 1 ≤ 5 + δ + 1; omega), (by show 8 + (3 + 11) + 100 * 3 ≤ 100 * (5 + δ + 1); omega)⟩ ⟨Nat.le_refl _, Nat.le_refl _⟩ dX1_joinFirst_6 ?_
    refine at_istore [(0, .ref (b + 32)), (1, .int v1), (2, .int v2), (3, .int v3), (4, .int q12)] dX1_joinFirst_9 (Nat.le_of_ble_eq_true rfl) rfl ?_
    refine at_iload 4 dX1_joinFirst_11 rfl ?_
    refine at_iconst 2 dX1_joinFirst_13 ic_2 ?_
    refine at_icmp_ne 23 dX1_joinFirst_14 (by decide) (fun c13 => ?_) (fun c13 => ?_)
    · rw [if_neg c13] at h
      refine at_sub [4] [(4, .int q12)] rfl ?_
      exact t_X1_joinFirst_23 hK N _ hR _ _ _ h
    · rw [if_pos c13] at h
      refine at_iload_n 3 dX1_joinFirst_17 rfl ?_
      refine at_bipush 14 dX1_joinFirst_18 bp_14 ?_
      refine at_icmp_le 37 dX1_joinFirst_20 (by decide) (fun c14 => ?_) (fun c14 => ?_)
      · rw [if_pos c14] at h
        refine at_aload_n 0 dX1_joinFirst_37 rfl ?_
        refine at_getf cl_X1 (by decide) fl_X1_14 hg_32 rfl dX1_joinFirst_38 ?_
        refine at_iload_n 1 dX1_joinFirst_41 rfl ?_
        refine at_iload_n 2 dX1_joinFirst_42 rfl ?_
        obtain ⟨q15, hq15, h⟩ := sp_bind h
        refine at_callVi (st := []) hK mt_X5_valueOf ml_X1_65 cl_X5 hg_33 (t_X5_valueOf hK hq15) rfl rfl (Nat.le_of_ble_eq_true rfl) ⟨(by show 1 + 1 ≤ 5 + δ + 1; omega), (by show 8 + (5 + 11) + 100 * 1 ≤ 100 * (5 + δ + 1); omega)⟩ ⟨Nat.le_refl _, Nat.le_refl _⟩ dX1_joinFirst_43 ?_
        refine at_istore [(0, .ref (b + 32)), (1, .int v1), (2, .int v2), (3, .int v3), (4, .int q12), (5, .int q15)] dX1_joinFirst_46 (Nat.le_of_ble_eq_true rfl) rfl ?_
        refine at_iload 5 dX1_joinFirst_48 rfl ?_
        refine at_iconst (-1) dX1_joinFirst_50 ic_m1 ?_
        refine at_icmp_eq 57 dX1_joinFirst_51 (by decide) (fun c16 => ?_) (fun c16 => ?_)
        · rw [if_pos c16] at h
          refine at_aload_n 0 dX1_joinFirst_57 rfl ?_
          refine at_getf cl_X1 (by decide) fl_X1_22 hg_32 rfl dX1_joinFirst_58 ?_
          refine at_iload_n 1 dX1_joinFirst_61 rfl ?_
          refine at_iload_n 2 dX1_joinFirst_62 rfl ?_
          obtain ⟨q17, hq17, h⟩ := sp_bind h
          refine at_callVi (st := []) hK mt_X6_openOf ml_X1_46 cl_X6 hg_2 (t_X6_openOf hK hq17) rfl rfl (Nat.le_of_ble_eq_true rfl) ⟨(by show 1 + 1 ≤ 5 + δ + 1; omega), (by show 8 + (3 + 11) + 100 * 1 ≤ 100 * (5 + δ + 1); omega)⟩ ⟨Nat.le_refl _, Nat.le_refl _⟩ dX1_joinFirst_63 ?_
          refine at_istore [(0, .ref (b + 32)), (1, .int v1), (2, .int v2), (3, .int v3), (4, .int q12), (5, .int q15), (6, .int q17)] dX1_joinFirst_66 (Nat.le_of_ble_eq_true rfl) rfl ?_
          refine at_iconst 0 dX1_joinFirst_68 ic_0 ?_
          refine at_istore [(0, .ref (b + 32)), (1, .int v1), (2, .int v2), (3, .int v3), (4, .int q12), (5, .int q15), (6, .int q17), (7, .int 0)] dX1_joinFirst_69 (Nat.le_of_ble_eq_true rfl) rfl ?_
          refine at_iconst 0 dX1_joinFirst_71 ic_0 ?_
          refine at_istore [(0, .ref (b + 32)), (1, .int v1), (2, .int v2), (3, .int v3), (4, .int q12), (5, .int q15), (6, .int q17), (7, .int 0), (8, .int 0)] dX1_joinFirst_72 (Nat.le_of_ble_eq_true rfl) rfl ?_
          refine at_sub [0, 1, 2, 3, 6, 7, 8] [(0, .ref (b + 32)), (1, .int v1), (2, .int v2), (3, .int v3), (6, .int q17), (7, .int 0), (8, .int 0)] rfl ?_
          exact t_X1_joinFirst_74 hK N _ hR N _ _ _ _ _ _ _ _ h
        · rw [if_neg c16] at h
          refine at_iload 5 dX1_joinFirst_54 rfl ?_
          cases h; exact at_iret rfl (Nat.le_refl _) (Nat.le_refl _) ⟨rfl, rfl⟩ dX1_joinFirst_56
      · rw [if_neg c14] at h
        refine at_sub [4] [(4, .int q12)] rfl ?_
        exact t_X1_joinFirst_23 hK N _ hR _ _ _ h
theorem t_X1_joinFirst {D : va_G} {b : Nat} {K : State → Heap → Prop} {sa : Nat → Nat} (hK : sx_Kk b K sa) {N : Nat} {uG uN uD uR uP uL uT uA uH xA xB xC xD xE xF xG xH xI xJ xK xL uO : sx_C} {G : sx_H} {v1 : Int32} {v2 : Int32} {v3 : Int32} {uF : sx_C} {uM : sx_C} {δ : Nat} {res : Int32 × sx_C × sx_C} (h : f_X1_joinFirst N uN δ v1 v2 v3 uF uM = some res) : sx_Runs D b K yX1_joinFirst YX1_joinFirst (sx_rm (5 + δ)) [.ref (b + 32), .int v1, .int v2, .int v3] (sx_hp b uG uN uD uR uF uP uL uT uA uM uH xA xB xC xD xE xF xG xH xI xJ xK xL uO G) (sx_Ex (some (.int res.1)) (sx_hp b uG uN uD uR (res.2.1) uP uL uT uA (res.2.2) uH xA xB xC xD xE xF xG xH xI xJ xK xL uO G)) := t_X1_joinFirst_rec hK δ _ _ _ _ _ _ h
set_option maxRecDepth 100000 in
theorem t_X5_clear {D : va_G} {b : Nat} {K : State → Heap → Prop} {sa : Nat → Nat} (hK : sx_Kk b K sa) {uG uN uD uR uF uP uL uT uA uH xA xB xC xD xE xF xG xH xI xJ xK xL uO : sx_C} {G : sx_H} {uM : sx_C} {res : sx_C} (h : f_X5_clear uM = some res) : sx_Runs D b K yX5_clear YX5_clear (sx_rm 1) [.ref (b + 33)] (sx_hp b uG uN uD uR uF uP uL uT uA uM uH xA xB xC xD xE xF xG xH xI xJ xK xL uO G) (sx_Ex none (sx_hp b uG uN uD uR uF uP uL uT uA res uH xA xB xC xD xE xF xG xH xI xJ xK xL uO G)) := by
  rw [f_X5_clear] at h
  refine sx_run (by decide +kernel) rfl rfl (Nat.le_of_ble_eq_true rfl) ?_
  refine at_aload_n 0 dX5_clear_0 rfl ?_
  refine at_getf cl_X5 (by decide) fl_X5_11 hg_33 rfl dX5_clear_1 ?_
  refine at_iconst 0 dX5_clear_4 ic_0 ?_
  refine at_fillI hK hg_34 hw_34 (by decide) ml_X5_18 (Nat.le_of_ble_eq_true rfl) ⟨Nat.le_of_ble_eq_true rfl, Nat.le_of_ble_eq_true rfl⟩ ⟨Nat.le_refl _, Nat.le_refl _⟩ dX5_clear_5 ?_
  cases h; exact at_vret rfl (Nat.le_refl _) (Nat.le_refl _) ⟨rfl, rfl⟩ dX5_clear_8
