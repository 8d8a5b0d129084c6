set_option maxRecDepth 100000 in
theorem t_X12_token_18 {D : va_G} {b : Nat} {K : State → Heap → Prop} {sa : Nat → Nat} (hK : sx_Kk b K sa) (N : Nat) {k0 : sx_C → Option (sx_C)} {uG uN uD uR uF uP uL uT uA uM uH xA xB xD xE xF xG xH xI xJ xK xL uO : sx_C} {G : sx_H} (res : sx_C) (hk0 : ∀ (xC : sx_C), k0 xC = some res → sx_At D b K YX12_token (sx_rm 5) (sx_Ex none (sx_hp b uG uN uD uR uF uP uL uT uA uM uH xA xB res xD xE xF xG xH xI xJ xK xL uO G)) 0 [(0, .ref (b + 38))] [] (sx_hp b uG uN uD uR uF uP uL uT uA uM uH xA xB xC xD xE xF xG xH xI xJ xK xL uO G) 0 0) : ∀ (xC : sx_C), f_X12_token_18 N k0 xA xC = some res → sx_At D b K YX12_token (sx_rm 5) (sx_Ex none (sx_hp b uG uN uD uR uF uP uL uT uA uM uH xA xB res xD xE xF xG xH xI xJ xK xL uO G)) 18 [(0, .ref (b + 38))] [] (sx_hp b uG uN uD uR uF uP uL uT uA uM uH xA xB xC xD xE xF xG xH xI xJ xK xL uO G) 0 0 := by
  intro xC h
  rw [f_X12_token_18] at h
  refine at_aload_n 0 dX12_token_18 rfl ?_
  refine at_dup dX12_token_19 rfl ?_
  refine at_getf cl_X12 (by decide) fl_X12_79 hg_38 rfl dX12_token_20 ?_
  refine at_iconst 1 dX12_token_23 ic_1 ?_
  refine at_iadd dX12_token_24 ?_
  refine at_putf cl_X12 (by decide) fl_X12_79 rfl hg_38 rfl rfl (Nat.le_of_ble_eq_true rfl) hs_38_28 dX12_token_25 ?_
  refine at_goto 0 dX12_token_28 (by decide) ?_
  exact hk0 _ h
set_option maxRecDepth 100000 in
theorem t_X12_token_191 {D : va_G} {b : Nat} {K : State → Heap → Prop} {sa : Nat → Nat} (hK : sx_Kk b K sa) (N : Nat) {uG uN uD uR uF uP uL uT uA uM uH xA xB xD xE xF xG xH xI xJ xK xL uO : sx_C} {G : sx_H} (res : sx_C) : ∀ (s1 : Int32) (xC : sx_C), f_X12_token_191 N xA s1 xC = some res → sx_At D b K YX12_token (sx_rm 5) (sx_Ex none (sx_hp b uG uN uD uR uF uP uL uT uA uM uH xA xB res xD xE xF xG xH xI xJ xK xL uO G)) 191 [(0, .ref (b + 38))] [.int s1, .ref (b + 38)] (sx_hp b uG uN uD uR uF uP uL uT uA uM uH xA xB xC xD xE xF xG xH xI xJ xK xL uO G) 0 0 := by
  intro s1 xC h
  rw [f_X12_token_191] at h
  refine at_putf cl_X12 (by decide) fl_X12_92 rfl hg_38 rfl rfl (Nat.le_of_ble_eq_true rfl) hs_38_30 dX12_token_191 ?_
  refine at_aload_n 0 dX12_token_194 rfl ?_
  refine at_dup dX12_token_195 rfl ?_
  refine at_getf cl_X12 (by decide) fl_X12_79 hg_38 rfl dX12_token_196 ?_
  refine at_iconst 1 dX12_token_199 ic_1 ?_
  refine at_iadd dX12_token_200 ?_
  refine at_putf cl_X12 (by decide) fl_X12_79 rfl hg_38 rfl rfl (Nat.le_of_ble_eq_true rfl) hs_38_28 dX12_token_201 ?_
  cases h; exact at_vret rfl (Nat.le_refl _) (Nat.le_refl _) ⟨rfl, rfl⟩ dX12_token_204
set_option maxRecDepth 100000 in
theorem t_X12_token_163 {D : va_G} {b : Nat} {K : State → Heap → Prop} {sa : Nat → Nat} (hK : sx_Kk b K sa) (N : Nat) {k120 : sx_C → Option (sx_C)} {uG uN uD uR uF uP uL uT uA uM uH xA xB xD xE xF xG xH xI xJ xK xL uO : sx_C} {G : sx_H} (res : sx_C) (hk120 : ∀ (xC : sx_C), k120 xC = some res → sx_At D b K YX12_token (sx_rm 5) (sx_Ex none (sx_hp b uG uN uD uR uF uP uL uT uA uM uH xA xB res xD xE xF xG xH xI xJ xK xL uO G)) 120 [(0, .ref (b + 38))] [] (sx_hp b uG uN uD uR uF uP uL uT uA uM uH xA xB xC xD xE xF xG xH xI xJ xK xL uO G) 0 0) : ∀ (s1 : Int32) (xC : sx_C), f_X12_token_163 N k120 xA s1 xC = some res → sx_At D b K YX12_token (sx_rm 5) (sx_Ex none (sx_hp b uG uN uD uR uF uP uL uT uA uM uH xA xB res xD xE xF xG xH xI xJ xK xL uO G)) 163 [(0, .ref (b + 38))] [.int s1, .ref (b + 38)] (sx_hp b uG uN uD uR uF uP uL uT uA uM uH xA xB xC xD xE xF xG xH xI xJ xK xL uO G) 0 0 := by
  intro s1 xC h
  rw [f_X12_token_163] at h
  refine at_putf cl_X12 (by decide) fl_X12_102 rfl hg_38 rfl rfl (Nat.le_of_ble_eq_true rfl) hs_38_31 dX12_token_163 ?_
  refine at_aload_n 0 dX12_token_166 rfl ?_
  refine at_dup dX12_token_167 rfl ?_
  refine at_getf cl_X12 (by decide) fl_X12_79 hg_38 rfl dX12_token_168 ?_
  refine at_iconst 1 dX12_token_171 ic_1 ?_
  refine at_iadd dX12_token_172 ?_
  refine at_putf cl_X12 (by decide) fl_X12_79 rfl hg_38 rfl rfl (Nat.le_of_ble_eq_true rfl) hs_38_28 dX12_token_173 ?_
  refine at_goto 120 dX12_token_176 (by decide) ?_
  exact hk120 _ h
set_option maxRecDepth 100000 in
theorem t_X12_token_120 {D : va_G} {b : Nat} {K : State → Heap → Prop} {sa : Nat → Nat} (hK : sx_Kk b K sa) (N : Nat) {uG uN uD uR uF uP uL uT uA uM uH xA xB xD xE xF xG xH xI xJ xK xL uO : sx_C} {G : sx_H} (res : sx_C) : ∀ (n0 : Nat) (xC : sx_C), f_X12_token_120 N xA n0 xC = some res → sx_At D b K YX12_token (sx_rm 5) (sx_Ex none (sx_hp b uG uN uD uR uF uP uL uT uA uM uH xA xB res xD xE xF xG xH xI xJ xK xL uO G)) 120 [(0, .ref (b + 38))] [] (sx_hp b uG uN uD uR uF uP uL uT uA uM uH xA xB xC xD xE xF xG xH xI xJ xK xL uO G) 0 0 := by
  intro n0
  induction n0 with
  | zero => intro _ h; cases h
  | succ n0 ih =>
    intro xC h
    rw [f_X12_token_120] at h
    refine at_aload_n 0 dX12_token_120 rfl ?_
    obtain ⟨q16, hq16, h⟩ := sp_bind h
    refine at_callVi (st := []) hK mt_X12_here ml_X12_85 cl_X12 hg_38 (t_X12_here hK hq16) rfl rfl (Nat.le_of_ble_eq_true rfl) ⟨Nat.le_of_ble_eq_true rfl, Nat.le_of_ble_eq_true rfl⟩ ⟨Nat.le_refl _, Nat.le_refl _⟩ dX12_token_121 ?_
    obtain ⟨q17, hq17, h⟩ := sp_bind h
    refine at_callSi (st := []) hK mt_X12_isDigit ml_X12_105 (t_X12_isDigit hK hq17) rfl rfl (Nat.le_of_ble_eq_true rfl) ⟨Nat.le_of_ble_eq_true rfl, Nat.le_of_ble_eq_true rfl⟩ ⟨Nat.le_refl _, Nat.le_refl _⟩ dX12_token_124 ?_
    refine at_zeq 204 dX12_token_127 (by decide) (fun c18 => ?_) (fun c18 => ?_)
    · rw [if_neg c18] at h
      cases h; exact at_vret rfl (Nat.le_refl _) (Nat.le_refl _) ⟨rfl, rfl⟩ dX12_token_204
    · rw [if_pos c18] at h
      refine at_aload_n 0 dX12_token_130 rfl ?_
      refine at_aload_n 0 dX12_token_131 rfl ?_
      refine at_getf cl_X12 (by decide) fl_X12_102 hg_38 rfl dX12_token_132 ?_
      refine at_sipush 9999 dX12_token_135 sh_9999 ?_
      refine at_icmp_le 148 dX12_token_138 (by decide) (fun c19 => ?_) (fun c19 => ?_)
      · rw [if_pos c19] at h
        refine at_bipush 10 dX12_token_148 bp_10 ?_
        refine at_aload_n 0 dX12_token_150 rfl ?_
        refine at_getf cl_X12 (by decide) fl_X12_102 hg_38 rfl dX12_token_151 ?_
        refine at_imul dX12_token_154 ?_
        refine at_aload_n 0 dX12_token_155 rfl ?_
        obtain ⟨q20, hq20, h⟩ := sp_bind h
        refine at_callVi (st := [.int (10 * (gi xC 31)), .ref (b + 38)]) hK mt_X12_here ml_X12_85 cl_X12 hg_38 (t_X12_here hK hq20) rfl rfl (Nat.le_of_ble_eq_true rfl) ⟨Nat.le_of_ble_eq_true rfl, Nat.le_of_ble_eq_true rfl⟩ ⟨Nat.le_refl _, Nat.le_refl _⟩ dX12_token_156 ?_
        refine at_iadd dX12_token_159 ?_
        refine at_bipush 48 dX12_token_160 bp_48 ?_
        refine at_isub dX12_token_162 ?_
        exact t_X12_token_163 hK N _ ih _ _ h
      · rw [if_neg c19] at h
        refine at_aload_n 0 dX12_token_141 rfl ?_
        refine at_getf cl_X12 (by decide) fl_X12_102 hg_38 rfl dX12_token_142 ?_
        refine at_goto 163 dX12_token_145 (by decide) ?_
        exact t_X12_token_163 hK N _ ih _ _ h
set_option maxRecDepth 100000 in
theorem t_X12_token_64 {D : va_G} {b : Nat} {K : State → Heap → Prop} {sa : Nat → Nat} (hK : sx_Kk b K sa) (N : Nat) {uG uN uD uR uF uP uL uT uA uM uH xA xB xD xE xF xG xH xI xJ xK xL uO : sx_C} {G : sx_H} (res : sx_C) : ∀ (n0 : Nat) (xC : sx_C), f_X12_token_64 N xA n0 xC = some res → sx_At D b K YX12_token (sx_rm 5) (sx_Ex none (sx_hp b uG uN uD uR uF uP uL uT uA uM uH xA xB res xD xE xF xG xH xI xJ xK xL uO G)) 64 [(0, .ref (b + 38))] [] (sx_hp b uG uN uD uR uF uP uL uT uA uM uH xA xB xC xD xE xF xG xH xI xJ xK xL uO G) 0 0 := by
  intro n0
  induction n0 with
  | zero => intro _ h; cases h
  | succ n0 ih =>
    intro xC h
    rw [f_X12_token_64] at h
    refine at_aload_n 0 dX12_token_64 rfl ?_
    obtain ⟨q12, hq12, h⟩ := sp_bind h
    refine at_callVi (st := []) hK mt_X12_here ml_X12_85 cl_X12 hg_38 (t_X12_here hK hq12) rfl rfl (Nat.le_of_ble_eq_true rfl) ⟨Nat.le_of_ble_eq_true rfl, Nat.le_of_ble_eq_true rfl⟩ ⟨Nat.le_refl _, Nat.le_refl _⟩ dX12_token_65 ?_
    obtain ⟨q13, hq13, h⟩ := sp_bind h
    refine at_callSi (st := []) hK mt_X12_isSmall ml_X12_95 (t_X12_isSmall hK hq13) rfl rfl (Nat.le_of_ble_eq_true rfl) ⟨Nat.le_of_ble_eq_true rfl, Nat.le_of_ble_eq_true rfl⟩ ⟨Nat.le_refl _, Nat.le_refl _⟩ dX12_token_68 ?_
    refine at_zeq 87 dX12_token_71 (by decide) (fun c14 => ?_) (fun c14 => ?_)
    · rw [if_neg c14] at h
      refine at_aload_n 0 dX12_token_87 rfl ?_
      refine at_iconst 0 dX12_token_88 ic_0 ?_
      refine at_putf cl_X12 (by decide) fl_X12_92 rfl hg_38 rfl rfl (Nat.le_of_ble_eq_true rfl) hs_38_30 dX12_token_89 ?_
      refine at_aload_n 0 dX12_token_92 rfl ?_
      refine at_aload_n 0 dX12_token_93 rfl ?_
      obtain ⟨q15, hq15, h⟩ := sp_bind h
      refine at_callVi (st := [.ref (b + 38)]) hK mt_X12_wordHere ml_X12_99 cl_X12 hg_38 (t_X12_wordHere hK hq15) rfl rfl (Nat.le_of_ble_eq_true rfl) ⟨Nat.le_of_ble_eq_true rfl, Nat.le_of_ble_eq_true rfl⟩ ⟨Nat.le_refl _, Nat.le_refl _⟩ dX12_token_94 ?_
      refine at_putf cl_X12 (by decide) fl_X12_102 rfl hg_38 rfl rfl (Nat.le_of_ble_eq_true rfl) hs_38_31 dX12_token_97 ?_
      refine at_goto 204 dX12_token_100 (by decide) ?_
      cases h; exact at_vret rfl (Nat.le_refl _) (Nat.le_refl _) ⟨rfl, rfl⟩ dX12_token_204
    · rw [if_pos c14] at h
      refine at_aload_n 0 dX12_token_74 rfl ?_
      refine at_dup dX12_token_75 rfl ?_
      refine at_getf cl_X12 (by decide) fl_X12_79 hg_38 rfl dX12_token_76 ?_
      refine at_iconst 1 dX12_token_79 ic_1 ?_
      refine at_iadd dX12_token_80 ?_
      refine at_putf cl_X12 (by decide) fl_X12_79 rfl hg_38 rfl rfl (Nat.le_of_ble_eq_true rfl) hs_38_28 dX12_token_81 ?_
      refine at_goto 64 dX12_token_84 (by decide) ?_
      exact ih _ h
set_option maxRecDepth 100000 in
theorem t_X12_token_0 {D : va_G} {b : Nat} {K : State → Heap → Prop} {sa : Nat → Nat} (hK : sx_Kk b K sa) (N : Nat) {uG uN uD uR uF uP uL uT uA uM uH xA xB xD xE xF xG xH xI xJ xK xL uO : sx_C} {G : sx_H} (res : sx_C) : ∀ (n0 : Nat) (xC : sx_C), f_X12_token_0 N xA n0 xC = some res → sx_At D b K YX12_token (sx_rm 5) (sx_Ex none (sx_hp b uG uN uD uR uF uP uL uT uA uM uH xA xB res xD xE xF xG xH xI xJ xK xL uO G)) 0 [(0, .ref (b + 38))] [] (sx_hp b uG uN uD uR uF uP uL uT uA uM uH xA xB xC xD xE xF xG xH xI xJ xK xL uO G) 0 0 := by
  intro n0
  induction n0 with
  | zero => intro _ h; cases h
  | succ n0 ih =>
    intro xC h
    rw [f_X12_token_0] at h
    refine at_aload_n 0 dX12_token_0 rfl ?_
    obtain ⟨q1, hq1, h⟩ := sp_bind h
    refine at_callVi (st := []) hK mt_X12_here ml_X12_85 cl_X12 hg_38 (t_X12_here hK hq1) rfl rfl (Nat.le_of_ble_eq_true rfl) ⟨Nat.le_of_ble_eq_true rfl, Nat.le_of_ble_eq_true rfl⟩ ⟨Nat.le_refl _, Nat.le_refl _⟩ dX12_token_1 ?_
    refine at_bipush 10 dX12_token_4 bp_10 ?_
    refine at_icmp_eq 18 dX12_token_6 (by decide) (fun c2 => ?_) (fun c2 => ?_)
    · rw [if_pos c2] at h
      exact t_X12_token_18 hK N _ ih _ h
    · rw [if_neg c2] at h
      refine at_aload_n 0 dX12_token_9 rfl ?_
      obtain ⟨q3, hq3, h⟩ := sp_bind h
      refine at_callVi (st := []) hK mt_X12_here ml_X12_85 cl_X12 hg_38 (t_X12_here hK hq3) rfl rfl (Nat.le_of_ble_eq_true rfl) ⟨Nat.le_of_ble_eq_true rfl, Nat.le_of_ble_eq_true rfl⟩ ⟨Nat.le_refl _, Nat.le_refl _⟩ dX12_token_10 ?_
      refine at_bipush 32 dX12_token_13 bp_32 ?_
      refine at_icmp_ne 31 dX12_token_15 (by decide) (fun c4 => ?_) (fun c4 => ?_)
      · rw [if_neg c4] at h
        refine at_aload_n 0 dX12_token_31 rfl ?_
        refine at_aload_n 0 dX12_token_32 rfl ?_
        refine at_getf cl_X12 (by decide) fl_X12_79 hg_38 rfl dX12_token_33 ?_
        refine at_putf cl_X12 (by decide) fl_X12_89 rfl hg_38 rfl rfl (Nat.le_of_ble_eq_true rfl) hs_38_29 dX12_token_36 ?_
        refine at_aload_n 0 dX12_token_39 rfl ?_
        obtain ⟨q5, hq5, h⟩ := sp_bind h
        refine at_callVi (st := []) hK mt_X12_here ml_X12_85 cl_X12 hg_38 (t_X12_here hK hq5) rfl rfl (Nat.le_of_ble_eq_true rfl) ⟨Nat.le_of_ble_eq_true rfl, Nat.le_of_ble_eq_true rfl⟩ ⟨Nat.le_refl _, Nat.le_refl _⟩ dX12_token_40 ?_
        refine at_istore_n [(0, .ref (b + 38)), (1, .int q5)] dX12_token_43 (Nat.le_of_ble_eq_true rfl) rfl ?_
        refine at_iload_n 1 dX12_token_44 rfl ?_
        refine at_iconst (-1) dX12_token_45 ic_m1 ?_
        refine at_icmp_ne 57 dX12_token_46 (by decide) (fun c6 => ?_) (fun c6 => ?_)
        · rw [if_neg c6] at h
          refine at_iload_n 1 dX12_token_57 rfl ?_
          obtain ⟨q7, hq7, h⟩ := sp_bind h
          refine at_callSi (st := []) hK mt_X12_isSmall ml_X12_95 (t_X12_isSmall hK hq7) rfl rfl (Nat.le_of_ble_eq_true rfl) ⟨Nat.le_of_ble_eq_true rfl, Nat.le_of_ble_eq_true rfl⟩ ⟨Nat.le_refl _, Nat.le_refl _⟩ dX12_token_58 ?_
          refine at_zeq 103 dX12_token_61 (by decide) (fun c8 => ?_) (fun c8 => ?_)
          · rw [if_neg c8] at h
            refine at_iload_n 1 dX12_token_103 rfl ?_
            obtain ⟨q9, hq9, h⟩ := sp_bind h
            refine at_callSi (st := []) hK mt_X12_isDigit ml_X12_105 (t_X12_isDigit hK hq9) rfl rfl (Nat.le_of_ble_eq_true rfl) ⟨Nat.le_of_ble_eq_true rfl, Nat.le_of_ble_eq_true rfl⟩ ⟨Nat.le_refl _, Nat.le_refl _⟩ dX12_token_104 ?_
            refine at_zeq 179 dX12_token_107 (by decide) (fun c10 => ?_) (fun c10 => ?_)
            · rw [if_neg c10] at h
              refine at_aload_n 0 dX12_token_179 rfl ?_
              refine at_iload_n 1 dX12_token_180 rfl ?_
              refine at_bipush 59 dX12_token_181 bp_59 ?_
              refine at_icmp_ne 190 dX12_token_183 (by decide) (fun c11 => ?_) (fun c11 => ?_)
              · rw [if_neg c11] at h
                refine at_iconst 4 dX12_token_190 ic_4 ?_
                refine at_sub [0] [(0, .ref (b + 38))] rfl ?_
                exact t_X12_token_191 hK N _ _ _ h
              · rw [if_pos c11] at h
                refine at_iconst 2 dX12_token_186 ic_2 ?_
                refine at_goto 191 dX12_token_187 (by decide) ?_
                refine at_sub [0] [(0, .ref (b + 38))] rfl ?_
                exact t_X12_token_191 hK N _ _ _ h
            · rw [if_pos c10] at h
              refine at_aload_n 0 dX12_token_110 rfl ?_
              refine at_iconst 1 dX12_token_111 ic_1 ?_
              refine at_putf cl_X12 (by decide) fl_X12_92 rfl hg_38 rfl rfl (Nat.le_of_ble_eq_true rfl) hs_38_30 dX12_token_112 ?_
              refine at_aload_n 0 dX12_token_115 rfl ?_
              refine at_iconst 0 dX12_token_116 ic_0 ?_
              refine at_putf cl_X12 (by decide) fl_X12_102 rfl hg_38 rfl rfl (Nat.le_of_ble_eq_true rfl) hs_38_31 dX12_token_117 ?_
              refine at_sub [0] [(0, .ref (b + 38))] rfl ?_
              exact t_X12_token_120 hK N _ N _ h
          · rw [if_pos c8] at h
            refine at_sub [0] [(0, .ref (b + 38))] rfl ?_
            exact t_X12_token_64 hK N _ N _ h
        · rw [if_pos c6] at h
          refine at_aload_n 0 dX12_token_49 rfl ?_
          refine at_iconst 3 dX12_token_50 ic_3 ?_
          refine at_putf cl_X12 (by decide) fl_X12_92 rfl hg_38 rfl rfl (Nat.le_of_ble_eq_true rfl) hs_38_30 dX12_token_51 ?_
          refine at_goto 204 dX12_token_54 (by decide) ?_
          cases h; exact at_vret rfl (Nat.le_refl _) (Nat.le_refl _) ⟨rfl, rfl⟩ dX12_token_204
      · rw [if_pos c4] at h
        exact t_X12_token_18 hK N _ ih _ h
set_option maxRecDepth 100000 in
theorem t_X12_token {D : va_G} {b : Nat} {K : State → Heap → Prop} {sa : Nat → Nat} (hK : sx_Kk b K sa) {N : Nat} {uG uN uD uR uF uP uL uT uA uM uH xA xB xD xE xF xG xH xI xJ xK xL uO : sx_C} {G : sx_H} {xC : sx_C} {res : sx_C} (h : f_X12_token N xA xC = some res) : sx_Runs D b K yX12_token YX12_token (sx_rm 5) [.ref (b + 38)] (sx_hp b uG uN uD uR uF uP uL uT uA uM uH xA xB xC xD xE xF xG xH xI xJ xK xL uO G) (sx_Ex none (sx_hp b uG uN uD uR uF uP uL uT uA uM uH xA xB res xD xE xF xG xH xI xJ xK xL uO G)) := by
  rw [f_X12_token] at h
  refine sx_run (by decide +kernel) rfl rfl (Nat.le_of_ble_eq_true rfl) ?_
  exact t_X12_token_0 hK N _ N _ h
set_option maxRecDepth 100000 in
theorem t_X12_wrong {D : va_G} {b : Nat} {K : State → Heap → Prop} {sa : Nat → Nat} (hK : sx_Kk b K sa) {uG uN uD uR uF uP uL uT uA uM uH xA xB xD xE xF xG xH xI xJ xK xL uO : sx_C} {G : sx_H} {v1 : Int32} {xC : sx_C} {res : sx_C} (h : f_X12_wrong v1 xC = some res) : sx_Runs D b K yX12_wrong YX12_wrong (sx_rm 0) [.ref (b + 38), .int v1] (sx_hp b uG uN uD uR uF uP uL uT uA uM uH xA xB xC xD xE xF xG xH xI xJ xK xL uO G) (sx_Ex none (sx_hp b uG uN uD uR uF uP uL uT uA uM uH xA xB res xD xE xF xG xH xI xJ xK xL uO G)) := by
  rw [f_X12_wrong] at h
  refine sx_run (by decide +kernel) rfl rfl (Nat.le_of_ble_eq_true rfl) ?_
  refine at_aload_n 0 dX12_wrong_0 rfl ?_
  refine at_getf cl_X12 (by decide) fl_X12_119 hg_38 rfl dX12_wrong_1 ?_
  refine at_if_eq 8 dX12_wrong_4 (by decide) (fun c1 => ?_) (fun c1 => ?_)
  · rw [if_pos c1] at h
    refine at_aload_n 0 dX12_wrong_8 rfl ?_
    refine at_iload_n 1 dX12_wrong_9 rfl ?_
    refine at_putf cl_X12 (by decide) fl_X12_119 rfl hg_38 rfl rfl (Nat.le_of_ble_eq_true rfl) hs_38_32 dX12_wrong_10 ?_
    refine at_aload_n 0 dX12_wrong_13 rfl ?_
    refine at_aload_n 0 dX12_wrong_14 rfl ?_
    refine at_getf cl_X12 (by decide) fl_X12_89 hg_38 rfl dX12_wrong_15 ?_
    refine at_putf cl_X12 (by decide) fl_X12_122 rfl hg_38 rfl rfl (Nat.le_of_ble_eq_true rfl) hs_38_33 dX12_wrong_18 ?_
    cases h; exact at_vret rfl (Nat.le_refl _) (Nat.le_refl _) ⟨rfl, rfl⟩ dX12_wrong_21
  · rw [if_neg c1] at h
    cases h; exact at_vret rfl (Nat.le_refl _) (Nat.le_refl _) ⟨rfl, rfl⟩ dX12_wrong_7
set_option maxRecDepth 100000 in
theorem t_X12_goOn {D : va_G} {b : Nat} {K : State → Heap → Prop} {sa : Nat → Nat} (hK : sx_Kk b K sa) {N : Nat} {uG uN uD uR uF uP uL uT uA uM uH xA xB xD xE xF xG xH xI xJ xK xL uO : sx_C} {G : sx_H} {xC : sx_C} {res : sx_C} (h : f_X12_goOn N xA xC = some res) : sx_Runs D b K yX12_goOn YX12_goOn (sx_rm 6) [.ref (b + 38)] (sx_hp b uG uN uD uR uF uP uL uT uA uM uH xA xB xC xD xE xF xG xH xI xJ xK xL uO G) (sx_Ex none (sx_hp b uG uN uD uR uF uP uL uT uA uM uH xA xB res xD xE xF xG xH xI xJ xK xL uO G)) := by
  rw [f_X12_goOn] at h
  refine sx_run (by decide +kernel) rfl rfl (Nat.le_of_ble_eq_true rfl) ?_
  refine at_aload_n 0 dX12_goOn_0 rfl ?_
  refine at_getf cl_X12 (by decide) fl_X12_119 hg_38 rfl dX12_goOn_1 ?_
  refine at_if_ne 11 dX12_goOn_4 (by decide) (fun c1 => ?_) (fun c1 => ?_)
  · rw [if_neg c1] at h
    cases h; exact at_vret rfl (Nat.le_refl _) (Nat.le_refl _) ⟨rfl, rfl⟩ dX12_goOn_11
  · rw [if_pos c1] at h
    refine at_aload_n 0 dX12_goOn_7 rfl ?_
    obtain ⟨q2, hq2, h⟩ := sp_bind h
    refine at_callVv (st := []) hK mt_X12_token ml_X12_125 cl_X12 hg_38 (t_X12_token hK hq2) rfl rfl (Nat.le_of_ble_eq_true rfl) ⟨Nat.le_of_ble_eq_true rfl, Nat.le_of_ble_eq_true rfl⟩ ⟨Nat.le_refl _, Nat.le_refl _⟩ dX12_goOn_8 ?_
    cases h; exact at_vret rfl (Nat.le_refl _) (Nat.le_refl _) ⟨rfl, rfl⟩ dX12_goOn_11
set_option maxRecDepth 100000 in
theorem t_X12_isWord {D : va_G} {b : Nat} {K : State → Heap → Prop} {sa : Nat → Nat} (hK : sx_Kk b K sa) {uG uN uD uR uF uP uL uT uA uM uH xA xB xC xD xE xF xG xH xI xJ xK xL uO : sx_C} {G : sx_H} {v1 : Int32} {res : Bool} (h : f_X12_isWord xC v1 = some res) : sx_Runs D b K yX12_isWord YX12_isWord (sx_rm 0) [.ref (b + 38), .int v1] (sx_hp b uG uN uD uR uF uP uL uT uA uM uH xA xB xC xD xE xF xG xH xI xJ xK xL uO G) (sx_Ex (some (.int (sp_b res))) (sx_hp b uG uN uD uR uF uP uL uT uA uM uH xA xB xC xD xE xF xG xH xI xJ xK xL uO G)) := by
  rw [f_X12_isWord] at h
  refine sx_run (by decide +kernel) rfl rfl (Nat.le_of_ble_eq_true rfl) ?_
  refine at_aload_n 0 dX12_isWord_0 rfl ?_
  refine at_getf cl_X12 (by decide) fl_X12_119 hg_38 rfl dX12_isWord_1 ?_
  refine at_if_ne 26 dX12_isWord_4 (by decide) (fun c1 => ?_) (fun c1 => ?_)
  · rw [if_neg c1] at h
    refine at_iconst 0 dX12_isWord_26 ic_0 ?_
    cases h; exact at_zret rfl rfl (Nat.le_refl _) (Nat.le_refl _) ⟨rfl, rfl⟩ dX12_isWord_27
  · rw [if_pos c1] at h
    refine at_aload_n 0 dX12_isWord_7 rfl ?_
    refine at_getf cl_X12 (by decide) fl_X12_92 hg_38 rfl dX12_isWord_8 ?_
    refine at_if_ne 26 dX12_isWord_11 (by decide) (fun c2 => ?_) (fun c2 => ?_)
    · rw [if_neg c2] at h
      refine at_iconst 0 dX12_isWord_26 ic_0 ?_
      cases h; exact at_zret rfl rfl (Nat.le_refl _) (Nat.le_refl _) ⟨rfl, rfl⟩ dX12_isWord_27
    · rw [if_pos c2] at h
      refine at_aload_n 0 dX12_isWord_14 rfl ?_
      refine at_getf cl_X12 (by decide) fl_X12_102 hg_38 rfl dX12_isWord_15 ?_
      refine at_iload_n 1 dX12_isWord_18 rfl ?_
      refine at_icmp_ne 26 dX12_isWord_19 (by decide) (fun c3 => ?_) (fun c3 => ?_)
      · rw [if_neg c3] at h
        refine at_iconst 0 dX12_isWord_26 ic_0 ?_
        cases h; exact at_zret rfl rfl (Nat.le_refl _) (Nat.le_refl _) ⟨rfl, rfl⟩ dX12_isWord_27
      · rw [if_pos c3] at h
        refine at_iconst 1 dX12_isWord_22 ic_1 ?_
        refine at_goto 27 dX12_isWord_23 (by decide) ?_
        cases h; exact at_zret rfl rfl (Nat.le_refl _) (Nat.le_refl _) ⟨rfl, rfl⟩ dX12_isWord_27
set_option maxRecDepth 100000 in
theorem t_X12_numberBelow_28 {D : va_G} {b : Nat} {K : State → Heap → Prop} {sa : Nat → Nat} (hK : sx_Kk b K sa) {uG uN uD uR uF uP uL uT uA uM uH xA xB xD xE xF xG xH xI xJ xK xL uO : sx_C} {G : sx_H} (res : Int32 × sx_C) : ∀ (xC : sx_C), f_X12_numberBelow_28 xC = some res → sx_At D b K YX12_numberBelow (sx_rm 1) (sx_Ex (some (.int res.1)) (sx_hp b uG uN uD uR uF uP uL uT uA uM uH xA xB (res.2) xD xE xF xG xH xI xJ xK xL uO G)) 28 [(0, .ref (b + 38))] [] (sx_hp b uG uN uD uR uF uP uL uT uA uM uH xA xB xC xD xE xF xG xH xI xJ xK xL uO G) 0 0 := by
  intro xC h
  rw [f_X12_numberBelow_28] at h
  refine at_aload_n 0 dX12_numberBelow_28 rfl ?_
  refine at_getf cl_X12 (by decide) fl_X12_119 hg_38 rfl dX12_numberBelow_29 ?_
  refine at_if_ne 42 dX12_numberBelow_32 (by decide) (fun c2 => ?_) (fun c2 => ?_)
  · rw [if_neg c2] at h
    refine at_iconst 0 dX12_numberBelow_42 ic_0 ?_
    cases h; exact at_iret rfl (Nat.le_refl _) (Nat.le_refl _) ⟨rfl, rfl⟩ dX12_numberBelow_43
  · rw [if_pos c2] at h
    refine at_aload_n 0 dX12_numberBelow_35 rfl ?_
    refine at_getf cl_X12 (by decide) fl_X12_102 hg_38 rfl dX12_numberBelow_36 ?_
    refine at_goto 43 dX12_numberBelow_39 (by decide) ?_
    cases h; exact at_iret rfl (Nat.le_refl _) (Nat.le_refl _) ⟨rfl, rfl⟩ dX12_numberBelow_43
set_option maxRecDepth 100000 in
theorem t_X12_numberBelow_23 {D : va_G} {b : Nat} {K : State → Heap → Prop} {sa : Nat → Nat} (hK : sx_Kk b K sa) {uG uN uD uR uF uP uL uT uA uM uH xA xB xD xE xF xG xH xI xJ xK xL uO : sx_C} {G : sx_H} (res : Int32 × sx_C) : ∀ (xC : sx_C), f_X12_numberBelow_23 xC = some res → sx_At D b K YX12_numberBelow (sx_rm 1) (sx_Ex (some (.int res.1)) (sx_hp b uG uN uD uR uF uP uL uT uA uM uH xA xB (res.2) xD xE xF xG xH xI xJ xK xL uO G)) 23 [(0, .ref (b + 38))] [] (sx_hp b uG uN uD uR uF uP uL uT uA uM uH xA xB xC xD xE xF xG xH xI xJ xK xL uO G) 0 0 := by
  intro xC h
  rw [f_X12_numberBelow_23] at h
  refine at_aload_n 0 dX12_numberBelow_23 rfl ?_
  refine at_iconst 1 dX12_numberBelow_24 ic_1 ?_
  obtain ⟨q1, hq1, h⟩ := sp_bind h
  refine at_callVv (st := []) hK mt_X12_wrong ml_X12_128 cl_X12 hg_38 (t_X12_wrong hK hq1) rfl rfl (Nat.le_of_ble_eq_true rfl) ⟨Nat.le_of_ble_eq_true rfl, Nat.le_of_ble_eq_true rfl⟩ ⟨Nat.le_refl _, Nat.le_refl _⟩ dX12_numberBelow_25 ?_
  exact t_X12_numberBelow_28 hK _ _ h
set_option maxRecDepth 100000 in
theorem t_X12_numberBelow {D : va_G} {b : Nat} {K : State → Heap → Prop} {sa : Nat → Nat} (hK : sx_Kk b K sa) {uG uN uD uR uF uP uL uT uA uM uH xA xB xD xE xF xG xH xI xJ xK xL uO : sx_C} {G : sx_H} {v1 : Int32} {xC : sx_C} {res : Int32 × sx_C} (h : f_X12_numberBelow v1 xC = some res) : sx_Runs D b K yX12_numberBelow YX12_numberBelow (sx_rm 1) [.ref (b + 38), .int v1] (sx_hp b uG uN uD uR uF uP uL uT uA uM uH xA xB xC xD xE xF xG xH xI xJ xK xL uO G) (sx_Ex (some (.int res.1)) (sx_hp b uG uN uD uR uF uP uL uT uA uM uH xA xB (res.2) xD xE xF xG xH xI xJ xK xL uO G)) := by
  rw [f_X12_numberBelow] at h
  refine sx_run (by decide +kernel) rfl rfl (Nat.le_of_ble_eq_true rfl) ?_
  refine at_aload_n 0 dX12_numberBelow_0 rfl ?_
  refine at_getf cl_X12 (by decide) fl_X12_119 hg_38 rfl dX12_numberBelow_1 ?_
  refine at_if_ne 28 dX12_numberBelow_4 (by decide) (fun c3 => ?_) (fun c3 => ?_)
  · rw [if_neg c3] at h
    refine at_sub [0] [(0, .ref (b + 38))] rfl ?_
    exact t_X12_numberBelow_28 hK _ _ h
  · rw [if_pos c3] at h
    refine at_aload_n 0 dX12_numberBelow_7 rfl ?_
    refine at_getf cl_X12 (by decide) fl_X12_92 hg_38 rfl dX12_numberBelow_8 ?_
    refine at_iconst 1 dX12_numberBelow_11 ic_1 ?_
    refine at_icmp_ne 23 dX12_numberBelow_12 (by decide) (fun c4 => ?_) (fun c4 => ?_)
    · rw [if_neg c4] at h
      refine at_sub [0] [(0, .ref (b + 38))] rfl ?_
      exact t_X12_numberBelow_23 hK _ _ h
    · rw [if_pos c4] at h
      refine at_aload_n 0 dX12_numberBelow_15 rfl ?_
      refine at_getf cl_X12 (by decide) fl_X12_102 hg_38 rfl dX12_numberBelow_16 ?_
      refine at_iload_n 1 dX12_numberBelow_19 rfl ?_
      refine at_icmp_lt 28 dX12_numberBelow_20 (by decide) (fun c5 => ?_) (fun c5 => ?_)
      · rw [if_pos c5] at h
        refine at_sub [0] [(0, .ref (b + 38))] rfl ?_
        exact t_X12_numberBelow_28 hK _ _ h
      · rw [if_neg c5] at h
        refine at_sub [0] [(0, .ref (b + 38))] rfl ?_
        exact t_X12_numberBelow_23 hK _ _ h
set_option maxRecDepth 100000 in
theorem t_X12_readKnots_65 {D : va_G} {b : Nat} {K : State → Heap → Prop} {sa : Nat → Nat} (hK : sx_Kk b K sa) (N : Nat) {uG uN uD uR uF uP uL uT uA uM uH xA xB xD xE xF xG xH xI xJ xK xL uO : sx_C} {G : sx_H} (res : sx_C) : ∀ (xC : sx_C), f_X12_readKnots_65 N xA xC = some res → sx_At D b K YX12_readKnots (sx_rm 7) (sx_Ex none (sx_hp b uG uN uD uR uF uP uL uT uA uM uH xA xB res xD xE xF xG xH xI xJ xK xL uO G)) 65 [(0, .ref (b + 38))] [] (sx_hp b uG uN uD uR uF uP uL uT uA uM uH xA xB xC xD xE xF xG xH xI xJ xK xL uO G) 0 0 := by
  intro xC h
  rw [f_X12_readKnots_65] at h
  refine at_aload_n 0 dX12_readKnots_65 rfl ?_
  refine at_getf cl_X12 (by decide) fl_X12_119 hg_38 rfl dX12_readKnots_66 ?_
  refine at_if_eq 73 dX12_readKnots_69 (by decide) (fun c9 => ?_) (fun c9 => ?_)
  · rw [if_pos c9] at h
    refine at_aload_n 0 dX12_readKnots_73 rfl ?_
    refine at_aload_n 0 dX12_readKnots_74 rfl ?_
    refine at_getf cl_X12 (by decide) fl_X12_102 hg_38 rfl dX12_readKnots_75 ?_
    refine at_putf cl_X12 (by decide) fl_X12_132 rfl hg_38 rfl rfl (Nat.le_of_ble_eq_true rfl) hs_38_15 dX12_readKnots_78 ?_
    refine at_aload_n 0 dX12_readKnots_81 rfl ?_
    refine at_aload_n 0 dX12_readKnots_82 rfl ?_
    refine at_getf cl_X12 (by decide) fl_X12_102 hg_38 rfl dX12_readKnots_83 ?_
    refine at_iconst 1 dX12_readKnots_86 ic_1 ?_
    refine at_isub dX12_readKnots_87 ?_
    refine at_putf cl_X12 (by decide) fl_X12_138 rfl hg_38 rfl rfl (Nat.le_of_ble_eq_true rfl) hs_38_22 dX12_readKnots_88 ?_
    refine at_aload_n 0 dX12_readKnots_91 rfl ?_
    obtain ⟨q10, hq10, h⟩ := sp_bind h
    refine at_callVv (st := []) hK mt_X12_goOn ml_X12_135 cl_X12 hg_38 (t_X12_goOn hK hq10) rfl rfl (Nat.le_of_ble_eq_true rfl) ⟨Nat.le_of_ble_eq_true rfl, Nat.le_of_ble_eq_true rfl⟩ ⟨Nat.le_refl _, Nat.le_refl _⟩ dX12_readKnots_92 ?_
    cases h; exact at_vret rfl (Nat.le_refl _) (Nat.le_refl _) ⟨rfl, rfl⟩ dX12_readKnots_95
  · rw [if_neg c9] at h
    cases h; exact at_vret rfl (Nat.le_refl _) (Nat.le_refl _) ⟨rfl, rfl⟩ dX12_readKnots_72
set_option maxRecDepth 100000 in
theorem t_X12_readKnots_60 {D : va_G} {b : Nat} {K : State → Heap → Prop} {sa : Nat → Nat} (hK : sx_Kk b K sa) (N : Nat) {uG uN uD uR uF uP uL uT uA uM uH xA xB xD xE xF xG xH xI xJ xK xL uO : sx_C} {G : sx_H} (res : sx_C) : ∀ (xC : sx_C), f_X12_readKnots_60 N xA xC = some res → sx_At D b K YX12_readKnots (sx_rm 7) (sx_Ex none (sx_hp b uG uN uD uR uF uP uL uT uA uM uH xA xB res xD xE xF xG xH xI xJ xK xL uO G)) 60 [(0, .ref (b + 38))] [] (sx_hp b uG uN uD uR uF uP uL uT uA uM uH xA xB xC xD xE xF xG xH xI xJ xK xL uO G) 0 0 := by
  intro xC h
  rw [f_X12_readKnots_60] at h
  refine at_aload_n 0 dX12_readKnots_60 rfl ?_
  refine at_iconst 2 dX12_readKnots_61 ic_2 ?_
  obtain ⟨q8, hq8, h⟩ := sp_bind h
  refine at_callVv (st := []) hK mt_X12_wrong ml_X12_128 cl_X12 hg_38 (t_X12_wrong hK hq8) rfl rfl (Nat.le_of_ble_eq_true rfl) ⟨Nat.le_of_ble_eq_true rfl, Nat.le_of_ble_eq_true rfl⟩ ⟨Nat.le_refl _, Nat.le_refl _⟩ dX12_readKnots_62 ?_
  exact t_X12_readKnots_65 hK N _ _ h
set_option maxRecDepth 100000 in
theorem t_X12_readKnots_36 {D : va_G} {b : Nat} {K : State → Heap → Prop} {sa : Nat → Nat} (hK : sx_Kk b K sa) (N : Nat) {uG uN uD uR uF uP uL uT uA uM uH xA xB xD xE xF xG xH xI xJ xK xL uO : sx_C} {G : sx_H} (res : sx_C) : ∀ (xC : sx_C), f_X12_readKnots_36 N xA xC = some res → sx_At D b K YX12_readKnots (sx_rm 7) (sx_Ex none (sx_hp b uG uN uD uR uF uP uL uT uA uM uH xA xB res xD xE xF xG xH xI xJ xK xL uO G)) 36 [(0, .ref (b + 38))] [] (sx_hp b uG uN uD uR uF uP uL uT uA uM uH xA xB xC xD xE xF xG xH xI xJ xK xL uO G) 0 0 := by
  intro xC h
  rw [f_X12_readKnots_36] at h
  refine at_aload_n 0 dX12_readKnots_36 rfl ?_
  refine at_getf cl_X12 (by decide) fl_X12_119 hg_38 rfl dX12_readKnots_37 ?_
  refine at_if_ne 65 dX12_readKnots_40 (by decide) (fun c5 => ?_) (fun c5 => ?_)
  · rw [if_neg c5] at h
    exact t_X12_readKnots_65 hK N _ _ h
  · rw [if_pos c5] at h
    refine at_aload_n 0 dX12_readKnots_43 rfl ?_
    refine at_getf cl_X12 (by decide) fl_X12_102 hg_38 rfl dX12_readKnots_44 ?_
    refine at_iconst 2 dX12_readKnots_47 ic_2 ?_
    refine at_icmp_lt 60 dX12_readKnots_48 (by decide) (fun c6 => ?_) (fun c6 => ?_)
    · rw [if_pos c6] at h
      exact t_X12_readKnots_60 hK N _ _ h
    · rw [if_neg c6] at h
      refine at_aload_n 0 dX12_readKnots_51 rfl ?_
      refine at_getf cl_X12 (by decide) fl_X12_102 hg_38 rfl dX12_readKnots_52 ?_
      refine at_bipush 8 dX12_readKnots_55 bp_8 ?_
      refine at_icmp_le 65 dX12_readKnots_57 (by decide) (fun c7 => ?_) (fun c7 => ?_)
      · rw [if_pos c7] at h
        exact t_X12_readKnots_65 hK N _ _ h
      · rw [if_neg c7] at h
        exact t_X12_readKnots_60 hK N _ _ h
set_option maxRecDepth 100000 in
theorem t_X12_readKnots_12 {D : va_G} {b : Nat} {K : State → Heap → Prop} {sa : Nat → Nat} (hK : sx_Kk b K sa) (N : Nat) {uG uN uD uR uF uP uL uT uA uM uH xA xB xD xE xF xG xH xI xJ xK xL uO : sx_C} {G : sx_H} (res : sx_C) : ∀ (xC : sx_C), f_X12_readKnots_12 N xA xC = some res → sx_At D b K YX12_readKnots (sx_rm 7) (sx_Ex none (sx_hp b uG uN uD uR uF uP uL uT uA uM uH xA xB res xD xE xF xG xH xI xJ xK xL uO G)) 12 [(0, .ref (b + 38))] [] (sx_hp b uG uN uD uR uF uP uL uT uA uM uH xA xB xC xD xE xF xG xH xI xJ xK xL uO G) 0 0 := by
  intro xC h
  rw [f_X12_readKnots_12] at h
  refine at_aload_n 0 dX12_readKnots_12 rfl ?_
  obtain ⟨q1, hq1, h⟩ := sp_bind h
  refine at_callVv (st := []) hK mt_X12_goOn ml_X12_135 cl_X12 hg_38 (t_X12_goOn hK hq1) rfl rfl (Nat.le_of_ble_eq_true rfl) ⟨Nat.le_of_ble_eq_true rfl, Nat.le_of_ble_eq_true rfl⟩ ⟨Nat.le_refl _, Nat.le_refl _⟩ dX12_readKnots_13 ?_
  refine at_aload_n 0 dX12_readKnots_16 rfl ?_
  refine at_getf cl_X12 (by decide) fl_X12_119 hg_38 rfl dX12_readKnots_17 ?_
  refine at_if_ne 36 dX12_readKnots_20 (by decide) (fun c2 => ?_) (fun c2 => ?_)
  · rw [if_neg c2] at h
    exact t_X12_readKnots_36 hK N _ _ h
  · rw [if_pos c2] at h
    refine at_aload_n 0 dX12_readKnots_23 rfl ?_
    refine at_getf cl_X12 (by decide) fl_X12_92 hg_38 rfl dX12_readKnots_24 ?_
    refine at_iconst 1 dX12_readKnots_27 ic_1 ?_
    refine at_icmp_eq 36 dX12_readKnots_28 (by decide) (fun c3 => ?_) (fun c3 => ?_)
    · rw [if_pos c3] at h
      exact t_X12_readKnots_36 hK N _ _ h
    · rw [if_neg c3] at h
      refine at_aload_n 0 dX12_readKnots_31 rfl ?_
      refine at_iconst 1 dX12_readKnots_32 ic_1 ?_
      obtain ⟨q4, hq4, h⟩ := sp_bind h
      refine at_callVv (st := []) hK mt_X12_wrong ml_X12_128 cl_X12 hg_38 (t_X12_wrong hK hq4) rfl rfl (Nat.le_of_ble_eq_true rfl) ⟨Nat.le_of_ble_eq_true rfl, Nat.le_of_ble_eq_true rfl⟩ ⟨Nat.le_refl _, Nat.le_refl _⟩ dX12_readKnots_33 ?_
      exact t_X12_readKnots_36 hK N _ _ h
set_option maxRecDepth 100000 in
theorem t_X12_readKnots {D : va_G} {b : Nat} {K : State → Heap → Prop} {sa : Nat → Nat} (hK : sx_Kk b K sa) {N : Nat} {uG uN uD uR uF uP uL uT uA uM uH xA xB xD xE xF xG xH xI xJ xK xL uO : sx_C} {G : sx_H} {xC : sx_C} {res : sx_C} (h : f_X12_readKnots N xA xC = some res) : sx_Runs D b K yX12_readKnots YX12_readKnots (sx_rm 7) [.ref (b + 38)] (sx_hp b uG uN uD uR uF uP uL uT uA uM uH xA xB xC xD xE xF xG xH xI xJ xK xL uO G) (sx_Ex none (sx_hp b uG uN uD uR uF uP uL uT uA uM uH xA xB res xD xE xF xG xH xI xJ xK xL uO G)) := by
  rw [f_X12_readKnots] at h
  refine sx_run (by decide +kernel) rfl rfl (Nat.le_of_ble_eq_true rfl) ?_
  refine at_aload_n 0 dX12_readKnots_0 rfl ?_
  refine at_getf cl_X12 (by decide) fl_X12_132 hg_38 rfl dX12_readKnots_1 ?_
  refine at_if_le 12 dX12_readKnots_4 (by decide) (fun c11 => ?_) (fun c11 => ?_)
  · rw [if_pos c11] at h
    exact t_X12_readKnots_12 hK N _ _ h
  · rw [if_neg c11] at h
    refine at_aload_n 0 dX12_readKnots_7 rfl ?_
    refine at_iconst 3 dX12_readKnots_8 ic_3 ?_
    obtain ⟨q12, hq12, h⟩ := sp_bind h
    refine at_callVv (st := []) hK mt_X12_wrong ml_X12_128 cl_X12 hg_38 (t_X12_wrong hK hq12) rfl rfl (Nat.le_of_ble_eq_true rfl) ⟨Nat.le_of_ble_eq_true rfl, Nat.le_of_ble_eq_true rfl⟩ ⟨Nat.le_refl _, Nat.le_refl _⟩ dX12_readKnots_9 ?_
    exact t_X12_readKnots_12 hK N _ _ h
set_option maxRecDepth 100000 in
theorem t_X12_readEnds_48 {D : va_G} {b : Nat} {K : State → Heap → Prop} {sa : Nat → Nat} (hK : sx_Kk b K sa) (N : Nat) {uG uN uD uR uF uP uL uT uA uM uH xA xB xD xE xF xG xH xI xJ xK xL uO : sx_C} {G : sx_H} (res : sx_C) : ∀ (v1 : Int32) (v2 : Int32) (xC : sx_C), f_X12_readEnds_48 N xA v1 v2 xC = some res → sx_At D b K YX12_readEnds (sx_rm 7) (sx_Ex none (sx_hp b uG uN uD uR uF uP uL uT uA uM uH xA xB res xD xE xF xG xH xI xJ xK xL uO G)) 48 [(0, .ref (b + 38)), (1, .int v1), (2, .int v2)] [] (sx_hp b uG uN uD uR uF uP uL uT uA uM uH xA xB xC xD xE xF xG xH xI xJ xK xL uO G) 0 0 := by
  intro v1 v2 xC h
  rw [f_X12_readEnds_48] at h
  refine at_aload_n 0 dX12_readEnds_48 rfl ?_
  obtain ⟨q7, hq7, h⟩ := sp_bind h
  refine at_callVv (st := []) hK mt_X12_goOn ml_X12_135 cl_X12 hg_38 (t_X12_goOn hK hq7) rfl rfl (Nat.le_of_ble_eq_true rfl) ⟨Nat.le_of_ble_eq_true rfl, Nat.le_of_ble_eq_true rfl⟩ ⟨Nat.le_refl _, Nat.le_refl _⟩ dX12_readEnds_49 ?_
  refine at_aload_n 0 dX12_readEnds_52 rfl ?_
  refine at_getf cl_X12 (by decide) fl_X12_119 hg_38 rfl dX12_readEnds_53 ?_
  refine at_if_eq 60 dX12_readEnds_56 (by decide) (fun c8 => ?_) (fun c8 => ?_)
  · rw [if_pos c8] at h
    refine at_aload_n 0 dX12_readEnds_60 rfl ?_
    refine at_iconst 1 dX12_readEnds_61 ic_1 ?_
    refine at_putf cl_X12 (by decide) fl_X12_141 rfl hg_38 rfl rfl (Nat.le_of_ble_eq_true rfl) hs_38_25 dX12_readEnds_62 ?_
    refine at_aload_n 0 dX12_readEnds_65 rfl ?_
    refine at_iload_n 1 dX12_readEnds_66 rfl ?_
    refine at_putf cl_X12 (by decide) fl_X12_149 rfl hg_38 rfl rfl (Nat.le_of_ble_eq_true rfl) hs_38_21 dX12_readEnds_67 ?_
    refine at_aload_n 0 dX12_readEnds_70 rfl ?_
    refine at_iload_n 2 dX12_readEnds_71 rfl ?_
    refine at_putf cl_X12 (by decide) fl_X12_138 rfl hg_38 rfl rfl (Nat.le_of_ble_eq_true rfl) hs_38_22 dX12_readEnds_72 ?_
    cases h; exact at_vret rfl (Nat.le_refl _) (Nat.le_refl _) ⟨rfl, rfl⟩ dX12_readEnds_75
  · rw [if_neg c8] at h
    cases h; exact at_vret rfl (Nat.le_refl _) (Nat.le_refl _) ⟨rfl, rfl⟩ dX12_readEnds_59
set_option maxRecDepth 100000 in
theorem t_X12_readEnds_12 {D : va_G} {b : Nat} {K : State → Heap → Prop} {sa : Nat → Nat} (hK : sx_Kk b K sa) (N : Nat) {uG uN uD uR uF uP uL uT uA uM uH xA xB xD xE xF xG xH xI xJ xK xL uO : sx_C} {G : sx_H} (res : sx_C) : ∀ (xC : sx_C), f_X12_readEnds_12 N xA xC = some res → sx_At D b K YX12_readEnds (sx_rm 7) (sx_Ex none (sx_hp b uG uN uD uR uF uP uL uT uA uM uH xA xB res xD xE xF xG xH xI xJ xK xL uO G)) 12 [(0, .ref (b + 38))] [] (sx_hp b uG uN uD uR uF uP uL uT uA uM uH xA xB xC xD xE xF xG xH xI xJ xK xL uO G) 0 0 := by
  intro xC h
  rw [f_X12_readEnds_12] at h
  refine at_aload_n 0 dX12_readEnds_12 rfl ?_
  obtain ⟨q1, hq1, h⟩ := sp_bind h
  refine at_callVv (st := []) hK mt_X12_goOn ml_X12_135 cl_X12 hg_38 (t_X12_goOn hK hq1) rfl rfl (Nat.le_of_ble_eq_true rfl) ⟨Nat.le_of_ble_eq_true rfl, Nat.le_of_ble_eq_true rfl⟩ ⟨Nat.le_refl _, Nat.le_refl _⟩ dX12_readEnds_13 ?_
  refine at_aload_n 0 dX12_readEnds_16 rfl ?_
  refine at_aload_n 0 dX12_readEnds_17 rfl ?_
  refine at_getf cl_X12 (by decide) fl_X12_132 hg_38 rfl dX12_readEnds_18 ?_
  obtain ⟨q2, hq2, h⟩ := sp_bind h
  refine at_callVi (st := []) hK mt_X12_numberBelow ml_X12_145 cl_X12 hg_38 (t_X12_numberBelow hK hq2) rfl rfl (Nat.le_of_ble_eq_true rfl) ⟨Nat.le_of_ble_eq_true rfl, Nat.le_of_ble_eq_true rfl⟩ ⟨Nat.le_refl _, Nat.le_refl _⟩ dX12_readEnds_21 ?_
  refine at_istore_n [(0, .ref (b + 38)), (1, .int (q2.1))] dX12_readEnds_24 (Nat.le_of_ble_eq_true rfl) rfl ?_
  refine at_aload_n 0 dX12_readEnds_25 rfl ?_
  obtain ⟨q3, hq3, h⟩ := sp_bind h
  refine at_callVv (st := []) hK mt_X12_goOn ml_X12_135 cl_X12 hg_38 (t_X12_goOn hK hq3) rfl rfl (Nat.le_of_ble_eq_true rfl) ⟨Nat.le_of_ble_eq_true rfl, Nat.le_of_ble_eq_true rfl⟩ ⟨Nat.le_refl _, Nat.le_refl _⟩ dX12_readEnds_26 ?_
  refine at_aload_n 0 dX12_readEnds_29 rfl ?_
  refine at_aload_n 0 dX12_readEnds_30 rfl ?_
  refine at_getf cl_X12 (by decide) fl_X12_132 hg_38 rfl dX12_readEnds_31 ?_
  obtain ⟨q4, hq4, h⟩ := sp_bind h
  refine at_callVi (st := []) hK mt_X12_numberBelow ml_X12_145 cl_X12 hg_38 (t_X12_numberBelow hK hq4) rfl rfl (Nat.le_of_ble_eq_true rfl) ⟨Nat.le_of_ble_eq_true rfl, Nat.le_of_ble_eq_true rfl⟩ ⟨Nat.le_refl _, Nat.le_refl _⟩ dX12_readEnds_34 ?_
  refine at_istore_n [(0, .ref (b + 38)), (1, .int (q2.1)), (2, .int (q4.1))] dX12_readEnds_37 (Nat.le_of_ble_eq_true rfl) rfl ?_
  refine at_iload_n 1 dX12_readEnds_38 rfl ?_
  refine at_iload_n 2 dX12_readEnds_39 rfl ?_
  refine at_icmp_ne 48 dX12_readEnds_40 (by decide) (fun c5 => ?_) (fun c5 => ?_)
  · rw [if_neg c5] at h
    exact t_X12_readEnds_48 hK N _ _ _ _ h
  · rw [if_pos c5] at h
    refine at_aload_n 0 dX12_readEnds_43 rfl ?_
    refine at_iconst 3 dX12_readEnds_44 ic_3 ?_
    obtain ⟨q6, hq6, h⟩ := sp_bind h
    refine at_callVv (st := []) hK mt_X12_wrong ml_X12_128 cl_X12 hg_38 (t_X12_wrong hK hq6) rfl rfl (Nat.le_of_ble_eq_true rfl) ⟨Nat.le_of_ble_eq_true rfl, Nat.le_of_ble_eq_true rfl⟩ ⟨Nat.le_refl _, Nat.le_refl _⟩ dX12_readEnds_45 ?_
    exact t_X12_readEnds_48 hK N _ _ _ _ h
set_option maxRecDepth 100000 in
theorem t_X12_readEnds {D : va_G} {b : Nat} {K : State → Heap → Prop} {sa : Nat → Nat} (hK : sx_Kk b K sa) {N : Nat} {uG uN uD uR uF uP uL uT uA uM uH xA xB xD xE xF xG xH xI xJ xK xL uO : sx_C} {G : sx_H} {xC : sx_C} {res : sx_C} (h : f_X12_readEnds N xA xC = some res) : sx_Runs D b K yX12_readEnds YX12_readEnds (sx_rm 7) [.ref (b + 38)] (sx_hp b uG uN uD uR uF uP uL uT uA uM uH xA xB xC xD xE xF xG xH xI xJ xK xL uO G) (sx_Ex none (sx_hp b uG uN uD uR uF uP uL uT uA uM uH xA xB res xD xE xF xG xH xI xJ xK xL uO G)) := by
  rw [f_X12_readEnds] at h
  refine sx_run (by decide +kernel) rfl rfl (Nat.le_of_ble_eq_true rfl) ?_
  refine at_aload_n 0 dX12_readEnds_0 rfl ?_
  refine at_getf cl_X12 (by decide) fl_X12_141 hg_38 rfl dX12_readEnds_1 ?_
  refine at_if_eq 12 dX12_readEnds_4 (by decide) (fun c9 => ?_) (fun c9 => ?_)
  · rw [if_pos c9] at h
    exact t_X12_readEnds_12 hK N _ _ h
  · rw [if_neg c9] at h
    refine at_aload_n 0 dX12_readEnds_7 rfl ?_
    refine at_iconst 3 dX12_readEnds_8 ic_3 ?_
    obtain ⟨q10, hq10, h⟩ := sp_bind h
    refine at_callVv (st := []) hK mt_X12_wrong ml_X12_128 cl_X12 hg_38 (t_X12_wrong hK hq10) rfl rfl (Nat.le_of_ble_eq_true rfl) ⟨Nat.le_of_ble_eq_true rfl, Nat.le_of_ble_eq_true rfl⟩ ⟨Nat.le_refl _, Nat.le_refl _⟩ dX12_readEnds_9 ?_
    exact t_X12_readEnds_12 hK N _ _ h
set_option maxRecDepth 100000 in
theorem t_X12_readOne_50 {D : va_G} {b : Nat} {K : State → Heap → Prop} {sa : Nat → Nat} (hK : sx_Kk b K sa) (N : Nat) {uG uN uD uR uF uP uL uT uA uM uH xA xB xD xE xF xG xH xI xJ xK xL uO : sx_C} {G : sx_H} (res : sx_C) : ∀ (v1 : Int32) (v2 : Int32) (xC : sx_C), f_X12_readOne_50 N xA v1 v2 xC = some res → sx_At D b K YX12_readOne (sx_rm 7) (sx_Ex none (sx_hp b uG uN uD uR uF uP uL uT uA uM uH xA xB res xD xE xF xG xH xI xJ xK xL uO G)) 50 [(0, .ref (b + 38)), (1, .int v1), (2, .int v2)] [] (sx_hp b uG uN uD uR uF uP uL uT uA uM uH xA xB xC xD xE xF xG xH xI xJ xK xL uO G) 0 0 := by
  intro v1 v2 xC h
  rw [f_X12_readOne_50] at h
  refine at_aload_n 0 dX12_readOne_50 rfl ?_
  obtain ⟨q7, hq7, h⟩ := sp_bind h
  refine at_callVv (st := []) hK mt_X12_goOn ml_X12_135 cl_X12 hg_38 (t_X12_goOn hK hq7) rfl rfl (Nat.le_of_ble_eq_true rfl) ⟨Nat.le_of_ble_eq_true rfl, Nat.le_of_ble_eq_true rfl⟩ ⟨Nat.le_refl _, Nat.le_refl _⟩ dX12_readOne_51 ?_
  refine at_aload_n 0 dX12_readOne_54 rfl ?_
  refine at_getf cl_X12 (by decide) fl_X12_119 hg_38 rfl dX12_readOne_55 ?_
  refine at_if_eq 62 dX12_readOne_58 (by decide) (fun c8 => ?_) (fun c8 => ?_)
  · rw [if_pos c8] at h
    refine at_aload_n 0 dX12_readOne_62 rfl ?_
    refine at_getf cl_X12 (by decide) fl_X12_22 hg_38 rfl dX12_readOne_63 ?_
    refine at_aload_n 0 dX12_readOne_66 rfl ?_
    refine at_getf cl_X12 (by decide) fl_X12_152 hg_38 rfl dX12_readOne_67 ?_
    refine at_iload_n 1 dX12_readOne_70 rfl ?_
    obtain ⟨hi9, h⟩ := sp_chk h
    refine at_iast hg_43 hi9 hs_43 dX12_readOne_71 ?_
    refine at_aload_n 0 dX12_readOne_72 rfl ?_
    refine at_getf cl_X12 (by decide) fl_X12_25 hg_38 rfl dX12_readOne_73 ?_
    refine at_aload_n 0 dX12_readOne_76 rfl ?_
    refine at_getf cl_X12 (by decide) fl_X12_152 hg_38 rfl dX12_readOne_77 ?_
    refine at_iload_n 2 dX12_readOne_80 rfl ?_
    obtain ⟨hi10, h⟩ := sp_chk h
    refine at_iast hg_44 hi10 hs_44 dX12_readOne_81 ?_
    refine at_aload_n 0 dX12_readOne_82 rfl ?_
    refine at_dup dX12_readOne_83 rfl ?_
    refine at_getf cl_X12 (by decide) fl_X12_152 hg_38 rfl dX12_readOne_84 ?_
    refine at_iconst 1 dX12_readOne_87 ic_1 ?_
    refine at_iadd dX12_readOne_88 ?_
    refine at_putf cl_X12 (by decide) fl_X12_152 rfl hg_38 rfl rfl (Nat.le_of_ble_eq_true rfl) hs_38_16 dX12_readOne_89 ?_
    cases h; exact at_vret rfl (Nat.le_refl _) (Nat.le_refl _) ⟨rfl, rfl⟩ dX12_readOne_92
  · rw [if_neg c8] at h
    cases h; exact at_vret rfl (Nat.le_refl _) (Nat.le_refl _) ⟨rfl, rfl⟩ dX12_readOne_61
set_option maxRecDepth 100000 in
theorem t_X12_readOne_14 {D : va_G} {b : Nat} {K : State → Heap → Prop} {sa : Nat → Nat} (hK : sx_Kk b K sa) (N : Nat) {uG uN uD uR uF uP uL uT uA uM uH xA xB xD xE xF xG xH xI xJ xK xL uO : sx_C} {G : sx_H} (res : sx_C) : ∀ (xC : sx_C), f_X12_readOne_14 N xA xC = some res → sx_At D b K YX12_readOne (sx_rm 7) (sx_Ex none (sx_hp b uG uN uD uR uF uP uL uT uA uM uH xA xB res xD xE xF xG xH xI xJ xK xL uO G)) 14 [(0, .ref (b + 38))] [] (sx_hp b uG uN uD uR uF uP uL uT uA uM uH xA xB xC xD xE xF xG xH xI xJ xK xL uO G) 0 0 := by
  intro xC h
  rw [f_X12_readOne_14] at h
  refine at_aload_n 0 dX12_readOne_14 rfl ?_
  obtain ⟨q1, hq1, h⟩ := sp_bind h
  refine at_callVv (st := []) hK mt_X12_goOn ml_X12_135 cl_X12 hg_38 (t_X12_goOn hK hq1) rfl rfl (Nat.le_of_ble_eq_true rfl) ⟨Nat.le_of_ble_eq_true rfl, Nat.le_of_ble_eq_true rfl⟩ ⟨Nat.le_refl _, Nat.le_refl _⟩ dX12_readOne_15 ?_
  refine at_aload_n 0 dX12_readOne_18 rfl ?_
  refine at_aload_n 0 dX12_readOne_19 rfl ?_
  refine at_getf cl_X12 (by decide) fl_X12_132 hg_38 rfl dX12_readOne_20 ?_
  obtain ⟨q2, hq2, h⟩ := sp_bind h
  refine at_callVi (st := []) hK mt_X12_numberBelow ml_X12_145 cl_X12 hg_38 (t_X12_numberBelow hK hq2) rfl rfl (Nat.le_of_ble_eq_true rfl) ⟨Nat.le_of_ble_eq_true rfl, Nat.le_of_ble_eq_true rfl⟩ ⟨Nat.le_refl _, Nat.le_refl _⟩ dX12_readOne_23 ?_
  refine at_istore_n [(0, .ref (b + 38)), (1, .int (q2.1))] dX12_readOne_26 (Nat.le_of_ble_eq_true rfl) rfl ?_
  refine at_aload_n 0 dX12_readOne_27 rfl ?_
  obtain ⟨q3, hq3, h⟩ := sp_bind h
  refine at_callVv (st := []) hK mt_X12_goOn ml_X12_135 cl_X12 hg_38 (t_X12_goOn hK hq3) rfl rfl (Nat.le_of_ble_eq_true rfl) ⟨Nat.le_of_ble_eq_true rfl, Nat.le_of_ble_eq_true rfl⟩ ⟨Nat.le_refl _, Nat.le_refl _⟩ dX12_readOne_28 ?_
  refine at_aload_n 0 dX12_readOne_31 rfl ?_
  refine at_aload_n 0 dX12_readOne_32 rfl ?_
  refine at_getf cl_X12 (by decide) fl_X12_132 hg_38 rfl dX12_readOne_33 ?_
  obtain ⟨q4, hq4, h⟩ := sp_bind h
  refine at_callVi (st := []) hK mt_X12_numberBelow ml_X12_145 cl_X12 hg_38 (t_X12_numberBelow hK hq4) rfl rfl (Nat.le_of_ble_eq_true rfl) ⟨Nat.le_of_ble_eq_true rfl, Nat.le_of_ble_eq_true rfl⟩ ⟨Nat.le_refl _, Nat.le_refl _⟩ dX12_readOne_36 ?_
  refine at_istore_n [(0, .ref (b + 38)), (1, .int (q2.1)), (2, .int (q4.1))] dX12_readOne_39 (Nat.le_of_ble_eq_true rfl) rfl ?_
  refine at_iload_n 1 dX12_readOne_40 rfl ?_
  refine at_iload_n 2 dX12_readOne_41 rfl ?_
  refine at_icmp_ne 50 dX12_readOne_42 (by decide) (fun c5 => ?_) (fun c5 => ?_)
  · rw [if_neg c5] at h
    exact t_X12_readOne_50 hK N _ _ _ _ h
  · rw [if_pos c5] at h
    refine at_aload_n 0 dX12_readOne_45 rfl ?_
    refine at_iconst 3 dX12_readOne_46 ic_3 ?_
    obtain ⟨q6, hq6, h⟩ := sp_bind h
    refine at_callVv (st := []) hK mt_X12_wrong ml_X12_128 cl_X12 hg_38 (t_X12_wrong hK hq6) rfl rfl (Nat.le_of_ble_eq_true rfl) ⟨Nat.le_of_ble_eq_true rfl, Nat.le_of_ble_eq_true rfl⟩ ⟨Nat.le_refl _, Nat.le_refl _⟩ dX12_readOne_47 ?_
    exact t_X12_readOne_50 hK N _ _ _ _ h
set_option maxRecDepth 100000 in
theorem t_X12_readOne {D : va_G} {b : Nat} {K : State → Heap → Prop} {sa : Nat → Nat} (hK : sx_Kk b K sa) {N : Nat} {uG uN uD uR uF uP uL uT uA uM uH xA xB xD xE xF xG xH xI xJ xK xL uO : sx_C} {G : sx_H} {xC : sx_C} {res : sx_C} (h : f_X12_readOne N xA xC = some res) : sx_Runs D b K yX12_readOne YX12_readOne (sx_rm 7) [.ref (b + 38)] (sx_hp b uG uN uD uR uF uP uL uT uA uM uH xA xB xC xD xE xF xG xH xI xJ xK xL uO G) (sx_Ex none (sx_hp b uG uN uD uR uF uP uL uT uA uM uH xA xB res xD xE xF xG xH xI xJ xK xL uO G)) := by
  rw [f_X12_readOne] at h
  refine sx_run (by decide +kernel) rfl rfl (Nat.le_of_ble_eq_true rfl) ?_
  refine at_aload_n 0 dX12_readOne_0 rfl ?_
  refine at_getf cl_X12 (by decide) fl_X12_152 hg_38 rfl dX12_readOne_1 ?_
  refine at_bipush 14 dX12_readOne_4 bp_14 ?_
  refine at_icmp_ne 14 dX12_readOne_6 (by decide) (fun c11 => ?_) (fun c11 => ?_)
  · rw [if_neg c11] at h
    exact t_X12_readOne_14 hK N _ _ h
  · rw [if_pos c11] at h
    refine at_aload_n 0 dX12_readOne_9 rfl ?_
    refine at_iconst 2 dX12_readOne_10 ic_2 ?_
    obtain ⟨q12, hq12, h⟩ := sp_bind h
    refine at_callVv (st := []) hK mt_X12_wrong ml_X12_128 cl_X12 hg_38 (t_X12_wrong hK hq12) rfl rfl (Nat.le_of_ble_eq_true rfl) ⟨Nat.le_of_ble_eq_true rfl, Nat.le_of_ble_eq_true rfl⟩ ⟨Nat.le_refl _, Nat.le_refl _⟩ dX12_readOne_11 ?_
    exact t_X12_readOne_14 hK N _ _ h
set_option maxRecDepth 100000 in
theorem t_X12_readDone_42 {D : va_G} {b : Nat} {K : State → Heap → Prop} {sa : Nat → Nat} (hK : sx_Kk b K sa) (N : Nat) {uG uN uD uR uF uP uL uT uA uM uH xA xB xD xE xF xG xH xI xJ xK xL uO : sx_C} {G : sx_H} (res : sx_C) : ∀ (v1 : Int32) (v2 : Int32) (xC : sx_C), f_X12_readDone_42 N xA v1 v2 xC = some res → sx_At D b K YX12_readDone (sx_rm 7) (sx_Ex none (sx_hp b uG uN uD uR uF uP uL uT uA uM uH xA xB res xD xE xF xG xH xI xJ xK xL uO G)) 42 [(0, .ref (b + 38)), (1, .int v1), (2, .int v2)] [] (sx_hp b uG uN uD uR uF uP uL uT uA uM uH xA xB xC xD xE xF xG xH xI xJ xK xL uO G) 0 0 := by
  intro v1 v2 xC h
  rw [f_X12_readDone_42] at h
  refine at_aload_n 0 dX12_readDone_42 rfl ?_
  obtain ⟨q1, hq1, h⟩ := sp_bind h
  refine at_callVv (st := []) hK mt_X12_goOn ml_X12_135 cl_X12 hg_38 (t_X12_goOn hK hq1) rfl rfl (Nat.le_of_ble_eq_true rfl) ⟨Nat.le_of_ble_eq_true rfl, Nat.le_of_ble_eq_true rfl⟩ ⟨Nat.le_refl _, Nat.le_refl _⟩ dX12_readDone_43 ?_
  refine at_aload_n 0 dX12_readDone_46 rfl ?_
  refine at_getf cl_X12 (by decide) fl_X12_119 hg_38 rfl dX12_readDone_47 ?_
  refine at_if_eq 54 dX12_readDone_50 (by decide) (fun c2 => ?_) (fun c2 => ?_)
  · rw [if_pos c2] at h
    refine at_iload_n 1 dX12_readDone_54 rfl ?_
    refine at_if_eq 73 dX12_readDone_55 (by decide) (fun c3 => ?_) (fun c3 => ?_)
    · rw [if_pos c3] at h
      refine at_aload_n 0 dX12_readDone_73 rfl ?_
      refine at_dup dX12_readDone_74 rfl ?_
      refine at_getf cl_X12 (by decide) fl_X12_158 hg_38 rfl dX12_readDone_75 ?_
      refine at_iconst 1 dX12_readDone_78 ic_1 ?_
      refine at_iload_n 2 dX12_readDone_79 rfl ?_
      refine at_ishl dX12_readDone_80 ?_
      refine at_ior dX12_readDone_81 ?_
      refine at_putf cl_X12 (by decide) fl_X12_158 rfl hg_38 rfl rfl (Nat.le_of_ble_eq_true rfl) hs_38_20 dX12_readDone_82 ?_
      cases h; exact at_vret rfl (Nat.le_refl _) (Nat.le_refl _) ⟨rfl, rfl⟩ dX12_readDone_85
    · rw [if_neg c3] at h
      refine at_aload_n 0 dX12_readDone_58 rfl ?_
      refine at_dup dX12_readDone_59 rfl ?_
      refine at_getf cl_X12 (by decide) fl_X12_155 hg_38 rfl dX12_readDone_60 ?_
      refine at_iconst 1 dX12_readDone_63 ic_1 ?_
      refine at_iload_n 2 dX12_readDone_64 rfl ?_
      refine at_ishl dX12_readDone_65 ?_
      refine at_ior dX12_readDone_66 ?_
      refine at_putf cl_X12 (by decide) fl_X12_155 rfl hg_38 rfl rfl (Nat.le_of_ble_eq_true rfl) hs_38_19 dX12_readDone_67 ?_
      refine at_goto 85 dX12_readDone_70 (by decide) ?_
      cases h; exact at_vret rfl (Nat.le_refl _) (Nat.le_refl _) ⟨rfl, rfl⟩ dX12_readDone_85
  · rw [if_neg c2] at h
    cases h; exact at_vret rfl (Nat.le_refl _) (Nat.le_refl _) ⟨rfl, rfl⟩ dX12_readDone_53
set_option maxRecDepth 100000 in
theorem t_X12_readDone {D : va_G} {b : Nat} {K : State → Heap → Prop} {sa : Nat → Nat} (hK : sx_Kk b K sa) {N : Nat} {uG uN uD uR uF uP uL uT uA uM uH xA xB xD xE xF xG xH xI xJ xK xL uO : sx_C} {G : sx_H} {v1 : Int32} {xC : sx_C} {res : sx_C} (h : f_X12_readDone N xA v1 xC = some res) : sx_Runs D b K yX12_readDone YX12_readDone (sx_rm 7) [.ref (b + 38), .int v1] (sx_hp b uG uN uD uR uF uP uL uT uA uM uH xA xB xC xD xE xF xG xH xI xJ xK xL uO G) (sx_Ex none (sx_hp b uG uN uD uR uF uP uL uT uA uM uH xA xB res xD xE xF xG xH xI xJ xK xL uO G)) := by
  rw [f_X12_readDone] at h
  refine sx_run (by decide +kernel) rfl rfl (Nat.le_of_ble_eq_true rfl) ?_
  refine at_aload_n 0 dX12_readDone_0 rfl ?_
  obtain ⟨q4, hq4, h⟩ := sp_bind h
  refine at_callVv (st := []) hK mt_X12_goOn ml_X12_135 cl_X12 hg_38 (t_X12_goOn hK hq4) rfl rfl (Nat.le_of_ble_eq_true rfl) ⟨Nat.le_of_ble_eq_true rfl, Nat.le_of_ble_eq_true rfl⟩ ⟨Nat.le_refl _, Nat.le_refl _⟩ dX12_readDone_1 ?_
  refine at_aload_n 0 dX12_readDone_4 rfl ?_
  refine at_aload_n 0 dX12_readDone_5 rfl ?_
  refine at_getf cl_X12 (by decide) fl_X12_152 hg_38 rfl dX12_readDone_6 ?_
  obtain ⟨q5, hq5, h⟩ := sp_bind h
  refine at_callVi (st := []) hK mt_X12_numberBelow ml_X12_145 cl_X12 hg_38 (t_X12_numberBelow hK hq5) rfl rfl (Nat.le_of_ble_eq_true rfl) ⟨Nat.le_of_ble_eq_true rfl, Nat.le_of_ble_eq_true rfl⟩ ⟨Nat.le_refl _, Nat.le_refl _⟩ dX12_readDone_9 ?_
  refine at_istore_n [(0, .ref (b + 38)), (1, .int v1), (2, .int (q5.1))] dX12_readDone_12 (Nat.le_of_ble_eq_true rfl) rfl ?_
  refine at_aload_n 0 dX12_readDone_13 rfl ?_
  refine at_getf cl_X12 (by decide) fl_X12_119 hg_38 rfl dX12_readDone_14 ?_
  refine at_if_ne 42 dX12_readDone_17 (by decide) (fun c6 => ?_) (fun c6 => ?_)
  · rw [if_neg c6] at h
    exact t_X12_readDone_42 hK N _ _ _ _ h
  · rw [if_pos c6] at h
    refine at_aload_n 0 dX12_readDone_20 rfl ?_
    refine at_getf cl_X12 (by decide) fl_X12_155 hg_38 rfl dX12_readDone_21 ?_
    refine at_aload_n 0 dX12_readDone_24 rfl ?_
    refine at_getf cl_X12 (by decide) fl_X12_158 hg_38 rfl dX12_readDone_25 ?_
    refine at_ior dX12_readDone_28 ?_
    refine at_iload_n 2 dX12_readDone_29 rfl ?_
    refine at_ishr dX12_readDone_30 ?_
    refine at_iconst 1 dX12_readDone_31 ic_1 ?_
    refine at_iand dX12_readDone_32 ?_
    refine at_iconst 1 dX12_readDone_33 ic_1 ?_
    refine at_icmp_ne 42 dX12_readDone_34 (by decide) (fun c7 => ?_) (fun c7 => ?_)
    · rw [if_neg c7] at h
      exact t_X12_readDone_42 hK N _ _ _ _ h
    · rw [if_pos c7] at h
      refine at_aload_n 0 dX12_readDone_37 rfl ?_
      refine at_iconst 3 dX12_readDone_38 ic_3 ?_
      obtain ⟨q8, hq8, h⟩ := sp_bind h
      refine at_callVv (st := []) hK mt_X12_wrong ml_X12_128 cl_X12 hg_38 (t_X12_wrong hK hq8) rfl rfl (Nat.le_of_ble_eq_true rfl) ⟨Nat.le_of_ble_eq_true rfl, Nat.le_of_ble_eq_true rfl⟩ ⟨Nat.le_refl _, Nat.le_refl _⟩ dX12_readDone_39 ?_
      exact t_X12_readDone_42 hK N _ _ _ _ h
set_option maxRecDepth 100000 in
theorem t_X12_readFirst_67 {D : va_G} {b : Nat} {K : State → Heap → Prop} {sa : Nat → Nat} (hK : sx_Kk b K sa) (N : Nat) {uG uN uD uR uF uP uL uT uA uM uH xA xB xD xE xF xG xH xI xJ xK xL uO : sx_C} {G : sx_H} (res : sx_C) : ∀ (s1 : Int32) (xC : sx_C), f_X12_readFirst_67 N xA s1 xC = some res → sx_At D b K YX12_readFirst (sx_rm 7) (sx_Ex none (sx_hp b uG uN uD uR uF uP uL uT uA uM uH xA xB res xD xE xF xG xH xI xJ xK xL uO G)) 67 [(0, .ref (b + 38))] [.int s1, .ref (b + 38)] (sx_hp b uG uN uD uR uF uP uL uT uA uM uH xA xB xC xD xE xF xG xH xI xJ xK xL uO G) 0 0 := by
  intro s1 xC h
  rw [f_X12_readFirst_67] at h
  refine at_putf cl_X12 (by decide) fl_X12_167 rfl hg_38 rfl rfl (Nat.le_of_ble_eq_true rfl) hs_38_23 dX12_readFirst_67 ?_
  refine at_aload_n 0 dX12_readFirst_70 rfl ?_
  obtain ⟨q9, hq9, h⟩ := sp_bind h
  refine at_callVv (st := []) hK mt_X12_goOn ml_X12_135 cl_X12 hg_38 (t_X12_goOn hK hq9) rfl rfl (Nat.le_of_ble_eq_true rfl) ⟨Nat.le_of_ble_eq_true rfl, Nat.le_of_ble_eq_true rfl⟩ ⟨Nat.le_refl _, Nat.le_refl _⟩ dX12_readFirst_71 ?_
  cases h; exact at_vret rfl (Nat.le_refl _) (Nat.le_refl _) ⟨rfl, rfl⟩ dX12_readFirst_74
set_option maxRecDepth 100000 in
theorem t_X12_readFirst_39 {D : va_G} {b : Nat} {K : State → Heap → Prop} {sa : Nat → Nat} (hK : sx_Kk b K sa) (N : Nat) {uG uN uD uR uF uP uL uT uA uM uH xA xB xD xE xF xG xH xI xJ xK xL uO : sx_C} {G : sx_H} (res : sx_C) : ∀ (xC : sx_C), f_X12_readFirst_39 N xA xC = some res → sx_At D b K YX12_readFirst (sx_rm 7) (sx_Ex none (sx_hp b uG uN uD uR uF uP uL uT uA uM uH xA xB res xD xE xF xG xH xI xJ xK xL uO G)) 39 [(0, .ref (b + 38))] [] (sx_hp b uG uN uD uR uF uP uL uT uA uM uH xA xB xC xD xE xF xG xH xI xJ xK xL uO G) 0 0 := by
  intro xC h
  rw [f_X12_readFirst_39] at h
  refine at_aload_n 0 dX12_readFirst_39 rfl ?_
  refine at_getf cl_X12 (by decide) fl_X12_119 hg_38 rfl dX12_readFirst_40 ?_
  refine at_if_eq 47 dX12_readFirst_43 (by decide) (fun c7 => ?_) (fun c7 => ?_)
  · rw [if_pos c7] at h
    refine at_aload_n 0 dX12_readFirst_47 rfl ?_
    refine at_iconst 1 dX12_readFirst_48 ic_1 ?_
    refine at_putf cl_X12 (by decide) fl_X12_161 rfl hg_38 rfl rfl (Nat.le_of_ble_eq_true rfl) hs_38_26 dX12_readFirst_49 ?_
    refine at_aload_n 0 dX12_readFirst_52 rfl ?_
    refine at_aload_n 0 dX12_readFirst_53 rfl ?_
    refine at_getf cl_X12 (by decide) fl_X12_102 hg_38 rfl dX12_readFirst_54 ?_
    refine at_bipush 6 dX12_readFirst_57 bp_6 ?_
    refine at_icmp_ne 66 dX12_readFirst_59 (by decide) (fun c8 => ?_) (fun c8 => ?_)
    · rw [if_neg c8] at h
      refine at_iconst 1 dX12_readFirst_66 ic_1 ?_
      exact t_X12_readFirst_67 hK N _ _ _ h
    · rw [if_pos c8] at h
      refine at_iconst 0 dX12_readFirst_62 ic_0 ?_
      refine at_goto 67 dX12_readFirst_63 (by decide) ?_
      exact t_X12_readFirst_67 hK N _ _ _ h
  · rw [if_neg c7] at h
    cases h; exact at_vret rfl (Nat.le_refl _) (Nat.le_refl _) ⟨rfl, rfl⟩ dX12_readFirst_46
set_option maxRecDepth 100000 in
theorem t_X12_readFirst_12 {D : va_G} {b : Nat} {K : State → Heap → Prop} {sa : Nat → Nat} (hK : sx_Kk b K sa) (N : Nat) {uG uN uD uR uF uP uL uT uA uM uH xA xB xD xE xF xG xH xI xJ xK xL uO : sx_C} {G : sx_H} (res : sx_C) : ∀ (xC : sx_C), f_X12_readFirst_12 N xA xC = some res → sx_At D b K YX12_readFirst (sx_rm 7) (sx_Ex none (sx_hp b uG uN uD uR uF uP uL uT uA uM uH xA xB res xD xE xF xG xH xI xJ xK xL uO G)) 12 [(0, .ref (b + 38))] [] (sx_hp b uG uN uD uR uF uP uL uT uA uM uH xA xB xC xD xE xF xG xH xI xJ xK xL uO G) 0 0 := by
  intro xC h
  rw [f_X12_readFirst_12] at h
  refine at_aload_n 0 dX12_readFirst_12 rfl ?_
  obtain ⟨q1, hq1, h⟩ := sp_bind h
  refine at_callVv (st := []) hK mt_X12_goOn ml_X12_135 cl_X12 hg_38 (t_X12_goOn hK hq1) rfl rfl (Nat.le_of_ble_eq_true rfl) ⟨Nat.le_of_ble_eq_true rfl, Nat.le_of_ble_eq_true rfl⟩ ⟨Nat.le_refl _, Nat.le_refl _⟩ dX12_readFirst_13 ?_
  refine at_aload_n 0 dX12_readFirst_16 rfl ?_
  refine at_bipush 6 dX12_readFirst_17 bp_6 ?_
  obtain ⟨q2, hq2, h⟩ := sp_bind h
  refine at_callVi (st := []) hK mt_X12_isWord ml_X12_164 cl_X12 hg_38 (t_X12_isWord hK hq2) rfl rfl (Nat.le_of_ble_eq_true rfl) ⟨Nat.le_of_ble_eq_true rfl, Nat.le_of_ble_eq_true rfl⟩ ⟨Nat.le_refl _, Nat.le_refl _⟩ dX12_readFirst_19 ?_
  refine at_zne 39 dX12_readFirst_22 (by decide) (fun c3 => ?_) (fun c3 => ?_)
  · rw [if_pos c3] at h
    exact t_X12_readFirst_39 hK N _ _ h
  · rw [if_neg c3] at h
    refine at_aload_n 0 dX12_readFirst_25 rfl ?_
    refine at_bipush 7 dX12_readFirst_26 bp_7 ?_
    obtain ⟨q4, hq4, h⟩ := sp_bind h
    refine at_callVi (st := []) hK mt_X12_isWord ml_X12_164 cl_X12 hg_38 (t_X12_isWord hK hq4) rfl rfl (Nat.le_of_ble_eq_true rfl) ⟨Nat.le_of_ble_eq_true rfl, Nat.le_of_ble_eq_true rfl⟩ ⟨Nat.le_refl _, Nat.le_refl _⟩ dX12_readFirst_28 ?_
    refine at_zne 39 dX12_readFirst_31 (by decide) (fun c5 => ?_) (fun c5 => ?_)
    · rw [if_pos c5] at h
      exact t_X12_readFirst_39 hK N _ _ h
    · rw [if_neg c5] at h
      refine at_aload_n 0 dX12_readFirst_34 rfl ?_
      refine at_iconst 1 dX12_readFirst_35 ic_1 ?_
      obtain ⟨q6, hq6, h⟩ := sp_bind h
      refine at_callVv (st := []) hK mt_X12_wrong ml_X12_128 cl_X12 hg_38 (t_X12_wrong hK hq6) rfl rfl (Nat.le_of_ble_eq_true rfl) ⟨Nat.le_of_ble_eq_true rfl, Nat.le_of_ble_eq_true rfl⟩ ⟨Nat.le_refl _, Nat.le_refl _⟩ dX12_readFirst_36 ?_
      exact t_X12_readFirst_39 hK N _ _ h
set_option maxRecDepth 100000 in
theorem t_X12_readFirst {D : va_G} {b : Nat} {K : State → Heap → Prop} {sa : Nat → Nat} (hK : sx_Kk b K sa) {N : Nat} {uG uN uD uR uF uP uL uT uA uM uH xA xB xD xE xF xG xH xI xJ xK xL uO : sx_C} {G : sx_H} {xC : sx_C} {res : sx_C} (h : f_X12_readFirst N xA xC = some res) : sx_Runs D b K yX12_readFirst YX12_readFirst (sx_rm 7) [.ref (b + 38)] (sx_hp b uG uN uD uR uF uP uL uT uA uM uH xA xB xC xD xE xF xG xH xI xJ xK xL uO G) (sx_Ex none (sx_hp b uG uN uD uR uF uP uL uT uA uM uH xA xB res xD xE xF xG xH xI xJ xK xL uO G)) := by
  rw [f_X12_readFirst] at h
  refine sx_run (by decide +kernel) rfl rfl (Nat.le_of_ble_eq_true rfl) ?_
  refine at_aload_n 0 dX12_readFirst_0 rfl ?_
  refine at_getf cl_X12 (by decide) fl_X12_161 hg_38 rfl dX12_readFirst_1 ?_
  refine at_if_eq 12 dX12_readFirst_4 (by decide) (fun c10 => ?_) (fun c10 => ?_)
  · rw [if_pos c10] at h
    exact t_X12_readFirst_12 hK N _ _ h
  · rw [if_neg c10] at h
    refine at_aload_n 0 dX12_readFirst_7 rfl ?_
    refine at_iconst 3 dX12_readFirst_8 ic_3 ?_
    obtain ⟨q11, hq11, h⟩ := sp_bind h
    refine at_callVv (st := []) hK mt_X12_wrong ml_X12_128 cl_X12 hg_38 (t_X12_wrong hK hq11) rfl rfl (Nat.le_of_ble_eq_true rfl) ⟨Nat.le_of_ble_eq_true rfl, Nat.le_of_ble_eq_true rfl⟩ ⟨Nat.le_refl _, Nat.le_refl _⟩ dX12_readFirst_9 ?_
    exact t_X12_readFirst_12 hK N _ _ h
set_option maxRecDepth 100000 in
theorem t_X12_readLine_133 {D : va_G} {b : Nat} {K : State → Heap → Prop} {sa : Nat → Nat} (hK : sx_Kk b K sa) (N : Nat) {uG uN uD uR uF uP uL uT uA uM uH xA xB xD xE xF xG xH xI xJ xK xL uO : sx_C} {G : sx_H} (res : sx_C) : ∀ (xC : sx_C), f_X12_readLine_133 N xA xC = some res → sx_At D b K YX12_readLine (sx_rm 8) (sx_Ex none (sx_hp b uG uN uD uR uF uP uL uT uA uM uH xA xB res xD xE xF xG xH xI xJ xK xL uO G)) 133 [(0, .ref (b + 38))] [] (sx_hp b uG uN uD uR uF uP uL uT uA uM uH xA xB xC xD xE xF xG xH xI xJ xK xL uO G) 0 0 := by
  intro xC h
  rw [f_X12_readLine_133] at h
  refine at_aload_n 0 dX12_readLine_133 rfl ?_
  obtain ⟨q20, hq20, h⟩ := sp_bind h
  refine at_callVv (st := []) hK mt_X12_goOn ml_X12_135 cl_X12 hg_38 (t_X12_goOn hK hq20) rfl rfl (Nat.le_of_ble_eq_true rfl) ⟨Nat.le_of_ble_eq_true rfl, Nat.le_of_ble_eq_true rfl⟩ ⟨Nat.le_refl _, Nat.le_refl _⟩ dX12_readLine_134 ?_
  refine at_aload_n 0 dX12_readLine_137 rfl ?_
  refine at_dup dX12_readLine_138 rfl ?_
  refine at_getf cl_X12 (by decide) fl_X12_186 hg_38 rfl dX12_readLine_139 ?_
  refine at_iconst 1 dX12_readLine_142 ic_1 ?_
  refine at_iadd dX12_readLine_143 ?_
  refine at_putf cl_X12 (by decide) fl_X12_186 rfl hg_38 rfl rfl (Nat.le_of_ble_eq_true rfl) hs_38_24 dX12_readLine_144 ?_
  cases h; exact at_vret rfl (Nat.le_refl _) (Nat.le_refl _) ⟨rfl, rfl⟩ dX12_readLine_147
set_option maxRecDepth 100000 in
theorem t_X12_readLine_113 {D : va_G} {b : Nat} {K : State → Heap → Prop} {sa : Nat → Nat} (hK : sx_Kk b K sa) (N : Nat) {uG uN uD uR uF uP uL uT uA uM uH xA xB xD xE xF xG xH xI xJ xK xL uO : sx_C} {G : sx_H} (res : sx_C) : ∀ (xC : sx_C), f_X12_readLine_113 N xA xC = some res → sx_At D b K YX12_readLine (sx_rm 8) (sx_Ex none (sx_hp b uG uN uD uR uF uP uL uT uA uM uH xA xB res xD xE xF xG xH xI xJ xK xL uO G)) 113 [(0, .ref (b + 38))] [] (sx_hp b uG uN uD uR uF uP uL uT uA uM uH xA xB xC xD xE xF xG xH xI xJ xK xL uO G) 0 0 := by
  intro xC h
  rw [f_X12_readLine_113] at h
  refine at_aload_n 0 dX12_readLine_113 rfl ?_
  refine at_getf cl_X12 (by decide) fl_X12_119 hg_38 rfl dX12_readLine_114 ?_
  refine at_if_ne 133 dX12_readLine_117 (by decide) (fun c17 => ?_) (fun c17 => ?_)
  · rw [if_neg c17] at h
    exact t_X12_readLine_133 hK N _ _ h
  · rw [if_pos c17] at h
    refine at_aload_n 0 dX12_readLine_120 rfl ?_
    refine at_getf cl_X12 (by decide) fl_X12_92 hg_38 rfl dX12_readLine_121 ?_
    refine at_iconst 2 dX12_readLine_124 ic_2 ?_
    refine at_icmp_eq 133 dX12_readLine_125 (by decide) (fun c18 => ?_) (fun c18 => ?_)
    · rw [if_pos c18] at h
      exact t_X12_readLine_133 hK N _ _ h
    · rw [if_neg c18] at h
      refine at_aload_n 0 dX12_readLine_128 rfl ?_
      refine at_iconst 1 dX12_readLine_129 ic_1 ?_
      obtain ⟨q19, hq19, h⟩ := sp_bind h
      refine at_callVv (st := []) hK mt_X12_wrong ml_X12_128 cl_X12 hg_38 (t_X12_wrong hK hq19) rfl rfl (Nat.le_of_ble_eq_true rfl) ⟨Nat.le_of_ble_eq_true rfl, Nat.le_of_ble_eq_true rfl⟩ ⟨Nat.le_refl _, Nat.le_refl _⟩ dX12_readLine_130 ?_
      exact t_X12_readLine_133 hK N _ _ h
set_option maxRecDepth 100000 in
theorem t_X12_readLine_35 {D : va_G} {b : Nat} {K : State → Heap → Prop} {sa : Nat → Nat} (hK : sx_Kk b K sa) (N : Nat) {uG uN uD uR uF uP uL uT uA uM uH xA xB xD xE xF xG xH xI xJ xK xL uO : sx_C} {G : sx_H} (res : sx_C) : ∀ (v1 : Int32) (xC : sx_C), f_X12_readLine_35 N xA v1 xC = some res → sx_At D b K YX12_readLine (sx_rm 8) (sx_Ex none (sx_hp b uG uN uD uR uF uP uL uT uA uM uH xA xB res xD xE xF xG xH xI xJ xK xL uO G)) 35 [(0, .ref (b + 38)), (1, .int v1)] [] (sx_hp b uG uN uD uR uF uP uL uT uA uM uH xA xB xC xD xE xF xG xH xI xJ xK xL uO G) 0 0 := by
  intro v1 xC h
  rw [f_X12_readLine_35] at h
  refine at_iload_n 1 dX12_readLine_35 rfl ?_
  refine at_if_ne 46 dX12_readLine_36 (by decide) (fun c4 => ?_) (fun c4 => ?_)
  · rw [if_neg c4] at h
    refine at_iload_n 1 dX12_readLine_46 rfl ?_
    refine at_iconst 1 dX12_readLine_47 ic_1 ?_
    refine at_icmp_ne 58 dX12_readLine_48 (by decide) (fun c5 => ?_) (fun c5 => ?_)
    · rw [if_neg c5] at h
      refine at_iload_n 1 dX12_readLine_58 rfl ?_
      refine at_iconst 2 dX12_readLine_59 ic_2 ?_
      refine at_icmp_ne 70 dX12_readLine_60 (by decide) (fun c6 => ?_) (fun c6 => ?_)
      · rw [if_neg c6] at h
        refine at_iload_n 1 dX12_readLine_70 rfl ?_
        refine at_iconst 3 dX12_readLine_71 ic_3 ?_
        refine at_icmp_ne 83 dX12_readLine_72 (by decide) (fun c7 => ?_) (fun c7 => ?_)
        · rw [if_neg c7] at h
          refine at_iload_n 1 dX12_readLine_83 rfl ?_
          refine at_iconst 4 dX12_readLine_84 ic_4 ?_
          refine at_icmp_ne 96 dX12_readLine_85 (by decide) (fun c8 => ?_) (fun c8 => ?_)
          · rw [if_neg c8] at h
            refine at_iload_n 1 dX12_readLine_96 rfl ?_
            refine at_iconst 5 dX12_readLine_97 ic_5 ?_
            refine at_icmp_ne 108 dX12_readLine_98 (by decide) (fun c9 => ?_) (fun c9 => ?_)
            · rw [if_neg c9] at h
              refine at_aload_n 0 dX12_readLine_108 rfl ?_
              refine at_iconst 1 dX12_readLine_109 ic_1 ?_
              obtain ⟨q10, hq10, h⟩ := sp_bind h
              refine at_callVv (st := []) hK mt_X12_wrong ml_X12_128 cl_X12 hg_38 (t_X12_wrong hK hq10) rfl rfl (Nat.le_of_ble_eq_true rfl) ⟨Nat.le_of_ble_eq_true rfl, Nat.le_of_ble_eq_true rfl⟩ ⟨Nat.le_refl _, Nat.le_refl _⟩ dX12_readLine_110 ?_
              refine at_sub [0] [(0, .ref (b + 38))] rfl ?_
              exact t_X12_readLine_113 hK N _ _ h
            · rw [if_pos c9] at h
              refine at_aload_n 0 dX12_readLine_101 rfl ?_
              obtain ⟨q11, hq11, h⟩ := sp_bind h
              refine at_callVv (st := []) hK mt_X12_readFirst ml_X12_183 cl_X12 hg_38 (t_X12_readFirst hK hq11) rfl rfl (Nat.le_of_ble_eq_true rfl) ⟨Nat.le_of_ble_eq_true rfl, Nat.le_of_ble_eq_true rfl⟩ ⟨Nat.le_refl _, Nat.le_refl _⟩ dX12_readLine_102 ?_
              refine at_goto 113 dX12_readLine_105 (by decide) ?_
              refine at_sub [0] [(0, .ref (b + 38))] rfl ?_
              exact t_X12_readLine_113 hK N _ _ h
          · rw [if_pos c8] at h
            refine at_aload_n 0 dX12_readLine_88 rfl ?_
            refine at_iconst 0 dX12_readLine_89 ic_0 ?_
            obtain ⟨q12, hq12, h⟩ := sp_bind h
            refine at_callVv (st := []) hK mt_X12_readDone ml_X12_179 cl_X12 hg_38 (t_X12_readDone hK hq12) rfl rfl (Nat.le_of_ble_eq_true rfl) ⟨Nat.le_of_ble_eq_true rfl, Nat.le_of_ble_eq_true rfl⟩ ⟨Nat.le_refl _, Nat.le_refl _⟩ dX12_readLine_90 ?_
            refine at_goto 113 dX12_readLine_93 (by decide) ?_
            refine at_sub [0] [(0, .ref (b + 38))] rfl ?_
            exact t_X12_readLine_113 hK N _ _ h
        · rw [if_pos c7] at h
          refine at_aload_n 0 dX12_readLine_75 rfl ?_
          refine at_iconst 1 dX12_readLine_76 ic_1 ?_
          obtain ⟨q13, hq13, h⟩ := sp_bind h
          refine at_callVv (st := []) hK mt_X12_readDone ml_X12_179 cl_X12 hg_38 (t_X12_readDone hK hq13) rfl rfl (Nat.le_of_ble_eq_true rfl) ⟨Nat.le_of_ble_eq_true rfl, Nat.le_of_ble_eq_true rfl⟩ ⟨Nat.le_refl _, Nat.le_refl _⟩ dX12_readLine_77 ?_
          refine at_goto 113 dX12_readLine_80 (by decide) ?_
          refine at_sub [0] [(0, .ref (b + 38))] rfl ?_
          exact t_X12_readLine_113 hK N _ _ h
      · rw [if_pos c6] at h
        refine at_aload_n 0 dX12_readLine_63 rfl ?_
        obtain ⟨q14, hq14, h⟩ := sp_bind h
        refine at_callVv (st := []) hK mt_X12_readOne ml_X12_176 cl_X12 hg_38 (t_X12_readOne hK hq14) rfl rfl (Nat.le_of_ble_eq_true rfl) ⟨Nat.le_of_ble_eq_true rfl, Nat.le_of_ble_eq_true rfl⟩ ⟨Nat.le_refl _, Nat.le_refl _⟩ dX12_readLine_64 ?_
        refine at_goto 113 dX12_readLine_67 (by decide) ?_
        refine at_sub [0] [(0, .ref (b + 38))] rfl ?_
        exact t_X12_readLine_113 hK N _ _ h
    · rw [if_pos c5] at h
      refine at_aload_n 0 dX12_readLine_51 rfl ?_
      obtain ⟨q15, hq15, h⟩ := sp_bind h
      refine at_callVv (st := []) hK mt_X12_readEnds ml_X12_173 cl_X12 hg_38 (t_X12_readEnds hK hq15) rfl rfl (Nat.le_of_ble_eq_true rfl) ⟨Nat.le_of_ble_eq_true rfl, Nat.le_of_ble_eq_true rfl⟩ ⟨Nat.le_refl _, Nat.le_refl _⟩ dX12_readLine_52 ?_
      refine at_goto 113 dX12_readLine_55 (by decide) ?_
      refine at_sub [0] [(0, .ref (b + 38))] rfl ?_
      exact t_X12_readLine_113 hK N _ _ h
  · rw [if_pos c4] at h
    refine at_aload_n 0 dX12_readLine_39 rfl ?_
    obtain ⟨q16, hq16, h⟩ := sp_bind h
    refine at_callVv (st := []) hK mt_X12_readKnots ml_X12_170 cl_X12 hg_38 (t_X12_readKnots hK hq16) rfl rfl (Nat.le_of_ble_eq_true rfl) ⟨Nat.le_of_ble_eq_true rfl, Nat.le_of_ble_eq_true rfl⟩ ⟨Nat.le_refl _, Nat.le_refl _⟩ dX12_readLine_40 ?_
    refine at_goto 113 dX12_readLine_43 (by decide) ?_
    refine at_sub [0] [(0, .ref (b + 38))] rfl ?_
    exact t_X12_readLine_113 hK N _ _ h
set_option maxRecDepth 100000 in
theorem t_X12_readLine_15 {D : va_G} {b : Nat} {K : State → Heap → Prop} {sa : Nat → Nat} (hK : sx_Kk b K sa) (N : Nat) {uG uN uD uR uF uP uL uT uA uM uH xA xB xD xE xF xG xH xI xJ xK xL uO : sx_C} {G : sx_H} (res : sx_C) : ∀ (s0 : Int32) (xC : sx_C), f_X12_readLine_15 N xA s0 xC = some res → sx_At D b K YX12_readLine (sx_rm 8) (sx_Ex none (sx_hp b uG uN uD uR uF uP uL uT uA uM uH xA xB res xD xE xF xG xH xI xJ xK xL uO G)) 15 [(0, .ref (b + 38))] [.int s0] (sx_hp b uG uN uD uR uF uP uL uT uA uM uH xA xB xC xD xE xF xG xH xI xJ xK xL uO G) 0 0 := by
  intro s0 xC h
  rw [f_X12_readLine_15] at h
  refine at_istore_n [(0, .ref (b + 38)), (1, .int s0)] dX12_readLine_15 (Nat.le_of_ble_eq_true rfl) rfl ?_
  refine at_iload_n 1 dX12_readLine_16 rfl ?_
  refine at_if_eq 35 dX12_readLine_17 (by decide) (fun c1 => ?_) (fun c1 => ?_)
  · rw [if_pos c1] at h
    exact t_X12_readLine_35 hK N _ _ _ h
  · rw [if_neg c1] at h
    refine at_aload_n 0 dX12_readLine_20 rfl ?_
    refine at_getf cl_X12 (by decide) fl_X12_132 hg_38 rfl dX12_readLine_21 ?_
    refine at_if_ne 35 dX12_readLine_24 (by decide) (fun c2 => ?_) (fun c2 => ?_)
    · rw [if_neg c2] at h
      exact t_X12_readLine_35 hK N _ _ _ h
    · rw [if_pos c2] at h
      refine at_aload_n 0 dX12_readLine_27 rfl ?_
      refine at_iconst 1 dX12_readLine_28 ic_1 ?_
      obtain ⟨q3, hq3, h⟩ := sp_bind h
      refine at_callVv (st := []) hK mt_X12_wrong ml_X12_128 cl_X12 hg_38 (t_X12_wrong hK hq3) rfl rfl (Nat.le_of_ble_eq_true rfl) ⟨Nat.le_of_ble_eq_true rfl, Nat.le_of_ble_eq_true rfl⟩ ⟨Nat.le_refl _, Nat.le_refl _⟩ dX12_readLine_29 ?_
      refine at_goto 113 dX12_readLine_32 (by decide) ?_
      refine at_sub [0] [(0, .ref (b + 38))] rfl ?_
      exact t_X12_readLine_113 hK N _ _ h
set_option maxRecDepth 100000 in
theorem t_X12_readLine {D : va_G} {b : Nat} {K : State → Heap → Prop} {sa : Nat → Nat} (hK : sx_Kk b K sa) {N : Nat} {uG uN uD uR uF uP uL uT uA uM uH xA xB xD xE xF xG xH xI xJ xK xL uO : sx_C} {G : sx_H} {xC : sx_C} {res : sx_C} (h : f_X12_readLine N xA xC = some res) : sx_Runs D b K yX12_readLine YX12_readLine (sx_rm 8) [.ref (b + 38)] (sx_hp b uG uN uD uR uF uP uL uT uA uM uH xA xB xC xD xE xF xG xH xI xJ xK xL uO G) (sx_Ex none (sx_hp b uG uN uD uR uF uP uL uT uA uM uH xA xB res xD xE xF xG xH xI xJ xK xL uO G)) := by
  rw [f_X12_readLine] at h
  refine sx_run (by decide +kernel) rfl rfl (Nat.le_of_ble_eq_true rfl) ?_
  refine at_aload_n 0 dX12_readLine_0 rfl ?_
  refine at_getf cl_X12 (by decide) fl_X12_92 hg_38 rfl dX12_readLine_1 ?_
  refine at_if_ne 14 dX12_readLine_4 (by decide) (fun c21 => ?_) (fun c21 => ?_)
  · rw [if_neg c21] at h
    refine at_iconst (-1) dX12_readLine_14 ic_m1 ?_
    exact t_X12_readLine_15 hK N _ _ _ h
  · rw [if_pos c21] at h
    refine at_aload_n 0 dX12_readLine_7 rfl ?_
    refine at_getf cl_X12 (by decide) fl_X12_102 hg_38 rfl dX12_readLine_8 ?_
    refine at_goto 15 dX12_readLine_11 (by decide) ?_
    exact t_X12_readLine_15 hK N _ _ _ h
set_option maxRecDepth 100000 in
theorem t_X12_readText_69 {D : va_G} {b : Nat} {K : State → Heap → Prop} {sa : Nat → Nat} (hK : sx_Kk b K sa) (N : Nat) {uG uN uD uR uF uP uL uT uA uM uH xA xB xD xE xF xG xH xI xJ xK xL uO : sx_C} {G : sx_H} (res : sx_C) : ∀ (n0 : Nat) (xC : sx_C), f_X12_readText_69 N xA n0 xC = some res → sx_At D b K YX12_readText (sx_rm 9) (sx_Ex none (sx_hp b uG uN uD uR uF uP uL uT uA uM uH xA xB res xD xE xF xG xH xI xJ xK xL uO G)) 69 [(0, .ref (b + 38))] [] (sx_hp b uG uN uD uR uF uP uL uT uA uM uH xA xB xC xD xE xF xG xH xI xJ xK xL uO G) 0 0 := by
  intro n0
  induction n0 with
  | zero => intro _ h; cases h
  | succ n0 ih =>
    intro xC h
    rw [f_X12_readText_69] at h
    refine at_aload_n 0 dX12_readText_69 rfl ?_
    refine at_getf cl_X12 (by decide) fl_X12_119 hg_38 rfl dX12_readText_70 ?_
    refine at_if_ne 91 dX12_readText_73 (by decide) (fun c1 => ?_) (fun c1 => ?_)
    · rw [if_neg c1] at h
      cases h; exact at_vret rfl (Nat.le_refl _) (Nat.le_refl _) ⟨rfl, rfl⟩ dX12_readText_91
    · rw [if_pos c1] at h
      refine at_aload_n 0 dX12_readText_76 rfl ?_
      refine at_getf cl_X12 (by decide) fl_X12_92 hg_38 rfl dX12_readText_77 ?_
      refine at_iconst 3 dX12_readText_80 ic_3 ?_
      refine at_icmp_eq 91 dX12_readText_81 (by decide) (fun c2 => ?_) (fun c2 => ?_)
      · rw [if_pos c2] at h
        cases h; exact at_vret rfl (Nat.le_refl _) (Nat.le_refl _) ⟨rfl, rfl⟩ dX12_readText_91
      · rw [if_neg c2] at h
        refine at_aload_n 0 dX12_readText_84 rfl ?_
        obtain ⟨q3, hq3, h⟩ := sp_bind h
        refine at_callVv (st := []) hK mt_X12_readLine ml_X12_189 cl_X12 hg_38 (t_X12_readLine hK hq3) rfl rfl (Nat.le_of_ble_eq_true rfl) ⟨Nat.le_of_ble_eq_true rfl, Nat.le_of_ble_eq_true rfl⟩ ⟨Nat.le_refl _, Nat.le_refl _⟩ dX12_readText_85 ?_
        refine at_goto 69 dX12_readText_88 (by decide) ?_
        exact ih _ h
set_option maxRecDepth 100000 in
theorem t_X12_readText {D : va_G} {b : Nat} {K : State → Heap → Prop} {sa : Nat → Nat} (hK : sx_Kk b K sa) {N : Nat} {uG uN uD uR uF uP uL uT uA uM uH xA xB xD xE xF xG xH xI xJ xK xL uO : sx_C} {G : sx_H} {v1 : Int32} {xC : sx_C} {res : sx_C} (h : f_X12_readText N xA v1 xC = some res) : sx_Runs D b K yX12_readText YX12_readText (sx_rm 9) [.ref (b + 38), .int v1] (sx_hp b uG uN uD uR uF uP uL uT uA uM uH xA xB xC xD xE xF xG xH xI xJ xK xL uO G) (sx_Ex none (sx_hp b uG uN uD uR uF uP uL uT uA uM uH xA xB res xD xE xF xG xH xI xJ xK xL uO G)) := by
  rw [f_X12_readText] at h
  refine sx_run (by decide +kernel) rfl rfl (Nat.le_of_ble_eq_true rfl) ?_
  refine at_aload_n 0 dX12_readText_0 rfl ?_
  refine at_iconst 0 dX12_readText_1 ic_0 ?_
  refine at_putf cl_X12 (by decide) fl_X12_132 rfl hg_38 rfl rfl (Nat.le_of_ble_eq_true rfl) hs_38_15 dX12_readText_2 ?_
  refine at_aload_n 0 dX12_readText_5 rfl ?_
  refine at_iconst 0 dX12_readText_6 ic_0 ?_
  refine at_putf cl_X12 (by decide) fl_X12_152 rfl hg_38 rfl rfl (Nat.le_of_ble_eq_true rfl) hs_38_16 dX12_readText_7 ?_
  refine at_aload_n 0 dX12_readText_10 rfl ?_
  refine at_iconst 0 dX12_readText_11 ic_0 ?_
  refine at_putf cl_X12 (by decide) fl_X12_155 rfl hg_38 rfl rfl (Nat.le_of_ble_eq_true rfl) hs_38_19 dX12_readText_12 ?_
  refine at_aload_n 0 dX12_readText_15 rfl ?_
  refine at_iconst 0 dX12_readText_16 ic_0 ?_
  refine at_putf cl_X12 (by decide) fl_X12_158 rfl hg_38 rfl rfl (Nat.le_of_ble_eq_true rfl) hs_38_20 dX12_readText_17 ?_
  refine at_aload_n 0 dX12_readText_20 rfl ?_
  refine at_iconst 0 dX12_readText_21 ic_0 ?_
  refine at_putf cl_X12 (by decide) fl_X12_149 rfl hg_38 rfl rfl (Nat.le_of_ble_eq_true rfl) hs_38_21 dX12_readText_22 ?_
  refine at_aload_n 0 dX12_readText_25 rfl ?_
  refine at_iconst 1 dX12_readText_26 ic_1 ?_
  refine at_putf cl_X12 (by decide) fl_X12_138 rfl hg_38 rfl rfl (Nat.le_of_ble_eq_true rfl) hs_38_22 dX12_readText_27 ?_
  refine at_aload_n 0 dX12_readText_30 rfl ?_
  refine at_iconst 1 dX12_readText_31 ic_1 ?_
  refine at_putf cl_X12 (by decide) fl_X12_167 rfl hg_38 rfl rfl (Nat.le_of_ble_eq_true rfl) hs_38_23 dX12_readText_32 ?_
  refine at_aload_n 0 dX12_readText_35 rfl ?_
  refine at_iconst 0 dX12_readText_36 ic_0 ?_
  refine at_putf cl_X12 (by decide) fl_X12_186 rfl hg_38 rfl rfl (Nat.le_of_ble_eq_true rfl) hs_38_24 dX12_readText_37 ?_
  refine at_aload_n 0 dX12_readText_40 rfl ?_
  refine at_iconst 0 dX12_readText_41 ic_0 ?_
  refine at_putf cl_X12 (by decide) fl_X12_141 rfl hg_38 rfl rfl (Nat.le_of_ble_eq_true rfl) hs_38_25 dX12_readText_42 ?_
  refine at_aload_n 0 dX12_readText_45 rfl ?_
  refine at_iconst 0 dX12_readText_46 ic_0 ?_
  refine at_putf cl_X12 (by decide) fl_X12_161 rfl hg_38 rfl rfl (Nat.le_of_ble_eq_true rfl) hs_38_26 dX12_readText_47 ?_
  refine at_aload_n 0 dX12_readText_50 rfl ?_
  refine at_iload_n 1 dX12_readText_51 rfl ?_
  refine at_putf cl_X12 (by decide) fl_X12_82 rfl hg_38 rfl rfl (Nat.le_of_ble_eq_true rfl) hs_38_27 dX12_readText_52 ?_
  refine at_aload_n 0 dX12_readText_55 rfl ?_
  refine at_iconst 0 dX12_readText_56 ic_0 ?_
  refine at_putf cl_X12 (by decide) fl_X12_79 rfl hg_38 rfl rfl (Nat.le_of_ble_eq_true rfl) hs_38_28 dX12_readText_57 ?_
  refine at_aload_n 0 dX12_readText_60 rfl ?_
  refine at_iconst 0 dX12_readText_61 ic_0 ?_
  refine at_putf cl_X12 (by decide) fl_X12_119 rfl hg_38 rfl rfl (Nat.le_of_ble_eq_true rfl) hs_38_32 dX12_readText_62 ?_
  refine at_aload_n 0 dX12_readText_65 rfl ?_
  obtain ⟨q4, hq4, h⟩ := sp_bind h
  refine at_callVv (st := []) hK mt_X12_token ml_X12_125 cl_X12 hg_38 (t_X12_token hK hq4) rfl rfl (Nat.le_of_ble_eq_true rfl) ⟨Nat.le_of_ble_eq_true rfl, Nat.le_of_ble_eq_true rfl⟩ ⟨Nat.le_refl _, Nat.le_refl _⟩ dX12_readText_66 ?_
  refine at_sub [0] [(0, .ref (b + 38))] rfl ?_
  exact t_X12_readText_69 hK N _ N _ h
set_option maxRecDepth 100000 in
theorem t_X12_text_95 {D : va_G} {b : Nat} {K : State → Heap → Prop} {sa : Nat → Nat} (hK : sx_Kk b K sa) (N : Nat) {uG uN uD uR uF uP uL uT uA uM uH xD xE xF xG xH xI xJ xK xL uO : sx_C} {G : sx_H} (res : Int32 × sx_C × sx_C × sx_C) : ∀ (n0 : Nat) (v2 : Int32) (xA : sx_C) (xB : sx_C) (xC : sx_C), f_X12_text_95 N n0 v2 xA xB xC = some res → sx_At D b K YX12_text (sx_rm 10) (sx_Ex (some (.int res.1)) (sx_hp b uG uN uD uR uF uP uL uT uA uM uH (res.2.1) (res.2.2.1) (res.2.2.2) xD xE xF xG xH xI xJ xK xL uO G)) 95 [(0, .ref (b + 38)), (2, .int v2)] [] (sx_hp b uG uN uD uR uF uP uL uT uA uM uH xA xB xC xD xE xF xG xH xI xJ xK xL uO G) 0 0 := by
  intro n0
  induction n0 with
  | zero => intro _ _ _ _ h; cases h
  | succ n0 ih =>
    intro v2 xA xB xC h
    rw [f_X12_text_95] at h
    refine at_iload_n 1 dX12_text_95 rfl ?_
    refine at_aload_n 0 dX12_text_96 rfl ?_
    refine at_getf cl_X12 (by decide) fl_X12_198 hg_38 rfl dX12_text_97 ?_
    refine at_icmp_ge 133 dX12_text_100 (by decide) (fun c3 => ?_) (fun c3 => ?_)
    · rw [if_pos c3] at h
      refine at_aload_n 0 dX12_text_133 rfl ?_
      refine at_aload_n 0 dX12_text_134 rfl ?_
      refine at_getf cl_X12 (by decide) fl_X12_155 hg_38 rfl dX12_text_135 ?_
      refine at_putf cl_X12 (by decide) fl_X12_201 rfl hg_38 rfl rfl (Nat.le_of_ble_eq_true rfl) hs_38_7 dX12_text_138 ?_
      refine at_aload_n 0 dX12_text_141 rfl ?_
      refine at_aload_n 0 dX12_text_142 rfl ?_
      refine at_getf cl_X12 (by decide) fl_X12_158 hg_38 rfl dX12_text_143 ?_
      refine at_putf cl_X12 (by decide) fl_X12_204 rfl hg_38 rfl rfl (Nat.le_of_ble_eq_true rfl) hs_38_8 dX12_text_146 ?_
      refine at_aload_n 0 dX12_text_149 rfl ?_
      refine at_aload_n 0 dX12_text_150 rfl ?_
      refine at_getf cl_X12 (by decide) fl_X12_149 hg_38 rfl dX12_text_151 ?_
      refine at_putf cl_X12 (by decide) fl_X12_207 rfl hg_38 rfl rfl (Nat.le_of_ble_eq_true rfl) hs_38_9 dX12_text_154 ?_
      refine at_aload_n 0 dX12_text_157 rfl ?_
      refine at_aload_n 0 dX12_text_158 rfl ?_
      refine at_getf cl_X12 (by decide) fl_X12_138 hg_38 rfl dX12_text_159 ?_
      refine at_putf cl_X12 (by decide) fl_X12_67 rfl hg_38 rfl rfl (Nat.le_of_ble_eq_true rfl) hs_38_10 dX12_text_162 ?_
      refine at_aload_n 0 dX12_text_165 rfl ?_
      refine at_aload_n 0 dX12_text_166 rfl ?_
      refine at_getf cl_X12 (by decide) fl_X12_167 hg_38 rfl dX12_text_167 ?_
      refine at_putf cl_X12 (by decide) fl_X12_70 rfl hg_38 rfl rfl (Nat.le_of_ble_eq_true rfl) hs_38_11 dX12_text_170 ?_
      refine at_aload_n 0 dX12_text_173 rfl ?_
      refine at_aload_n 0 dX12_text_174 rfl ?_
      refine at_getf cl_X12 (by decide) fl_X12_186 hg_38 rfl dX12_text_175 ?_
      refine at_putf cl_X12 (by decide) fl_X12_210 rfl hg_38 rfl rfl (Nat.le_of_ble_eq_true rfl) hs_38_12 dX12_text_178 ?_
      refine at_aload_n 0 dX12_text_181 rfl ?_
      refine at_iconst 0 dX12_text_182 ic_0 ?_
      refine at_putf cl_X12 (by decide) fl_X12_213 rfl hg_38 rfl rfl (Nat.le_of_ble_eq_true rfl) hs_38_14 dX12_text_183 ?_
      refine at_aload_n 0 dX12_text_186 rfl ?_
      refine at_getf cl_X12 (by decide) fl_X12_210 hg_38 rfl dX12_text_187 ?_
      cases h; exact at_iret rfl (Nat.le_refl _) (Nat.le_refl _) ⟨rfl, rfl⟩ dX12_text_190
    · rw [if_neg c3] at h
      refine at_aload_n 0 dX12_text_103 rfl ?_
      refine at_getf cl_X12 (by decide) fl_X12_13 hg_38 rfl dX12_text_104 ?_
      refine at_iload_n 1 dX12_text_107 rfl ?_
      refine at_aload_n 0 dX12_text_108 rfl ?_
      refine at_getf cl_X12 (by decide) fl_X12_22 hg_38 rfl dX12_text_109 ?_
      refine at_iload_n 1 dX12_text_112 rfl ?_
      obtain ⟨w4, hw4, h⟩ := sp_bind h
      refine at_iald hg_43 hw4 dX12_text_113 ?_
      obtain ⟨hi5, h⟩ := sp_chk h
      refine at_iast hg_40 hi5 hs_40 dX12_text_114 ?_
      refine at_aload_n 0 dX12_text_115 rfl ?_
      refine at_getf cl_X12 (by decide) fl_X12_16 hg_38 rfl dX12_text_116 ?_
      refine at_iload_n 1 dX12_text_119 rfl ?_
      refine at_aload_n 0 dX12_text_120 rfl ?_
      refine at_getf cl_X12 (by decide) fl_X12_25 hg_38 rfl dX12_text_121 ?_
      refine at_iload_n 1 dX12_text_124 rfl ?_
      obtain ⟨w6, hw6, h⟩ := sp_bind h
      refine at_iald hg_44 hw6 dX12_text_125 ?_
      obtain ⟨hi7, h⟩ := sp_chk h
      refine at_iast hg_41 hi7 hs_41 dX12_text_126 ?_
      refine at_iinc 1 1 [(0, .ref (b + 38)), (2, .int (v2 + 1))] dX12_text_127 rfl ic_1 (Nat.le_of_ble_eq_true rfl) rfl ?_
      refine at_goto 95 dX12_text_130 (by decide) ?_
      exact ih _ _ _ _ h
set_option maxRecDepth 100000 in
theorem t_X12_text_82 {D : va_G} {b : Nat} {K : State → Heap → Prop} {sa : Nat → Nat} (hK : sx_Kk b K sa) (N : Nat) {uG uN uD uR uF uP uL uT uA uM uH xD xE xF xG xH xI xJ xK xL uO : sx_C} {G : sx_H} (res : Int32 × sx_C × sx_C × sx_C) : ∀ (s1 : Int32) (xA : sx_C) (xB : sx_C) (xC : sx_C), f_X12_text_82 N s1 xA xB xC = some res → sx_At D b K YX12_text (sx_rm 10) (sx_Ex (some (.int res.1)) (sx_hp b uG uN uD uR uF uP uL uT uA uM uH (res.2.1) (res.2.2.1) (res.2.2.2) xD xE xF xG xH xI xJ xK xL uO G)) 82 [(0, .ref (b + 38))] [.int s1, .ref (b + 38)] (sx_hp b uG uN uD uR uF uP uL uT uA uM uH xA xB xC xD xE xF xG xH xI xJ xK xL uO G) 0 0 := by
  intro s1 xA xB xC h
  rw [f_X12_text_82] at h
  refine at_putf cl_X12 (by decide) fl_X12_64 rfl hg_38 rfl rfl (Nat.le_of_ble_eq_true rfl) hs_38_3 dX12_text_82 ?_
  refine at_aload_n 0 dX12_text_85 rfl ?_
  refine at_aload_n 0 dX12_text_86 rfl ?_
  refine at_getf cl_X12 (by decide) fl_X12_152 hg_38 rfl dX12_text_87 ?_
  refine at_putf cl_X12 (by decide) fl_X12_198 rfl hg_38 rfl rfl (Nat.le_of_ble_eq_true rfl) hs_38_4 dX12_text_90 ?_
  refine at_iconst 0 dX12_text_93 ic_0 ?_
  refine at_istore_n [(0, .ref (b + 38)), (2, .int 0)] dX12_text_94 (Nat.le_of_ble_eq_true rfl) rfl ?_
  exact t_X12_text_95 hK N _ N _ _ _ _ h
set_option maxRecDepth 100000 in
theorem t_X12_text_54 {D : va_G} {b : Nat} {K : State → Heap → Prop} {sa : Nat → Nat} (hK : sx_Kk b K sa) (N : Nat) {uG uN uD uR uF uP uL uT uA uM uH xD xE xF xG xH xI xJ xK xL uO : sx_C} {G : sx_H} (res : Int32 × sx_C × sx_C × sx_C) : ∀ (s1 : Int32) (xA : sx_C) (xB : sx_C) (xC : sx_C), f_X12_text_54 N s1 xA xB xC = some res → sx_At D b K YX12_text (sx_rm 10) (sx_Ex (some (.int res.1)) (sx_hp b uG uN uD uR uF uP uL uT uA uM uH (res.2.1) (res.2.2.1) (res.2.2.2) xD xE xF xG xH xI xJ xK xL uO G)) 54 [(0, .ref (b + 38))] [.int s1, .ref (b + 38)] (sx_hp b uG uN uD uR uF uP uL uT uA uM uH xA xB xC xD xE xF xG xH xI xJ xK xL uO G) 0 0 := by
  intro s1 xA xB xC h
  rw [f_X12_text_54] at h
  refine at_putf cl_X12 (by decide) fl_X12_28 rfl hg_38 rfl rfl (Nat.le_of_ble_eq_true rfl) hs_38_35 dX12_text_54 ?_
  refine at_aload_n 0 dX12_text_57 rfl ?_
  refine at_getf cl_X12 (by decide) fl_X12_119 hg_38 rfl dX12_text_58 ?_
  refine at_if_eq 66 dX12_text_61 (by decide) (fun c1 => ?_) (fun c1 => ?_)
  · rw [if_pos c1] at h
    refine at_aload_n 0 dX12_text_66 rfl ?_
    refine at_aload_n 0 dX12_text_67 rfl ?_
    refine at_getf cl_X12 (by decide) fl_X12_132 hg_38 rfl dX12_text_68 ?_
    refine at_if_ne 78 dX12_text_71 (by decide) (fun c2 => ?_) (fun c2 => ?_)
    · rw [if_neg c2] at h
      refine at_aload_n 0 dX12_text_78 rfl ?_
      refine at_getf cl_X12 (by decide) fl_X12_132 hg_38 rfl dX12_text_79 ?_
      exact t_X12_text_82 hK N _ _ _ _ _ h
    · rw [if_pos c2] at h
      refine at_iconst 2 dX12_text_74 ic_2 ?_
      refine at_goto 82 dX12_text_75 (by decide) ?_
      exact t_X12_text_82 hK N _ _ _ _ _ h
  · rw [if_neg c1] at h
    refine at_iconst (-1) dX12_text_64 ic_m1 ?_
    cases h; exact at_iret rfl (Nat.le_refl _) (Nat.le_refl _) ⟨rfl, rfl⟩ dX12_text_65
set_option maxRecDepth 100000 in
theorem t_X12_text {D : va_G} {b : Nat} {K : State → Heap → Prop} {sa : Nat → Nat} (hK : sx_Kk b K sa) {N : Nat} {uG uN uD uR uF uP uL uT uA uM uH xD xE xF xG xH xI xJ xK xL uO : sx_C} {G : sx_H} {v1 : Int32} {xA : sx_C} {xB : sx_C} {xC : sx_C} {res : Int32 × sx_C × sx_C × sx_C} (h : f_X12_text N v1 xA xB xC = some res) : sx_Runs D b K yX12_text YX12_text (sx_rm 10) [.ref (b + 38), .int v1] (sx_hp b uG uN uD uR uF uP uL uT uA uM uH xA xB xC xD xE xF xG xH xI xJ xK xL uO G) (sx_Ex (some (.int res.1)) (sx_hp b uG uN uD uR uF uP uL uT uA uM uH (res.2.1) (res.2.2.1) (res.2.2.2) xD xE xF xG xH xI xJ xK xL uO G)) := by
  rw [f_X12_text] at h
  refine sx_run (by decide +kernel) rfl rfl (Nat.le_of_ble_eq_true rfl) ?_
  refine at_aload_n 0 dX12_text_0 rfl ?_
  refine at_iconst 0 dX12_text_1 ic_0 ?_
  refine at_putf cl_X12 (by decide) fl_X12_73 rfl hg_38 rfl rfl (Nat.le_of_ble_eq_true rfl) hs_38_0 dX12_text_2 ?_
  refine at_iload_n 1 dX12_text_5 rfl ?_
  refine at_if_lt 17 dX12_text_6 (by decide) (fun c8 => ?_) (fun c8 => ?_)
  · rw [if_pos c8] at h
    refine at_bipush (-2) dX12_text_17 bp_m2 ?_
    cases h; exact at_iret rfl (Nat.le_refl _) (Nat.le_refl _) ⟨rfl, rfl⟩ dX12_text_19
  · rw [if_neg c8] at h
    refine at_iload_n 1 dX12_text_9 rfl ?_
    refine at_aload_n 0 dX12_text_10 rfl ?_
    refine at_getf cl_X12 (by decide) fl_X12_76 hg_38 rfl dX12_text_11 ?_
    refine at_icmp_le 20 dX12_text_14 (by decide) (fun c9 => ?_) (fun c9 => ?_)
    · rw [if_pos c9] at h
      refine at_aload_n 0 dX12_text_20 rfl ?_
      refine at_iload_n 1 dX12_text_21 rfl ?_
      obtain ⟨q10, hq10, h⟩ := sp_bind h
      refine at_callVv (st := []) hK mt_X12_readText ml_X12_192 cl_X12 hg_38 (t_X12_readText hK hq10) rfl rfl (Nat.le_of_ble_eq_true rfl) ⟨Nat.le_of_ble_eq_true rfl, Nat.le_of_ble_eq_true rfl⟩ ⟨Nat.le_refl _, Nat.le_refl _⟩ dX12_text_22 ?_
      refine at_aload_n 0 dX12_text_25 rfl ?_
      refine at_iconst 0 dX12_text_26 ic_0 ?_
      refine at_putf cl_X12 (by decide) fl_X12_76 rfl hg_38 rfl rfl (Nat.le_of_ble_eq_true rfl) hs_38_2 dX12_text_27 ?_
      refine at_aload_n 0 dX12_text_30 rfl ?_
      refine at_aload_n 0 dX12_text_31 rfl ?_
      refine at_getf cl_X12 (by decide) fl_X12_119 hg_38 rfl dX12_text_32 ?_
      refine at_putf cl_X12 (by decide) fl_X12_195 rfl hg_38 rfl rfl (Nat.le_of_ble_eq_true rfl) hs_38_34 dX12_text_35 ?_
      refine at_aload_n 0 dX12_text_38 rfl ?_
      refine at_aload_n 0 dX12_text_39 rfl ?_
      refine at_getf cl_X12 (by decide) fl_X12_119 hg_38 rfl dX12_text_40 ?_
      refine at_if_ne 50 dX12_text_43 (by decide) (fun c11 => ?_) (fun c11 => ?_)
      · rw [if_neg c11] at h
        refine at_aload_n 0 dX12_text_50 rfl ?_
        refine at_getf cl_X12 (by decide) fl_X12_122 hg_38 rfl dX12_text_51 ?_
        refine at_sub [0] [(0, .ref (b + 38))] rfl ?_
        exact t_X12_text_54 hK N _ _ _ _ _ h
      · rw [if_pos c11] at h
        refine at_iconst (-1) dX12_text_46 ic_m1 ?_
        refine at_goto 54 dX12_text_47 (by decide) ?_
        refine at_sub [0] [(0, .ref (b + 38))] rfl ?_
        exact t_X12_text_54 hK N _ _ _ _ _ h
    · rw [if_neg c9] at h
      refine at_bipush (-2) dX12_text_17 bp_m2 ?_
      cases h; exact at_iret rfl (Nat.le_refl _) (Nat.le_refl _) ⟨rfl, rfl⟩ dX12_text_19
set_option maxRecDepth 100000 in
theorem t_X12_fault {D : va_G} {b : Nat} {K : State → Heap → Prop} {sa : Nat → Nat} (hK : sx_Kk b K sa) {uG uN uD uR uF uP uL uT uA uM uH xA xC xD xE xF xG xH xI xJ xK xL uO : sx_C} {G : sx_H} {v1 : Int32} {xB : sx_C} {res : Int32 × sx_C} (h : f_X12_fault xA v1 xB = some res) : sx_Runs D b K yX12_fault YX12_fault (sx_rm 0) [.ref (b + 38), .int v1] (sx_hp b uG uN uD uR uF uP uL uT uA uM uH xA xB xC xD xE xF xG xH xI xJ xK xL uO G) (sx_Ex (some (.int res.1)) (sx_hp b uG uN uD uR uF uP uL uT uA uM uH xA (res.2) xC xD xE xF xG xH xI xJ xK xL uO G)) := by
  rw [f_X12_fault] at h
  refine sx_run (by decide +kernel) rfl rfl (Nat.le_of_ble_eq_true rfl) ?_
  refine at_aload_n 0 dX12_fault_0 rfl ?_
  refine at_iconst 0 dX12_fault_1 ic_0 ?_
  refine at_putf cl_X12 (by decide) fl_X12_73 rfl hg_38 rfl rfl (Nat.le_of_ble_eq_true rfl) hs_38_0 dX12_fault_2 ?_
  refine at_iload_n 1 dX12_fault_5 rfl ?_
  refine at_if_ne 16 dX12_fault_6 (by decide) (fun c1 => ?_) (fun c1 => ?_)
  · rw [if_neg c1] at h
    refine at_iload_n 1 dX12_fault_16 rfl ?_
    refine at_iconst 1 dX12_fault_17 ic_1 ?_
    refine at_icmp_ne 28 dX12_fault_18 (by decide) (fun c2 => ?_) (fun c2 => ?_)
    · rw [if_neg c2] at h
      refine at_iconst (-1) dX12_fault_28 ic_m1 ?_
      cases h; exact at_iret rfl (Nat.le_refl _) (Nat.le_refl _) ⟨rfl, rfl⟩ dX12_fault_29
    · rw [if_pos c2] at h
      refine at_aload_n 0 dX12_fault_21 rfl ?_
      refine at_getf cl_X12 (by decide) fl_X12_28 hg_38 rfl dX12_fault_22 ?_
      refine at_goto 29 dX12_fault_25 (by decide) ?_
      cases h; exact at_iret rfl (Nat.le_refl _) (Nat.le_refl _) ⟨rfl, rfl⟩ dX12_fault_29
  · rw [if_pos c1] at h
    refine at_aload_n 0 dX12_fault_9 rfl ?_
    refine at_getf cl_X12 (by decide) fl_X12_195 hg_38 rfl dX12_fault_10 ?_
    refine at_goto 29 dX12_fault_13 (by decide) ?_
    cases h; exact at_iret rfl (Nat.le_refl _) (Nat.le_refl _) ⟨rfl, rfl⟩ dX12_fault_29
set_option maxRecDepth 100000 in
theorem t_X12_merges_110 {D : va_G} {b : Nat} {K : State → Heap → Prop} {sa : Nat → Nat} (hK : sx_Kk b K sa) (N : Nat) {k66 : Int32 → Int32 → Int32 → sx_C → Option (sx_C)} {uG uN uD uR uF uP uL uT uA uM uH xA xB xC xE xF xG xH xI xJ xK xL uO : sx_C} {G : sx_H} (res : sx_C) (hk66 : ∀ (v3 : Int32) (v4 : Int32) (v5 : Int32) (xD : sx_C), k66 v3 v4 v5 xD = some res → sx_At D b K YX12_merges (sx_rm 0) (sx_Ex none (sx_hp b uG uN uD uR uF uP uL uT uA uM uH xA xB xC res xE xF xG xH xI xJ xK xL uO G)) 66 [(0, .ref (b + 38)), (3, .int v3), (4, .int v4), (5, .int v5)] [] (sx_hp b uG uN uD uR uF uP uL uT uA uM uH xA xB xC xD xE xF xG xH xI xJ xK xL uO G) 0 0) : ∀ (v3 : Int32) (v4 : Int32) (v5 : Int32) (s1 : Int32) (s2 : Int32) (xD : sx_C), f_X12_merges_110 N k66 xA v3 v4 v5 s1 s2 xD = some res → sx_At D b K YX12_merges (sx_rm 0) (sx_Ex none (sx_hp b uG uN uD uR uF uP uL uT uA uM uH xA xB xC res xE xF xG xH xI xJ xK xL uO G)) 110 [(0, .ref (b + 38)), (3, .int v3), (4, .int v4), (5, .int v5)] [.int s2, .int s1, .ref (b + 45)] (sx_hp b uG uN uD uR uF uP uL uT uA uM uH xA xB xC xD xE xF xG xH xI xJ xK xL uO G) 0 0 := by
  intro v3 v4 v5 s1 s2 xD h
  rw [f_X12_merges_110] at h
  obtain ⟨hi11, h⟩ := sp_chk h
  refine at_iast hg_45 hi11 hs_45 dX12_merges_110 ?_
  refine at_iinc 3 1 [(0, .ref (b + 38)), (3, .int v3), (4, .int v4), (5, .int (v5 + 1))] dX12_merges_111 rfl ic_1 (Nat.le_of_ble_eq_true rfl) rfl ?_
  refine at_goto 66 dX12_merges_114 (by decide) ?_
  exact hk66 _ _ _ _ h
set_option maxRecDepth 100000 in
theorem t_X12_merges_66 {D : va_G} {b : Nat} {K : State → Heap → Prop} {sa : Nat → Nat} (hK : sx_Kk b K sa) (N : Nat) {uG uN uD uR uF uP uL uT uA uM uH xA xB xC xE xF xG xH xI xJ xK xL uO : sx_C} {G : sx_H} (res : sx_C) : ∀ (n0 : Nat) (v3 : Int32) (v4 : Int32) (v5 : Int32) (xD : sx_C), f_X12_merges_66 N xA n0 v3 v4 v5 xD = some res → sx_At D b K YX12_merges (sx_rm 0) (sx_Ex none (sx_hp b uG uN uD uR uF uP uL uT uA uM uH xA xB xC res xE xF xG xH xI xJ xK xL uO G)) 66 [(0, .ref (b + 38)), (3, .int v3), (4, .int v4), (5, .int v5)] [] (sx_hp b uG uN uD uR uF uP uL uT uA uM uH xA xB xC xD xE xF xG xH xI xJ xK xL uO G) 0 0 := by
  intro n0
  induction n0 with
  | zero => intro _ _ _ _ h; cases h
  | succ n0 ih =>
    intro v3 v4 v5 xD h
    rw [f_X12_merges_66] at h
    refine at_iload 3 dX12_merges_66 rfl ?_
    refine at_aload_n 0 dX12_merges_68 rfl ?_
    refine at_getf cl_X12 (by decide) fl_X12_64 hg_38 rfl dX12_merges_69 ?_
    refine at_icmp_ge 117 dX12_merges_72 (by decide) (fun c6 => ?_) (fun c6 => ?_)
    · rw [if_pos c6] at h
      cases h; exact at_vret rfl (Nat.le_refl _) (Nat.le_refl _) ⟨rfl, rfl⟩ dX12_merges_117
    · rw [if_neg c6] at h
      refine at_iload_n 1 dX12_merges_75 rfl ?_
      refine at_iload 2 dX12_merges_76 rfl ?_
      refine at_icmp_eq 117 dX12_merges_78 (by decide) (fun c7 => ?_) (fun c7 => ?_)
      · rw [if_pos c7] at h
        cases h; exact at_vret rfl (Nat.le_refl _) (Nat.le_refl _) ⟨rfl, rfl⟩ dX12_merges_117
      · rw [if_neg c7] at h
        refine at_aload_n 0 dX12_merges_81 rfl ?_
        refine at_getf cl_X12 (by decide) fl_X12_32 hg_38 rfl dX12_merges_82 ?_
        refine at_iload 3 dX12_merges_85 rfl ?_
        refine at_aload_n 0 dX12_merges_87 rfl ?_
        refine at_getf cl_X12 (by decide) fl_X12_32 hg_38 rfl dX12_merges_88 ?_
        refine at_iload 3 dX12_merges_91 rfl ?_
        obtain ⟨w8, hw8, h⟩ := sp_bind h
        refine at_iald hg_45 hw8 dX12_merges_93 ?_
        refine at_iload 2 dX12_merges_94 rfl ?_
        refine at_icmp_ne 103 dX12_merges_96 (by decide) (fun c9 => ?_) (fun c9 => ?_)
        · rw [if_neg c9] at h
          refine at_aload_n 0 dX12_merges_103 rfl ?_
          refine at_getf cl_X12 (by decide) fl_X12_32 hg_38 rfl dX12_merges_104 ?_
          refine at_iload 3 dX12_merges_107 rfl ?_
          obtain ⟨w10, hw10, h⟩ := sp_bind h
          refine at_iald hg_45 hw10 dX12_merges_109 ?_
          exact t_X12_merges_110 hK N _ ih _ _ _ _ _ _ h
        · rw [if_pos c9] at h
          refine at_iload_n 1 dX12_merges_99 rfl ?_
          refine at_goto 110 dX12_merges_100 (by decide) ?_
          exact t_X12_merges_110 hK N _ ih _ _ _ _ _ _ h
set_option maxRecDepth 100000 in
theorem t_X12_merges_61 {D : va_G} {b : Nat} {K : State → Heap → Prop} {sa : Nat → Nat} (hK : sx_Kk b K sa) (N : Nat) {uG uN uD uR uF uP uL uT uA uM uH xA xB xC xE xF xG xH xI xJ xK xL uO : sx_C} {G : sx_H} (res : sx_C) : ∀ (v3 : Int32) (s0 : Int32) (xD : sx_C), f_X12_merges_61 N xA v3 s0 xD = some res → sx_At D b K YX12_merges (sx_rm 0) (sx_Ex none (sx_hp b uG uN uD uR uF uP uL uT uA uM uH xA xB xC res xE xF xG xH xI xJ xK xL uO G)) 61 [(0, .ref (b + 38)), (3, .int v3)] [.int s0] (sx_hp b uG uN uD uR uF uP uL uT uA uM uH xA xB xC xD xE xF xG xH xI xJ xK xL uO G) 0 0 := by
  intro v3 s0 xD h
  rw [f_X12_merges_61] at h
  refine at_istore [(0, .ref (b + 38)), (3, .int v3), (4, .int s0)] dX12_merges_61 (Nat.le_of_ble_eq_true rfl) rfl ?_
  refine at_iconst 0 dX12_merges_63 ic_0 ?_
  refine at_istore [(0, .ref (b + 38)), (3, .int v3), (4, .int s0), (5, .int 0)] dX12_merges_64 (Nat.le_of_ble_eq_true rfl) rfl ?_
  exact t_X12_merges_66 hK N _ N _ _ _ _ h
set_option maxRecDepth 100000 in
theorem t_X12_merges_30 {D : va_G} {b : Nat} {K : State → Heap → Prop} {sa : Nat → Nat} (hK : sx_Kk b K sa) (N : Nat) {uG uN uD uR uF uP uL uT uA uM uH xA xB xC xE xF xG xH xI xJ xK xL uO : sx_C} {G : sx_H} (res : sx_C) : ∀ (v1 : Int32) (v2 : Int32) (s0 : Int32) (xD : sx_C), f_X12_merges_30 N xA v1 v2 s0 xD = some res → sx_At D b K YX12_merges (sx_rm 0) (sx_Ex none (sx_hp b uG uN uD uR uF uP uL uT uA uM uH xA xB xC res xE xF xG xH xI xJ xK xL uO G)) 30 [(0, .ref (b + 38)), (1, .int v1), (2, .int v2)] [.int s0] (sx_hp b uG uN uD uR uF uP uL uT uA uM uH xA xB xC xD xE xF xG xH xI xJ xK xL uO G) 0 0 := by
  intro v1 v2 s0 xD h
  rw [f_X12_merges_30] at h
  refine at_istore_n [(0, .ref (b + 38)), (1, .int v1), (2, .int v2), (3, .int s0)] dX12_merges_30 (Nat.le_of_ble_eq_true rfl) rfl ?_
  refine at_aload_n 0 dX12_merges_31 rfl ?_
  refine at_getf cl_X12 (by decide) fl_X12_32 hg_38 rfl dX12_merges_32 ?_
  refine at_iload_n 1 dX12_merges_35 rfl ?_
  obtain ⟨w1, hw1, h⟩ := sp_bind h
  refine at_iald hg_45 hw1 dX12_merges_36 ?_
  refine at_aload_n 0 dX12_merges_37 rfl ?_
  refine at_getf cl_X12 (by decide) fl_X12_32 hg_38 rfl dX12_merges_38 ?_
  refine at_iload_n 2 dX12_merges_41 rfl ?_
  obtain ⟨w2, hw2, h⟩ := sp_bind h
  refine at_iald hg_45 hw2 dX12_merges_42 ?_
  refine at_icmp_ge 55 dX12_merges_43 (by decide) (fun c3 => ?_) (fun c3 => ?_)
  · rw [if_pos c3] at h
    refine at_aload_n 0 dX12_merges_55 rfl ?_
    refine at_getf cl_X12 (by decide) fl_X12_32 hg_38 rfl dX12_merges_56 ?_
    refine at_iload_n 1 dX12_merges_59 rfl ?_
    obtain ⟨w4, hw4, h⟩ := sp_bind h
    refine at_iald hg_45 hw4 dX12_merges_60 ?_
    refine at_sub [0, 3] [(0, .ref (b + 38)), (3, .int s0)] rfl ?_
    exact t_X12_merges_61 hK N _ _ _ _ h
  · rw [if_neg c3] at h
    refine at_aload_n 0 dX12_merges_46 rfl ?_
    refine at_getf cl_X12 (by decide) fl_X12_32 hg_38 rfl dX12_merges_47 ?_
    refine at_iload_n 2 dX12_merges_50 rfl ?_
    obtain ⟨w5, hw5, h⟩ := sp_bind h
    refine at_iald hg_45 hw5 dX12_merges_51 ?_
    refine at_goto 61 dX12_merges_52 (by decide) ?_
    refine at_sub [0, 3] [(0, .ref (b + 38)), (3, .int s0)] rfl ?_
    exact t_X12_merges_61 hK N _ _ _ _ h
set_option maxRecDepth 100000 in
theorem t_X12_merges {D : va_G} {b : Nat} {K : State → Heap → Prop} {sa : Nat → Nat} (hK : sx_Kk b K sa) {N : Nat} {uG uN uD uR uF uP uL uT uA uM uH xA xB xC xE xF xG xH xI xJ xK xL uO : sx_C} {G : sx_H} {v1 : Int32} {v2 : Int32} {xD : sx_C} {res : sx_C} (h : f_X12_merges N xA v1 v2 xD = some res) : sx_Runs D b K yX12_merges YX12_merges (sx_rm 0) [.ref (b + 38), .int v1, .int v2] (sx_hp b uG uN uD uR uF uP uL uT uA uM uH xA xB xC xD xE xF xG xH xI xJ xK xL uO G) (sx_Ex none (sx_hp b uG uN uD uR uF uP uL uT uA uM uH xA xB xC res xE xF xG xH xI xJ xK xL uO G)) := by
  rw [f_X12_merges] at h
  refine sx_run (by decide +kernel) rfl rfl (Nat.le_of_ble_eq_true rfl) ?_
  refine at_aload_n 0 dX12_merges_0 rfl ?_
  refine at_getf cl_X12 (by decide) fl_X12_32 hg_38 rfl dX12_merges_1 ?_
  refine at_iload_n 1 dX12_merges_4 rfl ?_
  obtain ⟨w12, hw12, h⟩ := sp_bind h
  refine at_iald hg_45 hw12 dX12_merges_5 ?_
  refine at_aload_n 0 dX12_merges_6 rfl ?_
  refine at_getf cl_X12 (by decide) fl_X12_32 hg_38 rfl dX12_merges_7 ?_
  refine at_iload_n 2 dX12_merges_10 rfl ?_
  obtain ⟨w13, hw13, h⟩ := sp_bind h
  refine at_iald hg_45 hw13 dX12_merges_11 ?_
  refine at_icmp_ge 24 dX12_merges_12 (by decide) (fun c14 => ?_) (fun c14 => ?_)
  · rw [if_pos c14] at h
    refine at_aload_n 0 dX12_merges_24 rfl ?_
    refine at_getf cl_X12 (by decide) fl_X12_32 hg_38 rfl dX12_merges_25 ?_
    refine at_iload_n 2 dX12_merges_28 rfl ?_
    obtain ⟨w15, hw15, h⟩ := sp_bind h
    refine at_iald hg_45 hw15 dX12_merges_29 ?_
    exact t_X12_merges_30 hK N _ _ _ _ _ h
  · rw [if_neg c14] at h
    refine at_aload_n 0 dX12_merges_15 rfl ?_
    refine at_getf cl_X12 (by decide) fl_X12_32 hg_38 rfl dX12_merges_16 ?_
    refine at_iload_n 1 dX12_merges_19 rfl ?_
    obtain ⟨w16, hw16, h⟩ := sp_bind h
    refine at_iald hg_45 hw16 dX12_merges_20 ?_
    refine at_goto 30 dX12_merges_21 (by decide) ?_
    exact t_X12_merges_30 hK N _ _ _ _ _ h
set_option maxRecDepth 100000 in
theorem t_X12_laysParts_58 {D : va_G} {b : Nat} {K : State → Heap → Prop} {sa : Nat → Nat} (hK : sx_Kk b K sa) (N : Nat) {k25 : Int32 → Int32 → sx_C → Option (sx_C)} {uG uN uD uR uF uP uL uT uA uM uH xA xB xC xE xF xG xH xI xJ xK xL uO : sx_C} {G : sx_H} (res : sx_C) (hk25 : ∀ (v1 : Int32) (v2 : Int32) (xD : sx_C), k25 v1 v2 xD = some res → sx_At D b K YX12_laysParts (sx_rm 1) (sx_Ex none (sx_hp b uG uN uD uR uF uP uL uT uA uM uH xA xB xC res xE xF xG xH xI xJ xK xL uO G)) 25 [(0, .ref (b + 38)), (1, .int v1), (2, .int v2)] [] (sx_hp b uG uN uD uR uF uP uL uT uA uM uH xA xB xC xD xE xF xG xH xI xJ xK xL uO G) 0 0) : ∀ (v1 : Int32) (v2 : Int32) (xD : sx_C), f_X12_laysParts_58 N k25 xA v1 v2 xD = some res → sx_At D b K YX12_laysParts (sx_rm 1) (sx_Ex none (sx_hp b uG uN uD uR uF uP uL uT uA uM uH xA xB xC res xE xF xG xH xI xJ xK xL uO G)) 58 [(0, .ref (b + 38)), (1, .int v1), (2, .int v2)] [] (sx_hp b uG uN uD uR uF uP uL uT uA uM uH xA xB xC xD xE xF xG xH xI xJ xK xL uO G) 0 0 := by
  intro v1 v2 xD h
  rw [f_X12_laysParts_58] at h
  refine at_iinc 2 1 [(0, .ref (b + 38)), (1, .int v1), (2, .int (v2 + 1))] dX12_laysParts_58 rfl ic_1 (Nat.le_of_ble_eq_true rfl) rfl ?_
  refine at_goto 25 dX12_laysParts_61 (by decide) ?_
  exact hk25 _ _ _ h
set_option maxRecDepth 100000 in
theorem t_X12_laysParts_25 {D : va_G} {b : Nat} {K : State → Heap → Prop} {sa : Nat → Nat} (hK : sx_Kk b K sa) (N : Nat) {uG uN uD uR uF uP uL uT uA uM uH xA xB xC xE xF xG xH xI xJ xK xL uO : sx_C} {G : sx_H} (res : sx_C) : ∀ (n0 : Nat) (v1 : Int32) (v2 : Int32) (xD : sx_C), f_X12_laysParts_25 N xA n0 v1 v2 xD = some res → sx_At D b K YX12_laysParts (sx_rm 1) (sx_Ex none (sx_hp b uG uN uD uR uF uP uL uT uA uM uH xA xB xC res xE xF xG xH xI xJ xK xL uO G)) 25 [(0, .ref (b + 38)), (1, .int v1), (2, .int v2)] [] (sx_hp b uG uN uD uR uF uP uL uT uA uM uH xA xB xC xD xE xF xG xH xI xJ xK xL uO G) 0 0 := by
  intro n0
  induction n0 with
  | zero => intro _ _ _ h; cases h
  | succ n0 ih =>
    intro v1 v2 xD h
    rw [f_X12_laysParts_25] at h
    refine at_iload_n 2 dX12_laysParts_25 rfl ?_
    refine at_aload_n 0 dX12_laysParts_26 rfl ?_
    refine at_getf cl_X12 (by decide) fl_X12_198 hg_38 rfl dX12_laysParts_27 ?_
    refine at_icmp_ge 64 dX12_laysParts_30 (by decide) (fun c3 => ?_) (fun c3 => ?_)
    · rw [if_pos c3] at h
      cases h; exact at_vret rfl (Nat.le_refl _) (Nat.le_refl _) ⟨rfl, rfl⟩ dX12_laysParts_64
    · rw [if_neg c3] at h
      refine at_iload_n 1 dX12_laysParts_33 rfl ?_
      refine at_iload_n 2 dX12_laysParts_34 rfl ?_
      refine at_ishr dX12_laysParts_35 ?_
      refine at_iconst 1 dX12_laysParts_36 ic_1 ?_
      refine at_iand dX12_laysParts_37 ?_
      refine at_iconst 1 dX12_laysParts_38 ic_1 ?_
      refine at_icmp_ne 58 dX12_laysParts_39 (by decide) (fun c4 => ?_) (fun c4 => ?_)
      · rw [if_neg c4] at h
        exact t_X12_laysParts_58 hK N _ ih _ _ _ h
      · rw [if_pos c4] at h
        refine at_aload_n 0 dX12_laysParts_42 rfl ?_
        refine at_aload_n 0 dX12_laysParts_43 rfl ?_
        refine at_getf cl_X12 (by decide) fl_X12_13 hg_38 rfl dX12_laysParts_44 ?_
        refine at_iload_n 2 dX12_laysParts_47 rfl ?_
        obtain ⟨w5, hw5, h⟩ := sp_bind h
        refine at_iald hg_40 hw5 dX12_laysParts_48 ?_
        refine at_aload_n 0 dX12_laysParts_49 rfl ?_
        refine at_getf cl_X12 (by decide) fl_X12_16 hg_38 rfl dX12_laysParts_50 ?_
        refine at_iload_n 2 dX12_laysParts_53 rfl ?_
        obtain ⟨w6, hw6, h⟩ := sp_bind h
        refine at_iald hg_41 hw6 dX12_laysParts_54 ?_
        obtain ⟨q7, hq7, h⟩ := sp_bind h
        refine at_callVv (st := []) hK mt_X12_merges ml_X12_216 cl_X12 hg_38 (t_X12_merges hK hq7) rfl rfl (Nat.le_of_ble_eq_true rfl) ⟨Nat.le_of_ble_eq_true rfl, Nat.le_of_ble_eq_true rfl⟩ ⟨Nat.le_refl _, Nat.le_refl _⟩ dX12_laysParts_55 ?_
        exact t_X12_laysParts_58 hK N _ ih _ _ _ h
set_option maxRecDepth 100000 in
theorem t_X12_laysParts_2 {D : va_G} {b : Nat} {K : State → Heap → Prop} {sa : Nat → Nat} (hK : sx_Kk b K sa) (N : Nat) {uG uN uD uR uF uP uL uT uA uM uH xA xB xC xE xF xG xH xI xJ xK xL uO : sx_C} {G : sx_H} (res : sx_C) : ∀ (n0 : Nat) (v1 : Int32) (v2 : Int32) (xD : sx_C), f_X12_laysParts_2 N xA n0 v1 v2 xD = some res → sx_At D b K YX12_laysParts (sx_rm 1) (sx_Ex none (sx_hp b uG uN uD uR uF uP uL uT uA uM uH xA xB xC res xE xF xG xH xI xJ xK xL uO G)) 2 [(0, .ref (b + 38)), (1, .int v1), (2, .int v2)] [] (sx_hp b uG uN uD uR uF uP uL uT uA uM uH xA xB xC xD xE xF xG xH xI xJ xK xL uO G) 0 0 := by
  intro n0
  induction n0 with
  | zero => intro _ _ _ h; cases h
  | succ n0 ih =>
    intro v1 v2 xD h
    rw [f_X12_laysParts_2] at h
    refine at_iload_n 2 dX12_laysParts_2 rfl ?_
    refine at_aload_n 0 dX12_laysParts_3 rfl ?_
    refine at_getf cl_X12 (by decide) fl_X12_64 hg_38 rfl dX12_laysParts_4 ?_
    refine at_icmp_ge 23 dX12_laysParts_7 (by decide) (fun c1 => ?_) (fun c1 => ?_)
    · rw [if_pos c1] at h
      refine at_iconst 0 dX12_laysParts_23 ic_0 ?_
      refine at_istore_n [(0, .ref (b + 38)), (1, .int v1), (2, .int 0)] dX12_laysParts_24 (Nat.le_of_ble_eq_true rfl) rfl ?_
      exact t_X12_laysParts_25 hK N _ N _ _ _ h
    · rw [if_neg c1] at h
      refine at_aload_n 0 dX12_laysParts_10 rfl ?_
      refine at_getf cl_X12 (by decide) fl_X12_32 hg_38 rfl dX12_laysParts_11 ?_
      refine at_iload_n 2 dX12_laysParts_14 rfl ?_
      refine at_iload_n 2 dX12_laysParts_15 rfl ?_
      obtain ⟨hi2, h⟩ := sp_chk h
      refine at_iast hg_45 hi2 hs_45 dX12_laysParts_16 ?_
      refine at_iinc 2 1 [(0, .ref (b + 38)), (1, .int v1), (2, .int (v2 + 1))] dX12_laysParts_17 rfl ic_1 (Nat.le_of_ble_eq_true rfl) rfl ?_
      refine at_goto 2 dX12_laysParts_20 (by decide) ?_
      exact ih _ _ _ h
set_option maxRecDepth 100000 in
theorem t_X12_laysParts {D : va_G} {b : Nat} {K : State → Heap → Prop} {sa : Nat → Nat} (hK : sx_Kk b K sa) {N : Nat} {uG uN uD uR uF uP uL uT uA uM uH xA xB xC xE xF xG xH xI xJ xK xL uO : sx_C} {G : sx_H} {v1 : Int32} {xD : sx_C} {res : sx_C} (h : f_X12_laysParts N xA v1 xD = some res) : sx_Runs D b K yX12_laysParts YX12_laysParts (sx_rm 1) [.ref (b + 38), .int v1] (sx_hp b uG uN uD uR uF uP uL uT uA uM uH xA xB xC xD xE xF xG xH xI xJ xK xL uO G) (sx_Ex none (sx_hp b uG uN uD uR uF uP uL uT uA uM uH xA xB xC res xE xF xG xH xI xJ xK xL uO G)) := by
  rw [f_X12_laysParts] at h
  refine sx_run (by decide +kernel) rfl rfl (Nat.le_of_ble_eq_true rfl) ?_
  refine at_iconst 0 dX12_laysParts_0 ic_0 ?_
  refine at_istore_n [(0, .ref (b + 38)), (1, .int v1), (2, .int 0)] dX12_laysParts_1 (Nat.le_of_ble_eq_true rfl) rfl ?_
  exact t_X12_laysParts_2 hK N _ N _ _ _ h
set_option maxRecDepth 100000 in
theorem t_X12_hangs {D : va_G} {b : Nat} {K : State → Heap → Prop} {sa : Nat → Nat} (hK : sx_Kk b K sa) {N : Nat} {uG uN uD uR uF uP uL uT uA uM uH xA xB xC xE xF xG xH xI xJ xK xL uO : sx_C} {G : sx_H} {v1 : Int32} {xD : sx_C} {res : Bool × sx_C} (h : f_X12_hangs N xA v1 xD = some res) : sx_Runs D b K yX12_hangs YX12_hangs (sx_rm 2) [.ref (b + 38), .int v1] (sx_hp b uG uN uD uR uF uP uL uT uA uM uH xA xB xC xD xE xF xG xH xI xJ xK xL uO G) (sx_Ex (some (.int (sp_b res.1))) (sx_hp b uG uN uD uR uF uP uL uT uA uM uH xA xB xC (res.2) xE xF xG xH xI xJ xK xL uO G)) := by
  rw [f_X12_hangs] at h
  refine sx_run (by decide +kernel) rfl rfl (Nat.le_of_ble_eq_true rfl) ?_
  refine at_aload_n 0 dX12_hangs_0 rfl ?_
  refine at_iload_n 1 dX12_hangs_1 rfl ?_
  obtain ⟨q1, hq1, h⟩ := sp_bind h
  refine at_callVv (st := []) hK mt_X12_laysParts ml_X12_220 cl_X12 hg_38 (t_X12_laysParts hK hq1) rfl rfl (Nat.le_of_ble_eq_true rfl) ⟨Nat.le_of_ble_eq_true rfl, Nat.le_of_ble_eq_true rfl⟩ ⟨Nat.le_refl _, Nat.le_refl _⟩ dX12_hangs_2 ?_
  refine at_aload_n 0 dX12_hangs_5 rfl ?_
  refine at_getf cl_X12 (by decide) fl_X12_32 hg_38 rfl dX12_hangs_6 ?_
  refine at_aload_n 0 dX12_hangs_9 rfl ?_
  refine at_getf cl_X12 (by decide) fl_X12_207 hg_38 rfl dX12_hangs_10 ?_
  obtain ⟨w2, hw2, h⟩ := sp_bind h
  refine at_iald hg_45 hw2 dX12_hangs_13 ?_
  refine at_aload_n 0 dX12_hangs_14 rfl ?_
  refine at_getf cl_X12 (by decide) fl_X12_32 hg_38 rfl dX12_hangs_15 ?_
  refine at_aload_n 0 dX12_hangs_18 rfl ?_
  refine at_getf cl_X12 (by decide) fl_X12_67 hg_38 rfl dX12_hangs_19 ?_
  obtain ⟨w3, hw3, h⟩ := sp_bind h
  refine at_iald hg_45 hw3 dX12_hangs_22 ?_
  refine at_icmp_ne 30 dX12_hangs_23 (by decide) (fun c4 => ?_) (fun c4 => ?_)
  · rw [if_neg c4] at h
    refine at_iconst 0 dX12_hangs_30 ic_0 ?_
    cases h; exact at_zret rfl rfl (Nat.le_refl _) (Nat.le_refl _) ⟨rfl, rfl⟩ dX12_hangs_31
  · rw [if_pos c4] at h
    refine at_iconst 1 dX12_hangs_26 ic_1 ?_
    refine at_goto 31 dX12_hangs_27 (by decide) ?_
    cases h; exact at_zret rfl rfl (Nat.le_refl _) (Nat.le_refl _) ⟨rfl, rfl⟩ dX12_hangs_31
set_option maxRecDepth 100000 in
theorem t_X12_all {D : va_G} {b : Nat} {K : State → Heap → Prop} {sa : Nat → Nat} (hK : sx_Kk b K sa) {uG uN uD uR uF uP uL uT uA uM uH xA xB xC xD xE xF xG xH xI xJ xK xL uO : sx_C} {G : sx_H} {res : Int32} (h : f_X12_all xA  = some res) : sx_Runs D b K yX12_all YX12_all (sx_rm 0) [.ref (b + 38)] (sx_hp b uG uN uD uR uF uP uL uT uA uM uH xA xB xC xD xE xF xG xH xI xJ xK xL uO G) (sx_Ex (some (.int res)) (sx_hp b uG uN uD uR uF uP uL uT uA uM uH xA xB xC xD xE xF xG xH xI xJ xK xL uO G)) := by
  rw [f_X12_all] at h
  refine sx_run (by decide +kernel) rfl rfl (Nat.le_of_ble_eq_true rfl) ?_
  refine at_iconst 1 dX12_all_0 ic_1 ?_
  refine at_aload_n 0 dX12_all_1 rfl ?_
  refine at_getf cl_X12 (by decide) fl_X12_198 hg_38 rfl dX12_all_2 ?_
  refine at_ishl dX12_all_5 ?_
  refine at_iconst 1 dX12_all_6 ic_1 ?_
  refine at_isub dX12_all_7 ?_
  cases h; exact at_iret rfl (Nat.le_refl _) (Nat.le_refl _) ⟨rfl, rfl⟩ dX12_all_8
set_option maxRecDepth 100000 in
theorem t_X12_open {D : va_G} {b : Nat} {K : State → Heap → Prop} {sa : Nat → Nat} (hK : sx_Kk b K sa) {uG uN uD uR uF uP uL uT uA uM uH xA xB xC xD xE xF xG xH xI xJ xK xL uO : sx_C} {G : sx_H} {v1 : Int32} {v2 : Int32} {res : Int32} (h : f_X12_open xA v1 v2 = some res) : sx_Runs D b K yX12_open YX12_open (sx_rm 1) [.ref (b + 38), .int v1, .int v2] (sx_hp b uG uN uD uR uF uP uL uT uA uM uH xA xB xC xD xE xF xG xH xI xJ xK xL uO G) (sx_Ex (some (.int res)) (sx_hp b uG uN uD uR uF uP uL uT uA uM uH xA xB xC xD xE xF xG xH xI xJ xK xL uO G)) := by
  rw [f_X12_open] at h
  refine sx_run (by decide +kernel) rfl rfl (Nat.le_of_ble_eq_true rfl) ?_
  refine at_aload_n 0 dX12_open_0 rfl ?_
  obtain ⟨q1, hq1, h⟩ := sp_bind h
  refine at_callVi (st := []) hK mt_X12_all ml_X12_223 cl_X12 hg_38 (t_X12_all hK hq1) rfl rfl (Nat.le_of_ble_eq_true rfl) ⟨Nat.le_of_ble_eq_true rfl, Nat.le_of_ble_eq_true rfl⟩ ⟨Nat.le_refl _, Nat.le_refl _⟩ dX12_open_1 ?_
  refine at_iload_n 1 dX12_open_4 rfl ?_
  refine at_iconst (-1) dX12_open_5 ic_m1 ?_
  refine at_ixor dX12_open_6 ?_
  refine at_iand dX12_open_7 ?_
  refine at_iload_n 2 dX12_open_8 rfl ?_
  refine at_iconst (-1) dX12_open_9 ic_m1 ?_
  refine at_ixor dX12_open_10 ?_
  refine at_iand dX12_open_11 ?_
  cases h; exact at_iret rfl (Nat.le_refl _) (Nat.le_refl _) ⟨rfl, rfl⟩ dX12_open_12
set_option maxRecDepth 100000 in
theorem t_X12_openNow {D : va_G} {b : Nat} {K : State → Heap → Prop} {sa : Nat → Nat} (hK : sx_Kk b K sa) {uG uN uD uR uF uP uL uT uA uM uH xA xB xC xD xE xF xG xH xI xJ xK xL uO : sx_C} {G : sx_H} {res : Int32} (h : f_X12_openNow xA  = some res) : sx_Runs D b K yX12_openNow YX12_openNow (sx_rm 2) [.ref (b + 38)] (sx_hp b uG uN uD uR uF uP uL uT uA uM uH xA xB xC xD xE xF xG xH xI xJ xK xL uO G) (sx_Ex (some (.int res)) (sx_hp b uG uN uD uR uF uP uL uT uA uM uH xA xB xC xD xE xF xG xH xI xJ xK xL uO G)) := by
  rw [f_X12_openNow] at h
  refine sx_run (by decide +kernel) rfl rfl (Nat.le_of_ble_eq_true rfl) ?_
  refine at_aload_n 0 dX12_openNow_0 rfl ?_
  refine at_aload_n 0 dX12_openNow_1 rfl ?_
  refine at_getf cl_X12 (by decide) fl_X12_201 hg_38 rfl dX12_openNow_2 ?_
  refine at_aload_n 0 dX12_openNow_5 rfl ?_
  refine at_getf cl_X12 (by decide) fl_X12_204 hg_38 rfl dX12_openNow_6 ?_
  obtain ⟨q1, hq1, h⟩ := sp_bind h
  refine at_callVi (st := []) hK mt_X12_open ml_X12_226 cl_X12 hg_38 (t_X12_open hK hq1) rfl rfl (Nat.le_of_ble_eq_true rfl) ⟨Nat.le_of_ble_eq_true rfl, Nat.le_of_ble_eq_true rfl⟩ ⟨Nat.le_refl _, Nat.le_refl _⟩ dX12_openNow_9 ?_
  cases h; exact at_iret rfl (Nat.le_refl _) (Nat.le_refl _) ⟨rfl, rfl⟩ dX12_openNow_12
set_option maxRecDepth 100000 in
theorem t_X12_has {D : va_G} {b : Nat} {K : State → Heap → Prop} {sa : Nat → Nat} (hK : sx_Kk b K sa) {N : Nat} {uG uN uD uR uF uP uL uT uA uM uH xA xB xC xE xF xG xH xI xJ xK xL uO : sx_C} {G : sx_H} {v1 : Int32} {v2 : Int32} {xD : sx_C} {res : Int32 × sx_C} (h : f_X12_has N xA v1 v2 xD = some res) : sx_Runs D b K yX12_has YX12_has (sx_rm 3) [.ref (b + 38), .int v1, .int v2] (sx_hp b uG uN uD uR uF uP uL uT uA uM uH xA xB xC xD xE xF xG xH xI xJ xK xL uO G) (sx_Ex (some (.int res.1)) (sx_hp b uG uN uD uR uF uP uL uT uA uM uH xA xB xC (res.2) xE xF xG xH xI xJ xK xL uO G)) := by
  rw [f_X12_has] at h
  refine sx_run (by decide +kernel) rfl rfl (Nat.le_of_ble_eq_true rfl) ?_
  refine at_aload_n 0 dX12_has_0 rfl ?_
  refine at_iload_n 1 dX12_has_1 rfl ?_
  obtain ⟨q1, hq1, h⟩ := sp_bind h
  refine at_callVi (st := []) hK mt_X12_hangs ml_X12_230 cl_X12 hg_38 (t_X12_hangs hK hq1) rfl rfl (Nat.le_of_ble_eq_true rfl) ⟨Nat.le_of_ble_eq_true rfl, Nat.le_of_ble_eq_true rfl⟩ ⟨Nat.le_refl _, Nat.le_refl _⟩ dX12_has_2 ?_
  refine at_zeq 12 dX12_has_5 (by decide) (fun c2 => ?_) (fun c2 => ?_)
  · rw [if_neg c2] at h
    refine at_aload_n 0 dX12_has_12 rfl ?_
    refine at_aload_n 0 dX12_has_13 rfl ?_
    obtain ⟨q3, hq3, h⟩ := sp_bind h
    refine at_callVi (st := [.ref (b + 38)]) hK mt_X12_all ml_X12_223 cl_X12 hg_38 (t_X12_all hK hq3) rfl rfl (Nat.le_of_ble_eq_true rfl) ⟨Nat.le_of_ble_eq_true rfl, Nat.le_of_ble_eq_true rfl⟩ ⟨Nat.le_refl _, Nat.le_refl _⟩ dX12_has_14 ?_
    refine at_iload_n 2 dX12_has_17 rfl ?_
    refine at_iconst (-1) dX12_has_18 ic_m1 ?_
    refine at_ixor dX12_has_19 ?_
    refine at_iand dX12_has_20 ?_
    obtain ⟨q4, hq4, h⟩ := sp_bind h
    refine at_callVi (st := []) hK mt_X12_hangs ml_X12_230 cl_X12 hg_38 (t_X12_hangs hK hq4) rfl rfl (Nat.le_of_ble_eq_true rfl) ⟨Nat.le_of_ble_eq_true rfl, Nat.le_of_ble_eq_true rfl⟩ ⟨Nat.le_refl _, Nat.le_refl _⟩ dX12_has_21 ?_
    refine at_zeq 31 dX12_has_24 (by decide) (fun c5 => ?_) (fun c5 => ?_)
    · rw [if_neg c5] at h
      refine at_iconst 1 dX12_has_31 ic_1 ?_
      cases h; exact at_iret rfl (Nat.le_refl _) (Nat.le_refl _) ⟨rfl, rfl⟩ dX12_has_32
    · rw [if_pos c5] at h
      refine at_iconst 2 dX12_has_27 ic_2 ?_
      refine at_goto 32 dX12_has_28 (by decide) ?_
      cases h; exact at_iret rfl (Nat.le_refl _) (Nat.le_refl _) ⟨rfl, rfl⟩ dX12_has_32
  · rw [if_pos c2] at h
    refine at_iconst 0 dX12_has_8 ic_0 ?_
    refine at_goto 32 dX12_has_9 (by decide) ?_
    cases h; exact at_iret rfl (Nat.le_refl _) (Nat.le_refl _) ⟨rfl, rfl⟩ dX12_has_32
set_option maxRecDepth 100000 in
theorem t_X12_laysPlaces_7 {D : va_G} {b : Nat} {K : State → Heap → Prop} {sa : Nat → Nat} (hK : sx_Kk b K sa) (N : Nat) {uG uN uD uR uF uP uL uT uA uM uH xA xB xC xF xG xH xI xJ xK xL uO : sx_C} {G : sx_H} (res : sx_C × sx_C) : ∀ (n0 : Nat) (v2 : Int32) (xD : sx_C) (xE : sx_C), f_X12_laysPlaces_7 N xA n0 v2 xD xE = some res → sx_At D b K YX12_laysPlaces (sx_rm 2) (sx_Ex none (sx_hp b uG uN uD uR uF uP uL uT uA uM uH xA xB xC (res.1) (res.2) xF xG xH xI xJ xK xL uO G)) 7 [(0, .ref (b + 38)), (2, .int v2)] [] (sx_hp b uG uN uD uR uF uP uL uT uA uM uH xA xB xC xD xE xF xG xH xI xJ xK xL uO G) 0 0 := by
  intro n0
  induction n0 with
  | zero => intro _ _ _ h; cases h
  | succ n0 ih =>
    intro v2 xD xE h
    rw [f_X12_laysPlaces_7] at h
    refine at_iload_n 1 dX12_laysPlaces_7 rfl ?_
    refine at_aload_n 0 dX12_laysPlaces_8 rfl ?_
    refine at_getf cl_X12 (by decide) fl_X12_64 hg_38 rfl dX12_laysPlaces_9 ?_
    refine at_icmp_ge 33 dX12_laysPlaces_12 (by decide) (fun c1 => ?_) (fun c1 => ?_)
    · rw [if_pos c1] at h
      cases h; exact at_vret rfl (Nat.le_refl _) (Nat.le_refl _) ⟨rfl, rfl⟩ dX12_laysPlaces_33
    · rw [if_neg c1] at h
      refine at_aload_n 0 dX12_laysPlaces_15 rfl ?_
      refine at_getf cl_X12 (by decide) fl_X12_35 hg_38 rfl dX12_laysPlaces_16 ?_
      refine at_iload_n 1 dX12_laysPlaces_19 rfl ?_
      refine at_aload_n 0 dX12_laysPlaces_20 rfl ?_
      refine at_getf cl_X12 (by decide) fl_X12_32 hg_38 rfl dX12_laysPlaces_21 ?_
      refine at_iload_n 1 dX12_laysPlaces_24 rfl ?_
      obtain ⟨w2, hw2, h⟩ := sp_bind h
      refine at_iald hg_45 hw2 dX12_laysPlaces_25 ?_
      obtain ⟨hi3, h⟩ := sp_chk h
      refine at_iast hg_46 hi3 hs_46 dX12_laysPlaces_26 ?_
      refine at_iinc 1 1 [(0, .ref (b + 38)), (2, .int (v2 + 1))] dX12_laysPlaces_27 rfl ic_1 (Nat.le_of_ble_eq_true rfl) rfl ?_
      refine at_goto 7 dX12_laysPlaces_30 (by decide) ?_
      exact ih _ _ _ h
set_option maxRecDepth 100000 in
theorem t_X12_laysPlaces {D : va_G} {b : Nat} {K : State → Heap → Prop} {sa : Nat → Nat} (hK : sx_Kk b K sa) {N : Nat} {uG uN uD uR uF uP uL uT uA uM uH xA xB xC xF xG xH xI xJ xK xL uO : sx_C} {G : sx_H} {v1 : Int32} {xD : sx_C} {xE : sx_C} {res : sx_C × sx_C} (h : f_X12_laysPlaces N xA v1 xD xE = some res) : sx_Runs D b K yX12_laysPlaces YX12_laysPlaces (sx_rm 2) [.ref (b + 38), .int v1] (sx_hp b uG uN uD uR uF uP uL uT uA uM uH xA xB xC xD xE xF xG xH xI xJ xK xL uO G) (sx_Ex none (sx_hp b uG uN uD uR uF uP uL uT uA uM uH xA xB xC (res.1) (res.2) xF xG xH xI xJ xK xL uO G)) := by
  rw [f_X12_laysPlaces] at h
  refine sx_run (by decide +kernel) rfl rfl (Nat.le_of_ble_eq_true rfl) ?_
  refine at_aload_n 0 dX12_laysPlaces_0 rfl ?_
  refine at_iload_n 1 dX12_laysPlaces_1 rfl ?_
  obtain ⟨q4, hq4, h⟩ := sp_bind h
  refine at_callVv (st := []) hK mt_X12_laysParts ml_X12_220 cl_X12 hg_38 (t_X12_laysParts hK hq4) rfl rfl (Nat.le_of_ble_eq_true rfl) ⟨Nat.le_of_ble_eq_true rfl, Nat.le_of_ble_eq_true rfl⟩ ⟨Nat.le_refl _, Nat.le_refl _⟩ dX12_laysPlaces_2 ?_
  refine at_iconst 0 dX12_laysPlaces_5 ic_0 ?_
  refine at_istore_n [(0, .ref (b + 38)), (1, .int v1), (2, .int 0)] dX12_laysPlaces_6 (Nat.le_of_ble_eq_true rfl) rfl ?_
  refine at_sub [0, 2] [(0, .ref (b + 38)), (2, .int 0)] rfl ?_
  exact t_X12_laysPlaces_7 hK N _ N _ _ _ h
set_option maxRecDepth 100000 in
theorem t_X12_placeBits_4 {D : va_G} {b : Nat} {K : State → Heap → Prop} {sa : Nat → Nat} (hK : sx_Kk b K sa) (N : Nat) {uG uN uD uR uF uP uL uT uA uM uH xA xB xC xD xE xF xG xH xI xJ xK xL uO : sx_C} {G : sx_H} (res : Int32) : ∀ (n0 : Nat) (v1 : Int32) (v2 : Int32), f_X12_placeBits_4 N xA xE n0 v1 v2 = some res → sx_At D b K YX12_placeBits (sx_rm 0) (sx_Ex (some (.int res)) (sx_hp b uG uN uD uR uF uP uL uT uA uM uH xA xB xC xD xE xF xG xH xI xJ xK xL uO G)) 4 [(0, .ref (b + 38)), (1, .int v1), (2, .int v2)] [] (sx_hp b uG uN uD uR uF uP uL uT uA uM uH xA xB xC xD xE xF xG xH xI xJ xK xL uO G) 0 0 := by
  intro n0
  induction n0 with
  | zero => intro _ _ h; cases h
  | succ n0 ih =>
    intro v1 v2 h
    rw [f_X12_placeBits_4] at h
    refine at_iload_n 2 dX12_placeBits_4 rfl ?_
    refine at_aload_n 0 dX12_placeBits_5 rfl ?_
    refine at_getf cl_X12 (by decide) fl_X12_64 hg_38 rfl dX12_placeBits_6 ?_
    refine at_icmp_ge 29 dX12_placeBits_9 (by decide) (fun c1 => ?_) (fun c1 => ?_)
    · rw [if_pos c1] at h
      refine at_iload_n 1 dX12_placeBits_29 rfl ?_
      cases h; exact at_iret rfl (Nat.le_refl _) (Nat.le_refl _) ⟨rfl, rfl⟩ dX12_placeBits_30
    · rw [if_neg c1] at h
      refine at_iload_n 1 dX12_placeBits_12 rfl ?_
      refine at_iconst 1 dX12_placeBits_13 ic_1 ?_
      refine at_aload_n 0 dX12_placeBits_14 rfl ?_
      refine at_getf cl_X12 (by decide) fl_X12_35 hg_38 rfl dX12_placeBits_15 ?_
      refine at_iload_n 2 dX12_placeBits_18 rfl ?_
      obtain ⟨w2, hw2, h⟩ := sp_bind h
      refine at_iald hg_46 hw2 dX12_placeBits_19 ?_
      refine at_ishl dX12_placeBits_20 ?_
      refine at_ior dX12_placeBits_21 ?_
      refine at_istore_n [(0, .ref (b + 38)), (1, .int (v1 ||| (sp_shl 1 w2))), (2, .int v2)] dX12_placeBits_22 (Nat.le_of_ble_eq_true rfl) rfl ?_
      refine at_iinc 2 1 [(0, .ref (b + 38)), (1, .int (v1 ||| (sp_shl 1 w2))), (2, .int (v2 + 1))] dX12_placeBits_23 rfl ic_1 (Nat.le_of_ble_eq_true rfl) rfl ?_
      refine at_goto 4 dX12_placeBits_26 (by decide) ?_
      exact ih _ _ h
set_option maxRecDepth 100000 in
theorem t_X12_placeBits {D : va_G} {b : Nat} {K : State → Heap → Prop} {sa : Nat → Nat} (hK : sx_Kk b K sa) {N : Nat} {uG uN uD uR uF uP uL uT uA uM uH xA xB xC xD xE xF xG xH xI xJ xK xL uO : sx_C} {G : sx_H} {res : Int32} (h : f_X12_placeBits N xA xE  = some res) : sx_Runs D b K yX12_placeBits YX12_placeBits (sx_rm 0) [.ref (b + 38)] (sx_hp b uG uN uD uR uF uP uL uT uA uM uH xA xB xC xD xE xF xG xH xI xJ xK xL uO G) (sx_Ex (some (.int res)) (sx_hp b uG uN uD uR uF uP uL uT uA uM uH xA xB xC xD xE xF xG xH xI xJ xK xL uO G)) := by
  rw [f_X12_placeBits] at h
  refine sx_run (by decide +kernel) rfl rfl (Nat.le_of_ble_eq_true rfl) ?_
  refine at_iconst 0 dX12_placeBits_0 ic_0 ?_
  refine at_istore_n [(0, .ref (b + 38)), (1, .int 0)] dX12_placeBits_1 (Nat.le_of_ble_eq_true rfl) rfl ?_
  refine at_iconst 0 dX12_placeBits_2 ic_0 ?_
  refine at_istore_n [(0, .ref (b + 38)), (1, .int 0), (2, .int 0)] dX12_placeBits_3 (Nat.le_of_ble_eq_true rfl) rfl ?_
  exact t_X12_placeBits_4 hK N _ N _ _ h
set_option maxRecDepth 100000 in
theorem t_X12_within_112 {D : va_G} {b : Nat} {K : State → Heap → Prop} {sa : Nat → Nat} (hK : sx_Kk b K sa) (N : Nat) {k5 : Int32 → Int32 → Int32 → Int32 → Option (Int32)} {uG uN uD uR uF uP uL uT uA uM uH xA xB xC xD xE xF xG xH xI xJ xK xL uO : sx_C} {G : sx_H} (res : Int32) (hk5 : ∀ (v1 : Int32) (v2 : Int32) (v3 : Int32) (v4 : Int32), k5 v1 v2 v3 v4 = some res → sx_At D b K YX12_within (sx_rm 0) (sx_Ex (some (.int res)) (sx_hp b uG uN uD uR uF uP uL uT uA uM uH xA xB xC xD xE xF xG xH xI xJ xK xL uO G)) 5 [(0, .ref (b + 38)), (1, .int v1), (2, .int v2), (3, .int v3), (4, .int v4)] [] (sx_hp b uG uN uD uR uF uP uL uT uA uM uH xA xB xC xD xE xF xG xH xI xJ xK xL uO G) 0 0) : ∀ (v1 : Int32) (v2 : Int32) (v4 : Int32) (s0 : Int32) (s1 : Int32), f_X12_within_112 N k5 xA xE v1 v2 v4 s0 s1 = some res → sx_At D b K YX12_within (sx_rm 0) (sx_Ex (some (.int res)) (sx_hp b uG uN uD uR uF uP uL uT uA uM uH xA xB xC xD xE xF xG xH xI xJ xK xL uO G)) 112 [(0, .ref (b + 38)), (1, .int v1), (2, .int v2), (4, .int v4)] [.int s1, .int s0] (sx_hp b uG uN uD uR uF uP uL uT uA uM uH xA xB xC xD xE xF xG xH xI xJ xK xL uO G) 0 0 := by
  intro v1 v2 v4 s0 s1 h
  rw [f_X12_within_112] at h
  refine at_ior dX12_within_112 ?_
  refine at_istore_n [(0, .ref (b + 38)), (1, .int v1), (2, .int v2), (3, .int (s0 ||| s1)), (4, .int v4)] dX12_within_113 (Nat.le_of_ble_eq_true rfl) rfl ?_
  refine at_iinc 4 1 [(0, .ref (b + 38)), (1, .int v1), (2, .int v2), (3, .int (s0 ||| s1)), (4, .int (v4 + 1))] dX12_within_114 rfl ic_1 (Nat.le_of_ble_eq_true rfl) rfl ?_
  refine at_goto 5 dX12_within_117 (by decide) ?_
  exact hk5 _ _ _ _ h
set_option maxRecDepth 100000 in
theorem t_X12_within_96 {D : va_G} {b : Nat} {K : State → Heap → Prop} {sa : Nat → Nat} (hK : sx_Kk b K sa) (N : Nat) {k5 : Int32 → Int32 → Int32 → Int32 → Option (Int32)} {uG uN uD uR uF uP uL uT uA uM uH xA xB xC xD xE xF xG xH xI xJ xK xL uO : sx_C} {G : sx_H} (res : Int32) (hk5 : ∀ (v1 : Int32) (v2 : Int32) (v3 : Int32) (v4 : Int32), k5 v1 v2 v3 v4 = some res → sx_At D b K YX12_within (sx_rm 0) (sx_Ex (some (.int res)) (sx_hp b uG uN uD uR uF uP uL uT uA uM uH xA xB xC xD xE xF xG xH xI xJ xK xL uO G)) 5 [(0, .ref (b + 38)), (1, .int v1), (2, .int v2), (3, .int v3), (4, .int v4)] [] (sx_hp b uG uN uD uR uF uP uL uT uA uM uH xA xB xC xD xE xF xG xH xI xJ xK xL uO G) 0 0) : ∀ (v1 : Int32) (v2 : Int32) (v3 : Int32) (v4 : Int32) (s0 : Int32), f_X12_within_96 N k5 xA xE v1 v2 v3 v4 s0 = some res → sx_At D b K YX12_within (sx_rm 0) (sx_Ex (some (.int res)) (sx_hp b uG uN uD uR uF uP uL uT uA uM uH xA xB xC xD xE xF xG xH xI xJ xK xL uO G)) 96 [(0, .ref (b + 38)), (1, .int v1), (2, .int v2), (3, .int v3), (4, .int v4)] [.int s0] (sx_hp b uG uN uD uR uF uP uL uT uA uM uH xA xB xC xD xE xF xG xH xI xJ xK xL uO G) 0 0 := by
  intro v1 v2 v3 v4 s0 h
  rw [f_X12_within_96] at h
  refine at_istore [(0, .ref (b + 38)), (1, .int v1), (2, .int v2), (3, .int v3), (4, .int v4), (5, .int s0)] dX12_within_96 (Nat.le_of_ble_eq_true rfl) rfl ?_
  refine at_iload_n 3 dX12_within_98 rfl ?_
  refine at_iload 5 dX12_within_99 rfl ?_
  refine at_if_eq 111 dX12_within_101 (by decide) (fun c14 => ?_) (fun c14 => ?_)
  · rw [if_pos c14] at h
    refine at_iconst 0 dX12_within_111 ic_0 ?_
    refine at_sub [0, 1, 2, 4] [(0, .ref (b + 38)), (1, .int v1), (2, .int v2), (4, .int v4)] rfl ?_
    exact t_X12_within_112 hK N _ hk5 _ _ _ _ _ h
  · rw [if_neg c14] at h
    refine at_iconst 1 dX12_within_104 ic_1 ?_
    refine at_iload 4 dX12_within_105 rfl ?_
    refine at_ishl dX12_within_107 ?_
    refine at_goto 112 dX12_within_108 (by decide) ?_
    refine at_sub [0, 1, 2, 4] [(0, .ref (b + 38)), (1, .int v1), (2, .int v2), (4, .int v4)] rfl ?_
    exact t_X12_within_112 hK N _ hk5 _ _ _ _ _ h
set_option maxRecDepth 100000 in
theorem t_X12_within_95 {D : va_G} {b : Nat} {K : State → Heap → Prop} {sa : Nat → Nat} (hK : sx_Kk b K sa) (N : Nat) {k5 : Int32 → Int32 → Int32 → Int32 → Option (Int32)} {uG uN uD uR uF uP uL uT uA uM uH xA xB xC xD xE xF xG xH xI xJ xK xL uO : sx_C} {G : sx_H} (res : Int32) (hk5 : ∀ (v1 : Int32) (v2 : Int32) (v3 : Int32) (v4 : Int32), k5 v1 v2 v3 v4 = some res → sx_At D b K YX12_within (sx_rm 0) (sx_Ex (some (.int res)) (sx_hp b uG uN uD uR uF uP uL uT uA uM uH xA xB xC xD xE xF xG xH xI xJ xK xL uO G)) 5 [(0, .ref (b + 38)), (1, .int v1), (2, .int v2), (3, .int v3), (4, .int v4)] [] (sx_hp b uG uN uD uR uF uP uL uT uA uM uH xA xB xC xD xE xF xG xH xI xJ xK xL uO G) 0 0) : ∀ (v1 : Int32) (v2 : Int32) (v3 : Int32) (v4 : Int32), f_X12_within_95 N k5 xA xE v1 v2 v3 v4 = some res → sx_At D b K YX12_within (sx_rm 0) (sx_Ex (some (.int res)) (sx_hp b uG uN uD uR uF uP uL uT uA uM uH xA xB xC xD xE xF xG xH xI xJ xK xL uO G)) 95 [(0, .ref (b + 38)), (1, .int v1), (2, .int v2), (3, .int v3), (4, .int v4)] [] (sx_hp b uG uN uD uR uF uP uL uT uA uM uH xA xB xC xD xE xF xG xH xI xJ xK xL uO G) 0 0 := by
  intro v1 v2 v3 v4 h
  rw [f_X12_within_95] at h
  refine at_iconst 0 dX12_within_95 ic_0 ?_
  exact t_X12_within_96 hK N _ hk5 _ _ _ _ _ h
set_option maxRecDepth 100000 in
theorem t_X12_within_5 {D : va_G} {b : Nat} {K : State → Heap → Prop} {sa : Nat → Nat} (hK : sx_Kk b K sa) (N : Nat) {uG uN uD uR uF uP uL uT uA uM uH xA xB xC xD xE xF xG xH xI xJ xK xL uO : sx_C} {G : sx_H} (res : Int32) : ∀ (n0 : Nat) (v1 : Int32) (v2 : Int32) (v3 : Int32) (v4 : Int32), f_X12_within_5 N xA xE n0 v1 v2 v3 v4 = some res → sx_At D b K YX12_within (sx_rm 0) (sx_Ex (some (.int res)) (sx_hp b uG uN uD uR uF uP uL uT uA uM uH xA xB xC xD xE xF xG xH xI xJ xK xL uO G)) 5 [(0, .ref (b + 38)), (1, .int v1), (2, .int v2), (3, .int v3), (4, .int v4)] [] (sx_hp b uG uN uD uR uF uP uL uT uA uM uH xA xB xC xD xE xF xG xH xI xJ xK xL uO G) 0 0 := by
  intro n0
  induction n0 with
  | zero => intro _ _ _ _ h; cases h
  | succ n0 ih =>
    intro v1 v2 v3 v4 h
    rw [f_X12_within_5] at h
    refine at_iload 4 dX12_within_5 rfl ?_
    refine at_aload_n 0 dX12_within_7 rfl ?_
    refine at_getf cl_X12 (by decide) fl_X12_198 hg_38 rfl dX12_within_8 ?_
    refine at_icmp_ge 120 dX12_within_11 (by decide) (fun c1 => ?_) (fun c1 => ?_)
    · rw [if_pos c1] at h
      refine at_iload_n 3 dX12_within_120 rfl ?_
      cases h; exact at_iret rfl (Nat.le_refl _) (Nat.le_refl _) ⟨rfl, rfl⟩ dX12_within_121
    · rw [if_neg c1] at h
      refine at_iload_n 1 dX12_within_14 rfl ?_
      refine at_iload 4 dX12_within_15 rfl ?_
      refine at_ishr dX12_within_17 ?_
      refine at_iconst 1 dX12_within_18 ic_1 ?_
      refine at_iand dX12_within_19 ?_
      refine at_iconst 1 dX12_within_20 ic_1 ?_
      refine at_icmp_ne 95 dX12_within_21 (by decide) (fun c2 => ?_) (fun c2 => ?_)
      · rw [if_neg c2] at h
        exact t_X12_within_95 hK N _ ih _ _ _ _ h
      · rw [if_pos c2] at h
        refine at_aload_n 0 dX12_within_24 rfl ?_
        refine at_getf cl_X12 (by decide) fl_X12_35 hg_38 rfl dX12_within_25 ?_
        refine at_aload_n 0 dX12_within_28 rfl ?_
        refine at_getf cl_X12 (by decide) fl_X12_13 hg_38 rfl dX12_within_29 ?_
        refine at_iload 4 dX12_within_32 rfl ?_
        obtain ⟨w3, hw3, h⟩ := sp_bind h
        refine at_iald hg_40 hw3 dX12_within_34 ?_
        obtain ⟨w4, hw4, h⟩ := sp_bind h
        refine at_iald hg_46 hw4 dX12_within_35 ?_
        refine at_aload_n 0 dX12_within_36 rfl ?_
        refine at_getf cl_X12 (by decide) fl_X12_35 hg_38 rfl dX12_within_37 ?_
        refine at_aload_n 0 dX12_within_40 rfl ?_
        refine at_getf cl_X12 (by decide) fl_X12_16 hg_38 rfl dX12_within_41 ?_
        refine at_iload 4 dX12_within_44 rfl ?_
        obtain ⟨w5, hw5, h⟩ := sp_bind h
        refine at_iald hg_41 hw5 dX12_within_46 ?_
        obtain ⟨w6, hw6, h⟩ := sp_bind h
        refine at_iald hg_46 hw6 dX12_within_47 ?_
        refine at_icmp_eq 95 dX12_within_48 (by decide) (fun c7 => ?_) (fun c7 => ?_)
        · rw [if_pos c7] at h
          exact t_X12_within_95 hK N _ ih _ _ _ _ h
        · rw [if_neg c7] at h
          refine at_iload_n 2 dX12_within_51 rfl ?_
          refine at_aload_n 0 dX12_within_52 rfl ?_
          refine at_getf cl_X12 (by decide) fl_X12_35 hg_38 rfl dX12_within_53 ?_
          refine at_aload_n 0 dX12_within_56 rfl ?_
          refine at_getf cl_X12 (by decide) fl_X12_13 hg_38 rfl dX12_within_57 ?_
          refine at_iload 4 dX12_within_60 rfl ?_
          obtain ⟨w8, hw8, h⟩ := sp_bind h
          refine at_iald hg_40 hw8 dX12_within_62 ?_
          obtain ⟨w9, hw9, h⟩ := sp_bind h
          refine at_iald hg_46 hw9 dX12_within_63 ?_
          refine at_ishr dX12_within_64 ?_
          refine at_iconst 1 dX12_within_65 ic_1 ?_
          refine at_iand dX12_within_66 ?_
          refine at_iconst 1 dX12_within_67 ic_1 ?_
          refine at_icmp_ne 95 dX12_within_68 (by decide) (fun c10 => ?_) (fun c10 => ?_)
          · rw [if_neg c10] at h
            exact t_X12_within_95 hK N _ ih _ _ _ _ h
          · rw [if_pos c10] at h
            refine at_iload_n 2 dX12_within_71 rfl ?_
            refine at_aload_n 0 dX12_within_72 rfl ?_
            refine at_getf cl_X12 (by decide) fl_X12_35 hg_38 rfl dX12_within_73 ?_
            refine at_aload_n 0 dX12_within_76 rfl ?_
            refine at_getf cl_X12 (by decide) fl_X12_16 hg_38 rfl dX12_within_77 ?_
            refine at_iload 4 dX12_within_80 rfl ?_
            obtain ⟨w11, hw11, h⟩ := sp_bind h
            refine at_iald hg_41 hw11 dX12_within_82 ?_
            obtain ⟨w12, hw12, h⟩ := sp_bind h
            refine at_iald hg_46 hw12 dX12_within_83 ?_
            refine at_ishr dX12_within_84 ?_
            refine at_iconst 1 dX12_within_85 ic_1 ?_
            refine at_iand dX12_within_86 ?_
            refine at_iconst 1 dX12_within_87 ic_1 ?_
            refine at_icmp_ne 95 dX12_within_88 (by decide) (fun c13 => ?_) (fun c13 => ?_)
            · rw [if_neg c13] at h
              exact t_X12_within_95 hK N _ ih _ _ _ _ h
            · rw [if_pos c13] at h
              refine at_iconst 1 dX12_within_91 ic_1 ?_
              refine at_goto 96 dX12_within_92 (by decide) ?_
              exact t_X12_within_96 hK N _ ih _ _ _ _ _ h
set_option maxRecDepth 100000 in
theorem t_X12_within {D : va_G} {b : Nat} {K : State → Heap → Prop} {sa : Nat → Nat} (hK : sx_Kk b K sa) {N : Nat} {uG uN uD uR uF uP uL uT uA uM uH xA xB xC xD xE xF xG xH xI xJ xK xL uO : sx_C} {G : sx_H} {v1 : Int32} {v2 : Int32} {res : Int32} (h : f_X12_within N xA xE v1 v2 = some res) : sx_Runs D b K yX12_within YX12_within (sx_rm 0) [.ref (b + 38), .int v1, .int v2] (sx_hp b uG uN uD uR uF uP uL uT uA uM uH xA xB xC xD xE xF xG xH xI xJ xK xL uO G) (sx_Ex (some (.int res)) (sx_hp b uG uN uD uR uF uP uL uT uA uM uH xA xB xC xD xE xF xG xH xI xJ xK xL uO G)) := by
  rw [f_X12_within] at h
  refine sx_run (by decide +kernel) rfl rfl (Nat.le_of_ble_eq_true rfl) ?_
  refine at_iconst 0 dX12_within_0 ic_0 ?_
  refine at_istore_n [(0, .ref (b + 38)), (1, .int v1), (2, .int v2), (3, .int 0)] dX12_within_1 (Nat.le_of_ble_eq_true rfl) rfl ?_
  refine at_iconst 0 dX12_within_2 ic_0 ?_
  refine at_istore [(0, .ref (b + 38)), (1, .int v1), (2, .int v2), (3, .int 0), (4, .int 0)] dX12_within_3 (Nat.le_of_ble_eq_true rfl) rfl ?_
  exact t_X12_within_5 hK N _ N _ _ _ _ h
set_option maxRecDepth 100000 in
theorem t_X12_isForest_135 {D : va_G} {b : Nat} {K : State → Heap → Prop} {sa : Nat → Nat} (hK : sx_Kk b K sa) (N : Nat) {k25 : Int32 → Int32 → sx_C → Option (Bool × sx_C)} {uG uN uD uR uF uP uL uT uA uM uH xA xB xC xD xE xG xH xI xJ xK xL uO : sx_C} {G : sx_H} (res : Bool × sx_C) (hk25 : ∀ (v1 : Int32) (v2 : Int32) (xF : sx_C), k25 v1 v2 xF = some res → sx_At D b K YX12_isForest (sx_rm 0) (sx_Ex (some (.int (sp_b res.1))) (sx_hp b uG uN uD uR uF uP uL uT uA uM uH xA xB xC xD xE (res.2) xG xH xI xJ xK xL uO G)) 25 [(0, .ref (b + 38)), (1, .int v1), (2, .int v2)] [] (sx_hp b uG uN uD uR uF uP uL uT uA uM uH xA xB xC xD xE xF xG xH xI xJ xK xL uO G) 0 0) : ∀ (v1 : Int32) (v2 : Int32) (xF : sx_C), f_X12_isForest_135 N k25 xA xE v1 v2 xF = some res → sx_At D b K YX12_isForest (sx_rm 0) (sx_Ex (some (.int (sp_b res.1))) (sx_hp b uG uN uD uR uF uP uL uT uA uM uH xA xB xC xD xE (res.2) xG xH xI xJ xK xL uO G)) 135 [(0, .ref (b + 38)), (1, .int v1), (2, .int v2)] [] (sx_hp b uG uN uD uR uF uP uL uT uA uM uH xA xB xC xD xE xF xG xH xI xJ xK xL uO G) 0 0 := by
  intro v1 v2 xF h
  rw [f_X12_isForest_135] at h
  refine at_iinc 2 1 [(0, .ref (b + 38)), (1, .int v1), (2, .int (v2 + 1))] dX12_isForest_135 rfl ic_1 (Nat.le_of_ble_eq_true rfl) rfl ?_
  refine at_goto 25 dX12_isForest_138 (by decide) ?_
  exact hk25 _ _ _ h
set_option maxRecDepth 100000 in
theorem t_X12_isForest_128 {D : va_G} {b : Nat} {K : State → Heap → Prop} {sa : Nat → Nat} (hK : sx_Kk b K sa) (N : Nat) {k25 : Int32 → Int32 → sx_C → Option (Bool × sx_C)} {k90 : Int32 → Int32 → Int32 → Int32 → Int32 → sx_C → Option (Bool × sx_C)} {uG uN uD uR uF uP uL uT uA uM uH xA xB xC xD xE xG xH xI xJ xK xL uO : sx_C} {G : sx_H} (res : Bool × sx_C) (hk25 : ∀ (v1 : Int32) (v2 : Int32) (xF : sx_C), k25 v1 v2 xF = some res → sx_At D b K YX12_isForest (sx_rm 0) (sx_Ex (some (.int (sp_b res.1))) (sx_hp b uG uN uD uR uF uP uL uT uA uM uH xA xB xC xD xE (res.2) xG xH xI xJ xK xL uO G)) 25 [(0, .ref (b + 38)), (1, .int v1), (2, .int v2)] [] (sx_hp b uG uN uD uR uF uP uL uT uA uM uH xA xB xC xD xE xF xG xH xI xJ xK xL uO G) 0 0) (hk90 : ∀ (v1 : Int32) (v2 : Int32) (v3 : Int32) (v4 : Int32) (v5 : Int32) (xF : sx_C), k90 v1 v2 v3 v4 v5 xF = some res → sx_At D b K YX12_isForest (sx_rm 0) (sx_Ex (some (.int (sp_b res.1))) (sx_hp b uG uN uD uR uF uP uL uT uA uM uH xA xB xC xD xE (res.2) xG xH xI xJ xK xL uO G)) 90 [(0, .ref (b + 38)), (1, .int v1), (2, .int v2), (3, .int v3), (4, .int v4), (5, .int v5)] [] (sx_hp b uG uN uD uR uF uP uL uT uA uM uH xA xB xC xD xE xF xG xH xI xJ xK xL uO G) 0 0) : ∀ (v1 : Int32) (v2 : Int32) (v3 : Int32) (v4 : Int32) (v5 : Int32) (s1 : Int32) (s2 : Int32) (xF : sx_C), f_X12_isForest_128 N k25 k90 xA xE v1 v2 v3 v4 v5 s1 s2 xF = some res → sx_At D b K YX12_isForest (sx_rm 0) (sx_Ex (some (.int (sp_b res.1))) (sx_hp b uG uN uD uR uF uP uL uT uA uM uH xA xB xC xD xE (res.2) xG xH xI xJ xK xL uO G)) 128 [(0, .ref (b + 38)), (1, .int v1), (2, .int v2), (3, .int v3), (4, .int v4), (5, .int v5)] [.int s2, .int s1, .ref (b + 47)] (sx_hp b uG uN uD uR uF uP uL uT uA uM uH xA xB xC xD xE xF xG xH xI xJ xK xL uO G) 0 0 := by
  intro v1 v2 v3 v4 v5 s1 s2 xF h
  rw [f_X12_isForest_128] at h
  obtain ⟨hi16, h⟩ := sp_chk h
  refine at_iast hg_47 hi16 hs_47 dX12_isForest_128 ?_
  refine at_iinc 5 1 [(0, .ref (b + 38)), (1, .int v1), (2, .int v2), (3, .int v3), (4, .int v4), (5, .int (v5 + 1))] dX12_isForest_129 rfl ic_1 (Nat.le_of_ble_eq_true rfl) rfl ?_
  refine at_goto 90 dX12_isForest_132 (by decide) ?_
  exact hk90 _ _ _ _ _ _ h
set_option maxRecDepth 100000 in
theorem t_X12_isForest_90 {D : va_G} {b : Nat} {K : State → Heap → Prop} {sa : Nat → Nat} (hK : sx_Kk b K sa) (N : Nat) {k25 : Int32 → Int32 → sx_C → Option (Bool × sx_C)} {uG uN uD uR uF uP uL uT uA uM uH xA xB xC xD xE xG xH xI xJ xK xL uO : sx_C} {G : sx_H} (res : Bool × sx_C) (hk25 : ∀ (v1 : Int32) (v2 : Int32) (xF : sx_C), k25 v1 v2 xF = some res → sx_At D b K YX12_isForest (sx_rm 0) (sx_Ex (some (.int (sp_b res.1))) (sx_hp b uG uN uD uR uF uP uL uT uA uM uH xA xB xC xD xE (res.2) xG xH xI xJ xK xL uO G)) 25 [(0, .ref (b + 38)), (1, .int v1), (2, .int v2)] [] (sx_hp b uG uN uD uR uF uP uL uT uA uM uH xA xB xC xD xE xF xG xH xI xJ xK xL uO G) 0 0) : ∀ (n0 : Nat) (v1 : Int32) (v2 : Int32) (v3 : Int32) (v4 : Int32) (v5 : Int32) (xF : sx_C), f_X12_isForest_90 N k25 xA xE n0 v1 v2 v3 v4 v5 xF = some res → sx_At D b K YX12_isForest (sx_rm 0) (sx_Ex (some (.int (sp_b res.1))) (sx_hp b uG uN uD uR uF uP uL uT uA uM uH xA xB xC xD xE (res.2) xG xH xI xJ xK xL uO G)) 90 [(0, .ref (b + 38)), (1, .int v1), (2, .int v2), (3, .int v3), (4, .int v4), (5, .int v5)] [] (sx_hp b uG uN uD uR uF uP uL uT uA uM uH xA xB xC xD xE xF xG xH xI xJ xK xL uO G) 0 0 := by
  intro n0
  induction n0 with
  | zero => intro _ _ _ _ _ _ h; cases h
  | succ n0 ih =>
    intro v1 v2 v3 v4 v5 xF h
    rw [f_X12_isForest_90] at h
    refine at_iload 5 dX12_isForest_90 rfl ?_
    refine at_aload_n 0 dX12_isForest_92 rfl ?_
    refine at_getf cl_X12 (by decide) fl_X12_64 hg_38 rfl dX12_isForest_93 ?_
    refine at_icmp_ge 135 dX12_isForest_96 (by decide) (fun c12 => ?_) (fun c12 => ?_)
    · rw [if_pos c12] at h
      refine at_sub [0, 1, 2] [(0, .ref (b + 38)), (1, .int v1), (2, .int v2)] rfl ?_
      exact t_X12_isForest_135 hK N _ hk25 _ _ _ h
    · rw [if_neg c12] at h
      refine at_aload_n 0 dX12_isForest_99 rfl ?_
      refine at_getf cl_X12 (by decide) fl_X12_38 hg_38 rfl dX12_isForest_100 ?_
      refine at_iload 5 dX12_isForest_103 rfl ?_
      refine at_aload_n 0 dX12_isForest_105 rfl ?_
      refine at_getf cl_X12 (by decide) fl_X12_38 hg_38 rfl dX12_isForest_106 ?_
      refine at_iload 5 dX12_isForest_109 rfl ?_
      obtain ⟨w13, hw13, h⟩ := sp_bind h
      refine at_iald hg_47 hw13 dX12_isForest_111 ?_
      refine at_iload 4 dX12_isForest_112 rfl ?_
      refine at_icmp_ne 121 dX12_isForest_114 (by decide) (fun c14 => ?_) (fun c14 => ?_)
      · rw [if_neg c14] at h
        refine at_aload_n 0 dX12_isForest_121 rfl ?_
        refine at_getf cl_X12 (by decide) fl_X12_38 hg_38 rfl dX12_isForest_122 ?_
        refine at_iload 5 dX12_isForest_125 rfl ?_
        obtain ⟨w15, hw15, h⟩ := sp_bind h
        refine at_iald hg_47 hw15 dX12_isForest_127 ?_
        exact t_X12_isForest_128 hK N _ hk25 ih _ _ _ _ _ _ _ _ h
      · rw [if_pos c14] at h
        refine at_iload_n 3 dX12_isForest_117 rfl ?_
        refine at_goto 128 dX12_isForest_118 (by decide) ?_
        exact t_X12_isForest_128 hK N _ hk25 ih _ _ _ _ _ _ _ _ h
set_option maxRecDepth 100000 in
theorem t_X12_isForest_25 {D : va_G} {b : Nat} {K : State → Heap → Prop} {sa : Nat → Nat} (hK : sx_Kk b K sa) (N : Nat) {uG uN uD uR uF uP uL uT uA uM uH xA xB xC xD xE xG xH xI xJ xK xL uO : sx_C} {G : sx_H} (res : Bool × sx_C) : ∀ (n0 : Nat) (v1 : Int32) (v2 : Int32) (xF : sx_C), f_X12_isForest_25 N xA xE n0 v1 v2 xF = some res → sx_At D b K YX12_isForest (sx_rm 0) (sx_Ex (some (.int (sp_b res.1))) (sx_hp b uG uN uD uR uF uP uL uT uA uM uH xA xB xC xD xE (res.2) xG xH xI xJ xK xL uO G)) 25 [(0, .ref (b + 38)), (1, .int v1), (2, .int v2)] [] (sx_hp b uG uN uD uR uF uP uL uT uA uM uH xA xB xC xD xE xF xG xH xI xJ xK xL uO G) 0 0 := by
  intro n0
  induction n0 with
  | zero => intro _ _ _ h; cases h
  | succ n0 ih =>
    intro v1 v2 xF h
    rw [f_X12_isForest_25] at h
    refine at_iload_n 2 dX12_isForest_25 rfl ?_
    refine at_aload_n 0 dX12_isForest_26 rfl ?_
    refine at_getf cl_X12 (by decide) fl_X12_198 hg_38 rfl dX12_isForest_27 ?_
    refine at_icmp_ge 141 dX12_isForest_30 (by decide) (fun c3 => ?_) (fun c3 => ?_)
    · rw [if_pos c3] at h
      refine at_iconst 1 dX12_isForest_141 ic_1 ?_
      cases h; exact at_zret rfl rfl (Nat.le_refl _) (Nat.le_refl _) ⟨rfl, rfl⟩ dX12_isForest_142
    · rw [if_neg c3] at h
      refine at_iload_n 1 dX12_isForest_33 rfl ?_
      refine at_iload_n 2 dX12_isForest_34 rfl ?_
      refine at_ishr dX12_isForest_35 ?_
      refine at_iconst 1 dX12_isForest_36 ic_1 ?_
      refine at_iand dX12_isForest_37 ?_
      refine at_if_ne 44 dX12_isForest_38 (by decide) (fun c4 => ?_) (fun c4 => ?_)
      · rw [if_neg c4] at h
        refine at_aload_n 0 dX12_isForest_44 rfl ?_
        refine at_getf cl_X12 (by decide) fl_X12_38 hg_38 rfl dX12_isForest_45 ?_
        refine at_aload_n 0 dX12_isForest_48 rfl ?_
        refine at_getf cl_X12 (by decide) fl_X12_35 hg_38 rfl dX12_isForest_49 ?_
        refine at_aload_n 0 dX12_isForest_52 rfl ?_
        refine at_getf cl_X12 (by decide) fl_X12_13 hg_38 rfl dX12_isForest_53 ?_
        refine at_iload_n 2 dX12_isForest_56 rfl ?_
        obtain ⟨w5, hw5, h⟩ := sp_bind h
        refine at_iald hg_40 hw5 dX12_isForest_57 ?_
        obtain ⟨w6, hw6, h⟩ := sp_bind h
        refine at_iald hg_46 hw6 dX12_isForest_58 ?_
        obtain ⟨w7, hw7, h⟩ := sp_bind h
        refine at_iald hg_47 hw7 dX12_isForest_59 ?_
        refine at_istore_n [(0, .ref (b + 38)), (1, .int v1), (2, .int v2), (3, .int w7)] dX12_isForest_60 (Nat.le_of_ble_eq_true rfl) rfl ?_
        refine at_aload_n 0 dX12_isForest_61 rfl ?_
        refine at_getf cl_X12 (by decide) fl_X12_38 hg_38 rfl dX12_isForest_62 ?_
        refine at_aload_n 0 dX12_isForest_65 rfl ?_
        refine at_getf cl_X12 (by decide) fl_X12_35 hg_38 rfl dX12_isForest_66 ?_
        refine at_aload_n 0 dX12_isForest_69 rfl ?_
        refine at_getf cl_X12 (by decide) fl_X12_16 hg_38 rfl dX12_isForest_70 ?_
        refine at_iload_n 2 dX12_isForest_73 rfl ?_
        obtain ⟨w8, hw8, h⟩ := sp_bind h
        refine at_iald hg_41 hw8 dX12_isForest_74 ?_
        obtain ⟨w9, hw9, h⟩ := sp_bind h
        refine at_iald hg_46 hw9 dX12_isForest_75 ?_
        obtain ⟨w10, hw10, h⟩ := sp_bind h
        refine at_iald hg_47 hw10 dX12_isForest_76 ?_
        refine at_istore [(0, .ref (b + 38)), (1, .int v1), (2, .int v2), (3, .int w7), (4, .int w10)] dX12_isForest_77 (Nat.le_of_ble_eq_true rfl) rfl ?_
        refine at_iload_n 3 dX12_isForest_79 rfl ?_
        refine at_iload 4 dX12_isForest_80 rfl ?_
        refine at_icmp_ne 87 dX12_isForest_82 (by decide) (fun c11 => ?_) (fun c11 => ?_)
        · rw [if_neg c11] at h
          refine at_iconst 0 dX12_isForest_87 ic_0 ?_
          refine at_istore [(0, .ref (b + 38)), (1, .int v1), (2, .int v2), (3, .int w7), (4, .int w10), (5, .int 0)] dX12_isForest_88 (Nat.le_of_ble_eq_true rfl) rfl ?_
          exact t_X12_isForest_90 hK N _ ih N _ _ _ _ _ _ h
        · rw [if_pos c11] at h
          refine at_iconst 0 dX12_isForest_85 ic_0 ?_
          cases h; exact at_zret rfl rfl (Nat.le_refl _) (Nat.le_refl _) ⟨rfl, rfl⟩ dX12_isForest_86
      · rw [if_pos c4] at h
        refine at_goto 135 dX12_isForest_41 (by decide) ?_
        exact t_X12_isForest_135 hK N _ ih _ _ _ h
set_option maxRecDepth 100000 in
theorem t_X12_isForest_2 {D : va_G} {b : Nat} {K : State → Heap → Prop} {sa : Nat → Nat} (hK : sx_Kk b K sa) (N : Nat) {uG uN uD uR uF uP uL uT uA uM uH xA xB xC xD xE xG xH xI xJ xK xL uO : sx_C} {G : sx_H} (res : Bool × sx_C) : ∀ (n0 : Nat) (v1 : Int32) (v2 : Int32) (xF : sx_C), f_X12_isForest_2 N xA xE n0 v1 v2 xF = some res → sx_At D b K YX12_isForest (sx_rm 0) (sx_Ex (some (.int (sp_b res.1))) (sx_hp b uG uN uD uR uF uP uL uT uA uM uH xA xB xC xD xE (res.2) xG xH xI xJ xK xL uO G)) 2 [(0, .ref (b + 38)), (1, .int v1), (2, .int v2)] [] (sx_hp b uG uN uD uR uF uP uL uT uA uM uH xA xB xC xD xE xF xG xH xI xJ xK xL uO G) 0 0 := by
  intro n0
  induction n0 with
  | zero => intro _ _ _ h; cases h
  | succ n0 ih =>
    intro v1 v2 xF h
    rw [f_X12_isForest_2] at h
    refine at_iload_n 2 dX12_isForest_2 rfl ?_
    refine at_aload_n 0 dX12_isForest_3 rfl ?_
    refine at_getf cl_X12 (by decide) fl_X12_64 hg_38 rfl dX12_isForest_4 ?_
    refine at_icmp_ge 23 dX12_isForest_7 (by decide) (fun c1 => ?_) (fun c1 => ?_)
    · rw [if_pos c1] at h
      refine at_iconst 0 dX12_isForest_23 ic_0 ?_
      refine at_istore_n [(0, .ref (b + 38)), (1, .int v1), (2, .int 0)] dX12_isForest_24 (Nat.le_of_ble_eq_true rfl) rfl ?_
      exact t_X12_isForest_25 hK N _ N _ _ _ h
    · rw [if_neg c1] at h
      refine at_aload_n 0 dX12_isForest_10 rfl ?_
      refine at_getf cl_X12 (by decide) fl_X12_38 hg_38 rfl dX12_isForest_11 ?_
      refine at_iload_n 2 dX12_isForest_14 rfl ?_
      refine at_iload_n 2 dX12_isForest_15 rfl ?_
      obtain ⟨hi2, h⟩ := sp_chk h
      refine at_iast hg_47 hi2 hs_47 dX12_isForest_16 ?_
      refine at_iinc 2 1 [(0, .ref (b + 38)), (1, .int v1), (2, .int (v2 + 1))] dX12_isForest_17 rfl ic_1 (Nat.le_of_ble_eq_true rfl) rfl ?_
      refine at_goto 2 dX12_isForest_20 (by decide) ?_
      exact ih _ _ _ h
set_option maxRecDepth 100000 in
theorem t_X12_isForest {D : va_G} {b : Nat} {K : State → Heap → Prop} {sa : Nat → Nat} (hK : sx_Kk b K sa) {N : Nat} {uG uN uD uR uF uP uL uT uA uM uH xA xB xC xD xE xG xH xI xJ xK xL uO : sx_C} {G : sx_H} {v1 : Int32} {xF : sx_C} {res : Bool × sx_C} (h : f_X12_isForest N xA xE v1 xF = some res) : sx_Runs D b K yX12_isForest YX12_isForest (sx_rm 0) [.ref (b + 38), .int v1] (sx_hp b uG uN uD uR uF uP uL uT uA uM uH xA xB xC xD xE xF xG xH xI xJ xK xL uO G) (sx_Ex (some (.int (sp_b res.1))) (sx_hp b uG uN uD uR uF uP uL uT uA uM uH xA xB xC xD xE (res.2) xG xH xI xJ xK xL uO G)) := by
  rw [f_X12_isForest] at h
  refine sx_run (by decide +kernel) rfl rfl (Nat.le_of_ble_eq_true rfl) ?_
  refine at_iconst 0 dX12_isForest_0 ic_0 ?_
  refine at_istore_n [(0, .ref (b + 38)), (1, .int v1), (2, .int 0)] dX12_isForest_1 (Nat.le_of_ble_eq_true rfl) rfl ?_
  exact t_X12_isForest_2 hK N _ N _ _ _ h
set_option maxRecDepth 100000 in
theorem t_X12_rank_51 {D : va_G} {b : Nat} {K : State → Heap → Prop} {sa : Nat → Nat} (hK : sx_Kk b K sa) (N : Nat) {k7 : Int32 → Int32 → Int32 → Int32 → sx_C → Option (Int32 × sx_C)} {uG uN uD uR uF uP uL uT uA uM uH xA xB xC xD xE xG xH xI xJ xK xL uO : sx_C} {G : sx_H} (res : Int32 × sx_C) (hk7 : ∀ (v1 : Int32) (v2 : Int32) (v3 : Int32) (v4 : Int32) (xF : sx_C), k7 v1 v2 v3 v4 xF = some res → sx_At D b K YX12_rank (sx_rm 1) (sx_Ex (some (.int res.1)) (sx_hp b uG uN uD uR uF uP uL uT uA uM uH xA xB xC xD xE (res.2) xG xH xI xJ xK xL uO G)) 7 [(0, .ref (b + 38)), (1, .int v1), (2, .int v2), (3, .int v3), (4, .int v4)] [] (sx_hp b uG uN uD uR uF uP uL uT uA uM uH xA xB xC xD xE xF xG xH xI xJ xK xL uO G) 0 0) : ∀ (v1 : Int32) (v2 : Int32) (v3 : Int32) (v4 : Int32) (xF : sx_C), f_X12_rank_51 N k7 xA xE v1 v2 v3 v4 xF = some res → sx_At D b K YX12_rank (sx_rm 1) (sx_Ex (some (.int res.1)) (sx_hp b uG uN uD uR uF uP uL uT uA uM uH xA xB xC xD xE (res.2) xG xH xI xJ xK xL uO G)) 51 [(0, .ref (b + 38)), (1, .int v1), (2, .int v2), (3, .int v3), (4, .int v4)] [] (sx_hp b uG uN uD uR uF uP uL uT uA uM uH xA xB xC xD xE xF xG xH xI xJ xK xL uO G) 0 0 := by
  intro v1 v2 v3 v4 xF h
  rw [f_X12_rank_51] at h
  refine at_iinc 4 1 [(0, .ref (b + 38)), (1, .int v1), (2, .int v2), (3, .int v3), (4, .int (v4 + 1))] dX12_rank_51 rfl ic_1 (Nat.le_of_ble_eq_true rfl) rfl ?_
  refine at_goto 7 dX12_rank_54 (by decide) ?_
  exact hk7 _ _ _ _ _ h
set_option maxRecDepth 100000 in
theorem t_X12_rank_7 {D : va_G} {b : Nat} {K : State → Heap → Prop} {sa : Nat → Nat} (hK : sx_Kk b K sa) (N : Nat) {uG uN uD uR uF uP uL uT uA uM uH xA xB xC xD xE xG xH xI xJ xK xL uO : sx_C} {G : sx_H} (res : Int32 × sx_C) : ∀ (n0 : Nat) (v1 : Int32) (v2 : Int32) (v3 : Int32) (v4 : Int32) (xF : sx_C), f_X12_rank_7 N xA xE n0 v1 v2 v3 v4 xF = some res → sx_At D b K YX12_rank (sx_rm 1) (sx_Ex (some (.int res.1)) (sx_hp b uG uN uD uR uF uP uL uT uA uM uH xA xB xC xD xE (res.2) xG xH xI xJ xK xL uO G)) 7 [(0, .ref (b + 38)), (1, .int v1), (2, .int v2), (3, .int v3), (4, .int v4)] [] (sx_hp b uG uN uD uR uF uP uL uT uA uM uH xA xB xC xD xE xF xG xH xI xJ xK xL uO G) 0 0 := by
  intro n0
  induction n0 with
  | zero => intro _ _ _ _ _ h; cases h
  | succ n0 ih =>
    intro v1 v2 v3 v4 xF h
    rw [f_X12_rank_7] at h
    refine at_iload 4 dX12_rank_7 rfl ?_
    refine at_aload_n 0 dX12_rank_9 rfl ?_
    refine at_getf cl_X12 (by decide) fl_X12_198 hg_38 rfl dX12_rank_10 ?_
    refine at_icmp_ge 57 dX12_rank_13 (by decide) (fun c1 => ?_) (fun c1 => ?_)
    · rw [if_pos c1] at h
      refine at_iload_n 2 dX12_rank_57 rfl ?_
      cases h; exact at_iret rfl (Nat.le_refl _) (Nat.le_refl _) ⟨rfl, rfl⟩ dX12_rank_58
    · rw [if_neg c1] at h
      refine at_iload_n 1 dX12_rank_16 rfl ?_
      refine at_iload 4 dX12_rank_17 rfl ?_
      refine at_ishr dX12_rank_19 ?_
      refine at_iconst 1 dX12_rank_20 ic_1 ?_
      refine at_iand dX12_rank_21 ?_
      refine at_if_eq 51 dX12_rank_22 (by decide) (fun c2 => ?_) (fun c2 => ?_)
      · rw [if_pos c2] at h
        exact t_X12_rank_51 hK N _ ih _ _ _ _ _ h
      · rw [if_neg c2] at h
        refine at_aload_n 0 dX12_rank_25 rfl ?_
        refine at_iload_n 3 dX12_rank_26 rfl ?_
        refine at_iconst 1 dX12_rank_27 ic_1 ?_
        refine at_iload 4 dX12_rank_28 rfl ?_
        refine at_ishl dX12_rank_30 ?_
        refine at_ior dX12_rank_31 ?_
        obtain ⟨q3, hq3, h⟩ := sp_bind h
        refine at_callVi (st := []) hK mt_X12_isForest ml_X12_233 cl_X12 hg_38 (t_X12_isForest hK hq3) rfl rfl (Nat.le_of_ble_eq_true rfl) ⟨Nat.le_of_ble_eq_true rfl, Nat.le_of_ble_eq_true rfl⟩ ⟨Nat.le_refl _, Nat.le_refl _⟩ dX12_rank_32 ?_
        refine at_zne 41 dX12_rank_35 (by decide) (fun c4 => ?_) (fun c4 => ?_)
        · rw [if_pos c4] at h
          refine at_iload_n 3 dX12_rank_41 rfl ?_
          refine at_iconst 1 dX12_rank_42 ic_1 ?_
          refine at_iload 4 dX12_rank_43 rfl ?_
          refine at_ishl dX12_rank_45 ?_
          refine at_ior dX12_rank_46 ?_
          refine at_istore_n [(0, .ref (b + 38)), (1, .int v1), (2, .int v2), (3, .int (v3 ||| (sp_shl 1 v4))), (4, .int v4)] dX12_rank_47 (Nat.le_of_ble_eq_true rfl) rfl ?_
          refine at_iinc 2 1 [(0, .ref (b + 38)), (1, .int v1), (2, .int (v2 + 1)), (3, .int (v3 ||| (sp_shl 1 v4))), (4, .int v4)] dX12_rank_48 rfl ic_1 (Nat.le_of_ble_eq_true rfl) rfl ?_
          exact t_X12_rank_51 hK N _ ih _ _ _ _ _ h
        · rw [if_neg c4] at h
          refine at_goto 51 dX12_rank_38 (by decide) ?_
          exact t_X12_rank_51 hK N _ ih _ _ _ _ _ h
set_option maxRecDepth 100000 in
theorem t_X12_rank {D : va_G} {b : Nat} {K : State → Heap → Prop} {sa : Nat → Nat} (hK : sx_Kk b K sa) {N : Nat} {uG uN uD uR uF uP uL uT uA uM uH xA xB xC xD xE xG xH xI xJ xK xL uO : sx_C} {G : sx_H} {v1 : Int32} {xF : sx_C} {res : Int32 × sx_C} (h : f_X12_rank N xA xE v1 xF = some res) : sx_Runs D b K yX12_rank YX12_rank (sx_rm 1) [.ref (b + 38), .int v1] (sx_hp b uG uN uD uR uF uP uL uT uA uM uH xA xB xC xD xE xF xG xH xI xJ xK xL uO G) (sx_Ex (some (.int res.1)) (sx_hp b uG uN uD uR uF uP uL uT uA uM uH xA xB xC xD xE (res.2) xG xH xI xJ xK xL uO G)) := by
  rw [f_X12_rank] at h
  refine sx_run (by decide +kernel) rfl rfl (Nat.le_of_ble_eq_true rfl) ?_
  refine at_iconst 0 dX12_rank_0 ic_0 ?_
  refine at_istore_n [(0, .ref (b + 38)), (1, .int v1), (2, .int 0)] dX12_rank_1 (Nat.le_of_ble_eq_true rfl) rfl ?_
  refine at_iconst 0 dX12_rank_2 ic_0 ?_
  refine at_istore_n [(0, .ref (b + 38)), (1, .int v1), (2, .int 0), (3, .int 0)] dX12_rank_3 (Nat.le_of_ble_eq_true rfl) rfl ?_
  refine at_iconst 0 dX12_rank_4 ic_0 ?_
  refine at_istore [(0, .ref (b + 38)), (1, .int v1), (2, .int 0), (3, .int 0), (4, .int 0)] dX12_rank_5 (Nat.le_of_ble_eq_true rfl) rfl ?_
  exact t_X12_rank_7 hK N _ N _ _ _ _ _ h
set_option maxRecDepth 100000 in
theorem t_X12_bits {D : va_G} {b : Nat} {K : State → Heap → Prop} {sa : Nat → Nat} (hK : sx_Kk b K sa) {σ : sx_H} {v0 : Int32} {res : Int32} (h : f_X12_bits v0 = some res) : sx_Runs D b K yX12_bits YX12_bits (sx_rm 1) [.int v0] σ (sx_Ex (some (.int res)) σ) := by
  rw [f_X12_bits] at h
  refine sx_run (by decide +kernel) rfl rfl (Nat.le_of_ble_eq_true rfl) ?_
  refine at_iload_n 0 dX12_bits_0 rfl ?_
  obtain ⟨q1, hq1, h⟩ := sp_bind h
  refine at_callSi (st := []) hK mt_J6_bitCount_0f7a4 ml_X12_236 (t_J6_bitCount_0f7a4 hK hq1) rfl rfl (Nat.le_of_ble_eq_true rfl) ⟨Nat.le_of_ble_eq_true rfl, Nat.le_of_ble_eq_true rfl⟩ ⟨Nat.le_refl _, Nat.le_refl _⟩ dX12_bits_1 ?_
  cases h; exact at_iret rfl (Nat.le_refl _) (Nat.le_refl _) ⟨rfl, rfl⟩ dX12_bits_4
set_option maxRecDepth 100000 in
theorem t_X12_settles_47 {D : va_G} {b : Nat} {K : State → Heap → Prop} {sa : Nat → Nat} (hK : sx_Kk b K sa) (N : Nat) {k5 : Int32 → Int32 → sx_C → Option (sx_C)} {uG uN uD uR uF uP uL uT uA uM uH xA xB xC xD xE xF xH xI xJ xK xL uO : sx_C} {G : sx_H} (res : sx_C) (hk5 : ∀ (v3 : Int32) (v4 : Int32) (xG : sx_C), k5 v3 v4 xG = some res → sx_At D b K YX12_settles (sx_rm 0) (sx_Ex none (sx_hp b uG uN uD uR uF uP uL uT uA uM uH xA xB xC xD xE xF res xH xI xJ xK xL uO G)) 5 [(0, .ref (b + 38)), (3, .int v3), (4, .int v4)] [] (sx_hp b uG uN uD uR uF uP uL uT uA uM uH xA xB xC xD xE xF xG xH xI xJ xK xL uO G) 0 0) : ∀ (v3 : Int32) (v4 : Int32) (v5 : Int32) (v6 : Int32) (xG : sx_C), f_X12_settles_47 N k5 v3 v4 v5 v6 xG = some res → sx_At D b K YX12_settles (sx_rm 0) (sx_Ex none (sx_hp b uG uN uD uR uF uP uL uT uA uM uH xA xB xC xD xE xF res xH xI xJ xK xL uO G)) 47 [(0, .ref (b + 38)), (3, .int v3), (4, .int v4), (5, .int v5), (6, .int v6)] [] (sx_hp b uG uN uD uR uF uP uL uT uA uM uH xA xB xC xD xE xF xG xH xI xJ xK xL uO G) 0 0 := by
  intro v3 v4 v5 v6 xG h
  rw [f_X12_settles_47] at h
  refine at_aload_n 0 dX12_settles_47 rfl ?_
  refine at_getf cl_X12 (by decide) fl_X12_41 hg_38 rfl dX12_settles_48 ?_
  refine at_iload 2 dX12_settles_51 rfl ?_
  refine at_dup2 dX12_settles_53 rfl rfl ?_
  obtain ⟨w7, hw7, h⟩ := sp_bind h
  refine at_iald hg_48 hw7 dX12_settles_54 ?_
  refine at_iconst 1 dX12_settles_55 ic_1 ?_
  refine at_iload_n 1 dX12_settles_56 rfl ?_
  refine at_ishl dX12_settles_57 ?_
  refine at_ior dX12_settles_58 ?_
  obtain ⟨hi8, h⟩ := sp_chk h
  refine at_iast hg_48 hi8 hs_48 dX12_settles_59 ?_
  refine at_iload 4 dX12_settles_60 rfl ?_
  refine at_istore [(0, .ref (b + 38)), (3, .int v3), (4, .int v6), (5, .int v5), (6, .int v6)] dX12_settles_62 (Nat.le_of_ble_eq_true rfl) rfl ?_
  refine at_iload 3 dX12_settles_64 rfl ?_
  refine at_istore_n [(0, .ref (b + 38)), (3, .int v5), (4, .int v6), (5, .int v5), (6, .int v6)] dX12_settles_66 (Nat.le_of_ble_eq_true rfl) rfl ?_
  refine at_goto 5 dX12_settles_67 (by decide) ?_
  refine at_sub [0, 1, 2] [(0, .ref (b + 38)), (3, .int v5), (4, .int v6)] rfl ?_
  exact hk5 _ _ _ h
set_option maxRecDepth 100000 in
theorem t_X12_settles_5 {D : va_G} {b : Nat} {K : State → Heap → Prop} {sa : Nat → Nat} (hK : sx_Kk b K sa) (N : Nat) {uG uN uD uR uF uP uL uT uA uM uH xA xB xC xD xE xF xH xI xJ xK xL uO : sx_C} {G : sx_H} (res : sx_C) : ∀ (n0 : Nat) (v3 : Int32) (v4 : Int32) (xG : sx_C), f_X12_settles_5 N n0 v3 v4 xG = some res → sx_At D b K YX12_settles (sx_rm 0) (sx_Ex none (sx_hp b uG uN uD uR uF uP uL uT uA uM uH xA xB xC xD xE xF res xH xI xJ xK xL uO G)) 5 [(0, .ref (b + 38)), (3, .int v3), (4, .int v4)] [] (sx_hp b uG uN uD uR uF uP uL uT uA uM uH xA xB xC xD xE xF xG xH xI xJ xK xL uO G) 0 0 := by
  intro n0
  induction n0 with
  | zero => intro _ _ _ h; cases h
  | succ n0 ih =>
    intro v3 v4 xG h
    rw [f_X12_settles_5] at h
    refine at_iload_n 1 dX12_settles_5 rfl ?_
    refine at_iconst (-1) dX12_settles_6 ic_m1 ?_
    refine at_icmp_eq 70 dX12_settles_7 (by decide) (fun c1 => ?_) (fun c1 => ?_)
    · rw [if_pos c1] at h
      cases h; exact at_vret rfl (Nat.le_refl _) (Nat.le_refl _) ⟨rfl, rfl⟩ dX12_settles_70
    · rw [if_neg c1] at h
      refine at_aload_n 0 dX12_settles_10 rfl ?_
      refine at_getf cl_X12 (by decide) fl_X12_47 hg_38 rfl dX12_settles_11 ?_
      refine at_iload_n 1 dX12_settles_14 rfl ?_
      obtain ⟨w2, hw2, h⟩ := sp_bind h
      refine at_iald hg_50 hw2 dX12_settles_15 ?_
      refine at_istore [(0, .ref (b + 38)), (3, .int v3), (4, .int v4), (5, .int w2)] dX12_settles_16 (Nat.le_of_ble_eq_true rfl) rfl ?_
      refine at_aload_n 0 dX12_settles_18 rfl ?_
      refine at_getf cl_X12 (by decide) fl_X12_50 hg_38 rfl dX12_settles_19 ?_
      refine at_iload_n 1 dX12_settles_22 rfl ?_
      obtain ⟨w3, hw3, h⟩ := sp_bind h
      refine at_iald hg_51 hw3 dX12_settles_23 ?_
      refine at_istore [(0, .ref (b + 38)), (3, .int v3), (4, .int v4), (5, .int w2), (6, .int w3)] dX12_settles_24 (Nat.le_of_ble_eq_true rfl) rfl ?_
      refine at_iload 3 dX12_settles_26 rfl ?_
      refine at_iconst (-1) dX12_settles_28 ic_m1 ?_
      refine at_icmp_eq 47 dX12_settles_29 (by decide) (fun c4 => ?_) (fun c4 => ?_)
      · rw [if_pos c4] at h
        exact t_X12_settles_47 hK N _ ih _ _ _ _ _ h
      · rw [if_neg c4] at h
        refine at_aload_n 0 dX12_settles_32 rfl ?_
        refine at_getf cl_X12 (by decide) fl_X12_41 hg_38 rfl dX12_settles_33 ?_
        refine at_iload 4 dX12_settles_36 rfl ?_
        refine at_dup2 dX12_settles_38 rfl rfl ?_
        obtain ⟨w5, hw5, h⟩ := sp_bind h
        refine at_iald hg_48 hw5 dX12_settles_39 ?_
        refine at_iconst 1 dX12_settles_40 ic_1 ?_
        refine at_iload_n 1 dX12_settles_41 rfl ?_
        refine at_ishl dX12_settles_42 ?_
        refine at_iconst (-1) dX12_settles_43 ic_m1 ?_
        refine at_ixor dX12_settles_44 ?_
        refine at_iand dX12_settles_45 ?_
        obtain ⟨hi6, h⟩ := sp_chk h
        refine at_iast hg_48 hi6 hs_48 dX12_settles_46 ?_
        exact t_X12_settles_47 hK N _ ih _ _ _ _ _ h
set_option maxRecDepth 100000 in
theorem t_X12_settles {D : va_G} {b : Nat} {K : State → Heap → Prop} {sa : Nat → Nat} (hK : sx_Kk b K sa) {N : Nat} {uG uN uD uR uF uP uL uT uA uM uH xA xB xC xD xE xF xH xI xJ xK xL uO : sx_C} {G : sx_H} {v1 : Int32} {v2 : Int32} {xG : sx_C} {res : sx_C} (h : f_X12_settles N v1 v2 xG = some res) : sx_Runs D b K yX12_settles YX12_settles (sx_rm 0) [.ref (b + 38), .int v1, .int v2] (sx_hp b uG uN uD uR uF uP uL uT uA uM uH xA xB xC xD xE xF xG xH xI xJ xK xL uO G) (sx_Ex none (sx_hp b uG uN uD uR uF uP uL uT uA uM uH xA xB xC xD xE xF res xH xI xJ xK xL uO G)) := by
  rw [f_X12_settles] at h
  refine sx_run (by decide +kernel) rfl rfl (Nat.le_of_ble_eq_true rfl) ?_
  refine at_iload_n 1 dX12_settles_0 rfl ?_
  refine at_istore_n [(0, .ref (b + 38)), (1, .int v1), (2, .int v2), (3, .int v1)] dX12_settles_1 (Nat.le_of_ble_eq_true rfl) rfl ?_
  refine at_iload_n 2 dX12_settles_2 rfl ?_
  refine at_istore [(0, .ref (b + 38)), (1, .int v1), (2, .int v2), (3, .int v1), (4, .int v2)] dX12_settles_3 (Nat.le_of_ble_eq_true rfl) rfl ?_
  refine at_sub [0, 3, 4] [(0, .ref (b + 38)), (3, .int v1), (4, .int v2)] rfl ?_
  exact t_X12_settles_5 hK N _ N _ _ _ h
