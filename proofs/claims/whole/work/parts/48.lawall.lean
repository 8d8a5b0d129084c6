/-! ===== the law from its start ===== -/
def z_0 : sx_C := ((fun _ => 0), (fun _ _ => 0), (fun _ => 0), (fun _ _ => 0))
def z_uG : sx_C := ((fun k => if k = 14 then 1 else if k = 16 then -1 else 0), (fun _ _ => 0), (fun _ => 0), (fun _ _ => 0))
def z_uN : sx_C := ((fun k => if k = 2 then 2 else if k = 4 then 1 else if k = 9 then 1 else 0), (fun _ _ => 0), (fun _ => 0), (fun _ _ => 0))
def z_uD : sx_C := ((fun k => if k = 2 then 2 else if k = 4 then 1 else if k = 9 then 1 else 0), (fun _ _ => 0), (fun _ => 0), (fun _ _ => 0))
def z_uR : sx_C := ((fun k => if k = 12 then -1 else 0), (fun _ _ => 0), (fun _ => 0), (fun _ _ => 0))
def z_x : sx_C := ((fun k => if k = 3 then 2 else if k = 10 then 1 else if k = 11 then 1 else if k = 35 then -1 else 0), (fun _ _ => 0), (fun _ => 0), (fun _ _ => 0))
theorem lw_vp {i j : Int32} {L : Nat} (h0 : 0 ≤ i.toInt) (h1 : i.toInt + 6 ≤ L) (hL : L ≤ 3072) (hj0 : 0 ≤ j) (hj : j ≤ 5) : vp_in (i + j) L := by
  rw [Int32.le_iff_toInt_le] at hj0 hj
  have e0 : (0 : Int32).toInt = 0 := by decide
  have e5 : (5 : Int32).toInt = 5 := by decide
  rw [e0] at hj0
  rw [e5] at hj
  have ha : (i + j).toInt = i.toInt + j.toInt := by
    rw [Int32.toInt_add]
    exact Int.bmod_eq_of_le (by omega) (by omega)
  intro h
  rcases h with h | h
  · rw [Int32.lt_iff_toInt_lt, ha, e0] at h
    omega
  · have hc : (i + j).toNatClampNeg = (i.toInt + j.toInt).toNat := by
      show (i + j).toInt.toNat = _
      rw [ha]
    rw [hc] at h
    omega
section
variable {D : va_G} {b : Nat} {K : State → Heap → Prop} {sa : Nat → Nat} {bb L : Nat} {xs : Nat → Int32} {N : Nat} {I : sx_I}

set_option maxRecDepth 10000 in
theorem t_law_sw {i : Int32} {uG uN uD uR uF uP uL uT uA uM uH xA xB xC xD xE xF xG xH xI xJ xK xL uO : sx_C} {G : sx_H} {k n : Nat} (hK : sx_Kk b K sa) (hE : ∀ (U : State) (H : Heap), K U H → sx_KE b sa U H) (ho : LO N I) (hI : I uG uN uD uR uF uP uL uT uA uM uH xA xB xC xD xE xF xG xH xI xJ xK xL) (hX : ∀ (U : State) (H : Heap), K U H → va_X bb L xs U H) (hbb : bb < b) (hin : ∀ j : Int32, 0 ≤ j → j ≤ 5 → vp_in (i + j) L) (hk : k + 1 ≤ room_1.cells) (hn : n + 14 ≤ room_1.slots) (hnx : L_next D b K bb i I k n) (x : Int32) : sx_At D b K YL_law room_1 L_Q 40 (L_lv b bb i) [.int x] (sx_hp b uG uN uD uR uF uP uL uT uA uM uH xA xB xC xD xE xF xG xH xI xJ xK xL uO G) k n := by
  obtain ⟨o_feed, o_text, o_fault, o_line, o_place, o_reaches, o_move, o_pass, o_undo, o_written, o_now, o_pair, o_outcome, o_wins, o_answer, o_exchange, o_played, o_verified, o_full, o_positions, o_wall, o_road, o_lucky, o_luckyWith, o_trees, o_treesWith, o_idle, o_ifLine, o_ifMore, o_ifEnds, o_lacks, o_cutAnswer, o_verifiedForCut, o_pivots, o_needed, o_walls, o_set, o_alike, o_strong, o_forests, o_duel, o_chance, o_count⟩ := ho
  by_cases hr : x.toInt < 0 ∨ 42 < x.toInt
  · exact at_tbOut 1406 dL_law_40 hr (by decide) (hnx uG uN uD uR uF uP uL uT uA uM uH xA xB xC xD xE xF xG xH xI xJ xK xL uO G k n hI (Nat.le_succ _) (Nat.le_add_right _ _))
  · obtain ⟨j, hj, hx⟩ : ∃ j : Nat, j < 43 ∧ x = nI j := ⟨x.toInt.toNat, by omega, by
      apply Int32.toInt_inj.mp
      rw [nI_toInt (by omega)]
      omega⟩
    match j, hj with
    | 0, _ => exact at_tbC (v := 0) (off := 188) hx 228 dL_law_40 (by decide) (by decide) rfl (by decide) (lc_feed hK o_feed hI hX hbb hin hk hn hnx)
    | 1, _ => exact at_tbC (v := 1) (off := 261) hx 301 dL_law_40 (by decide) (by decide) rfl (by decide) (lc_text hK o_text hI hX hbb hin hk hn hnx)
    | 2, _ => exact at_tbC (v := 2) (off := 286) hx 326 dL_law_40 (by decide) (by decide) rfl (by decide) (lc_fault hK o_fault hI hX hbb hin hk hn hnx)
    | 3, _ => exact at_tbC (v := 3) (off := 311) hx 351 dL_law_40 (by decide) (by decide) rfl (by decide) (lc_line hK hE o_line hI hX hbb hin hk hn hnx)
    | 4, _ => exact at_tbC (v := 4) (off := 379) hx 419 dL_law_40 (by decide) (by decide) rfl (by decide) (lc_place hK o_place hI hX hbb hin hk hn hnx)
    | 5, _ => exact at_tbC (v := 5) (off := 404) hx 444 dL_law_40 (by decide) (by decide) rfl (by decide) (lc_reaches hK o_reaches hI hX hbb hin hk hn hnx)
    | 6, _ => exact at_tbC (v := 6) (off := 441) hx 481 dL_law_40 (by decide) (by decide) rfl (by decide) (lc_move hK o_move hI hX hbb hin hk hn hnx)
    | 7, _ => exact at_tbC (v := 7) (off := 466) hx 506 dL_law_40 (by decide) (by decide) rfl (by decide) (lc_pass hK o_pass hI hX hbb hin hk hn hnx)
    | 8, _ => exact at_tbC (v := 8) (off := 479) hx 519 dL_law_40 (by decide) (by decide) rfl (by decide) (lc_undo hK o_undo hI hX hbb hin hk hn hnx)
    | 9, _ => exact at_tbC (v := 9) (off := 492) hx 532 dL_law_40 (by decide) (by decide) rfl (by decide) (lc_written hK o_written hI hX hbb hin hk hn hnx)
    | 10, _ => exact at_tbC (v := 10) (off := 517) hx 557 dL_law_40 (by decide) (by decide) rfl (by decide) (lc_now hK o_now hI hX hbb hin hk hn hnx)
    | 11, _ => exact at_tbC (v := 11) (off := 542) hx 582 dL_law_40 (by decide) (by decide) rfl (by decide) (lc_pair hK o_pair hI hX hbb hin hk hn hnx)
    | 12, _ => exact at_tbC (v := 12) (off := 567) hx 607 dL_law_40 (by decide) (by decide) rfl (by decide) (lc_outcome hK o_outcome hI hX hbb hin hk hn hnx)
    | 13, _ => exact at_tbC (v := 13) (off := 580) hx 620 dL_law_40 (by decide) (by decide) rfl (by decide) (lc_wins hK o_wins hI hX hbb hin hk hn hnx)
    | 14, _ => exact at_tbC (v := 14) (off := 617) hx 657 dL_law_40 (by decide) (by decide) rfl (by decide) (lc_answer hK o_answer hI hX hbb hin hk hn hnx)
    | 15, _ => exact at_tbC (v := 15) (off := 642) hx 682 dL_law_40 (by decide) (by decide) rfl (by decide) (lc_exchange hK o_exchange hI hX hbb hin hk hn hnx)
    | 16, _ => exact at_tbC (v := 16) (off := 667) hx 707 dL_law_40 (by decide) (by decide) rfl (by decide) (lc_played hK o_played hI hX hbb hin hk hn hnx)
    | 17, _ => exact at_tbC (v := 17) (off := 692) hx 732 dL_law_40 (by decide) (by decide) rfl (by decide) (lc_verified hK o_verified hI hX hbb hin hk hn hnx)
    | 18, _ => exact at_tbC (v := 18) (off := 717) hx 757 dL_law_40 (by decide) (by decide) rfl (by decide) (lc_full hK o_full hI hX hbb hin hk hn hnx)
    | 19, _ => exact at_tbC (v := 19) (off := 742) hx 782 dL_law_40 (by decide) (by decide) rfl (by decide) (lc_positions hK o_positions hI hX hbb hin hk hn hnx)
    | 20, _ => exact at_tbC (v := 20) (off := 767) hx 807 dL_law_40 (by decide) (by decide) rfl (by decide) (lc_wall hK o_wall hI hX hbb hin hk hn hnx)
    | 21, _ => exact at_tbC (v := 21) (off := 792) hx 832 dL_law_40 (by decide) (by decide) rfl (by decide) (lc_road hK o_road hI hX hbb hin hk hn hnx)
    | 22, _ => exact at_tbC (v := 22) (off := 817) hx 857 dL_law_40 (by decide) (by decide) rfl (by decide) (lc_lucky hK o_lucky hI hX hbb hin hk hn hnx)
    | 23, _ => exact at_tbC (v := 23) (off := 842) hx 882 dL_law_40 (by decide) (by decide) rfl (by decide) (lc_luckyWith hK o_luckyWith hI hX hbb hin hk hn hnx)
    | 24, _ => exact at_tbC (v := 24) (off := 867) hx 907 dL_law_40 (by decide) (by decide) rfl (by decide) (lc_trees hK o_trees hI hX hbb hin hk hn hnx)
    | 25, _ => exact at_tbC (v := 25) (off := 880) hx 920 dL_law_40 (by decide) (by decide) rfl (by decide) (lc_treesWith hK o_treesWith hI hX hbb hin hk hn hnx)
    | 26, _ => exact at_tbC (v := 26) (off := 905) hx 945 dL_law_40 (by decide) (by decide) rfl (by decide) (lc_idle hK o_idle hI hX hbb hin hk hn hnx)
    | 27, _ => exact at_tbC (v := 27) (off := 930) hx 970 dL_law_40 (by decide) (by decide) rfl (by decide) (lc_ifLine hK o_ifLine hI hX hbb hin hk hn hnx)
    | 28, _ => exact at_tbC (v := 28) (off := 967) hx 1007 dL_law_40 (by decide) (by decide) rfl (by decide) (lc_ifMore hK o_ifMore hI hX hbb hin hk hn hnx)
    | 29, _ => exact at_tbC (v := 29) (off := 1004) hx 1044 dL_law_40 (by decide) (by decide) rfl (by decide) (lc_ifEnds hK o_ifEnds hI hX hbb hin hk hn hnx)
    | 30, _ => exact at_tbC (v := 30) (off := 1041) hx 1081 dL_law_40 (by decide) (by decide) rfl (by decide) (lc_lacks hK o_lacks hI hX hbb hin hk hn hnx)
    | 31, _ => exact at_tbC (v := 31) (off := 1054) hx 1094 dL_law_40 (by decide) (by decide) rfl (by decide) (lc_cutAnswer hK o_cutAnswer hI hX hbb hin hk hn hnx)
    | 32, _ => exact at_tbC (v := 32) (off := 1079) hx 1119 dL_law_40 (by decide) (by decide) rfl (by decide) (lc_verifiedForCut hK o_verifiedForCut hI hX hbb hin hk hn hnx)
    | 33, _ => exact at_tbC (v := 33) (off := 1104) hx 1144 dL_law_40 (by decide) (by decide) rfl (by decide) (lc_pivots hK o_pivots hI hX hbb hin hk hn hnx)
    | 34, _ => exact at_tbC (v := 34) (off := 1129) hx 1169 dL_law_40 (by decide) (by decide) rfl (by decide) (lc_needed hK o_needed hI hX hbb hin hk hn hnx)
    | 35, _ => exact at_tbC (v := 35) (off := 1142) hx 1182 dL_law_40 (by decide) (by decide) rfl (by decide) (lc_walls hK o_walls hI hX hbb hin hk hn hnx)
    | 36, _ => exact at_tbC (v := 36) (off := 1167) hx 1207 dL_law_40 (by decide) (by decide) rfl (by decide) (lc_set hK o_set hI hX hbb hin hk hn hnx)
    | 37, _ => exact at_tbC (v := 37) (off := 1192) hx 1232 dL_law_40 (by decide) (by decide) rfl (by decide) (lc_alike hK o_alike hI hX hbb hin hk hn hnx)
    | 38, _ => exact at_tbC (v := 38) (off := 1229) hx 1269 dL_law_40 (by decide) (by decide) rfl (by decide) (lc_strong hK o_strong hI hX hbb hin hk hn hnx)
    | 39, _ => exact at_tbC (v := 39) (off := 1254) hx 1294 dL_law_40 (by decide) (by decide) rfl (by decide) (lc_forests hK o_forests hI hX hbb hin hk hn hnx)
    | 40, _ => exact at_tbC (v := 40) (off := 1279) hx 1319 dL_law_40 (by decide) (by decide) rfl (by decide) (lc_duel hK o_duel hI hX hbb hin hk hn hnx)
    | 41, _ => exact at_tbC (v := 41) (off := 1304) hx 1344 dL_law_40 (by decide) (by decide) rfl (by decide) (lc_chance hK o_chance hI hX hbb hin hk hn hnx)
    | 42, _ => exact at_tbC (v := 42) (off := 1341) hx 1381 dL_law_40 (by decide) (by decide) rfl (by decide) (lc_count hK o_count hI hX hbb hin hk hn hnx)
    | q + 43, h => exact absurd h (by omega)
theorem t_law_loop (hK : sx_Kk b K sa) (hE : ∀ (U : State) (H : Heap), K U H → sx_KE b sa U H) (ho : LO N I) (hX : ∀ (U : State) (H : Heap), K U H → va_X bb L xs U H) (hbb : bb < b) (hL : L ≤ 3072) : ∀ (q : Nat) (i : Int32) (uG uN uD uR uF uP uL uT uA uM uH xA xB xC xD xE xF xG xH xI xJ xK xL uO : sx_C) (G : sx_H) (k n : Nat), I uG uN uD uR uF uP uL uT uA uM uH xA xB xC xD xE xF xG xH xI xJ xK xL → 0 ≤ i.toInt → (L : Int) ≤ i.toInt + 6 * q + 5 → i.toInt ≤ 10000 → k + q ≤ 601024 → n + 14 * q ≤ 7293034 → sx_At D b K YL_law room_1 L_Q 23 (L_lv b bb i) [] (sx_hp b uG uN uD uR uF uP uL uT uA uM uH xA xB xC xD xE xF xG xH xI xJ xK xL uO G) k n := by
  intro q
  induction q with
  | zero =>
    intro i uG uN uD uR uF uP uL uT uA uM uH xA xB xC xD xE xF xG xH xI xJ xK xL uO G k n hI h0 h1 h2 hk hn
    refine at_iload 4 dL_law_23 rfl ?_
    refine at_aload_n 0 dL_law_25 rfl ?_
    refine at_scrl hX hbb dL_law_26 ?_
    refine at_bipush 6 dL_law_27 rfl ?_
    refine at_isub dL_law_29 ?_
    refine at_icmp_gt 1412 dL_law_30 rfl (fun _ => ?_) (fun c => ?_)
    · refine at_iconst 1 dL_law_1412 rfl ?_
      exact at_zret rfl rfl hk hn rfl dL_law_1413
    · exfalso
      apply c
      rw [Int32.lt_iff_toInt_lt, Int32.toInt_sub, show (Int32.ofNat L).toInt = (L : Int) from nI_toInt (by omega), show (6 : Int32).toInt = 6 by decide, Int.bmod_eq_of_le (by omega) (by omega)]
      omega
  | succ q ih =>
    intro i uG uN uD uR uF uP uL uT uA uM uH xA xB xC xD xE xF xG xH xI xJ xK xL uO G k n hI h0 h1 h2 hk hn
    have hk1 : k ≤ room_1.cells := by show k ≤ 601024; omega
    have hn1 : n ≤ room_1.slots := by show n ≤ 7293034; omega
    refine at_iload 4 dL_law_23 rfl ?_
    refine at_aload_n 0 dL_law_25 rfl ?_
    refine at_scrl hX hbb dL_law_26 ?_
    refine at_bipush 6 dL_law_27 rfl ?_
    refine at_isub dL_law_29 ?_
    refine at_icmp_gt 1412 dL_law_30 rfl (fun _ => ?_) (fun c => ?_)
    · refine at_iconst 1 dL_law_1412 rfl ?_
      exact at_zret rfl rfl hk1 hn1 rfl dL_law_1413
    · rw [Int32.lt_iff_toInt_lt, Int32.toInt_sub, show (Int32.ofNat L).toInt = (L : Int) from nI_toInt (by omega), show (6 : Int32).toInt = 6 by decide, Int.bmod_eq_of_le (by omega) (by omega)] at c
      have h6 : i.toInt + 6 ≤ (L : Int) := by omega
      have hin : ∀ j : Int32, 0 ≤ j → j ≤ 5 → vp_in (i + j) L := fun j hj0 hj => lw_vp h0 h6 hL hj0 hj
      have hin0 : vp_in i L := by
        have h := hin 0 (by decide) (by decide)
        rw [show i + 0 = i by apply Int32.toInt_inj.mp; rw [Int32.toInt_add, show (0 : Int32).toInt = 0 by decide, Int.add_zero]; exact Int.bmod_eq_of_le (by omega) (by omega)] at h
        exact h
      refine at_aload_n 0 dL_law_33 rfl ?_
      refine at_iload 4 dL_law_34 rfl ?_
      refine at_scr hX hbb hin0 dL_law_36 ?_
      refine at_bipush 63 dL_law_37 rfl ?_
      refine at_iand dL_law_39 ?_
      refine t_law_sw hK hE ho hI hX hbb hin (by show k + 1 ≤ 601024; omega) (by show n + 14 ≤ 7293034; omega) ?_ _
      intro uG uN uD uR uF uP uL uT uA uM uH xA xB xC xD xE xF xG xH xI xJ xK xL uO G k1 n1 hI2 hk2 hn2
      have hi6 : (i + 6).toInt = i.toInt + 6 := by
        rw [Int32.toInt_add, show (6 : Int32).toInt = 6 by decide]
        exact Int.bmod_eq_of_le (by omega) (by omega)
      refine at_iinc 4 6 (L_lv b bb (i + 6)) dL_law_1406 rfl rfl (Nat.le_of_ble_eq_true rfl) rfl ?_
      refine at_goto 23 dL_law_1409 rfl ?_
      exact ih (i + 6) uG uN uD uR uF uP uL uT uA uM uH xA xB xC xD xE xF xG xH xI xJ xK xL uO G k1 n1 hI2 (by rw [hi6]; omega) (by rw [hi6]; omega) (by rw [hi6]; omega) (by omega) (by omega)

set_option maxRecDepth 100000 in
theorem t_law_all (hK : sx_Kk b K sa) (hE : ∀ (U : State) (H : Heap), K U H → sx_KE b sa U H) (ho : LO N I) (hI : I z_uG z_uN z_uD z_uR z_0 z_0 z_0 z_0 z_0 z_0 z_0 z_x z_x z_x z_x z_x z_x z_x z_x z_x z_x z_x z_x) (hX : ∀ (U : State) (H : Heap), K U H → va_X bb L xs U H) (hbb : bb < b) (hL : L ≤ 3072) : sx_At D b K YL_law room_1 L_Q 0 [(0, .ref bb)] [] [] 0 0 := by
  have hAO : ∀ (U : State) (H : Heap), K U H → va_AOA .long U := fun U H h => (hE U H h).1
  refine at_new (fs := [.null, .null, .null, .null, .null, .null, .null, .null, .null, .null, .null, .int 0, .int 0, .int 0, .int 0, .int 0, .int 0]) cl_X11 ck_L_8 it_X11 iz_X11 (by decide +kernel) (Nat.le_of_ble_eq_true rfl) (Nat.le_of_ble_eq_true rfl) dL_law_0 ?_
  show sx_At D b K YL_law room_1 L_Q 3 [(0, .ref bb)] [.ref (b + 0)] [.inr (10, [.null, .null, .null, .null, .null, .null, .null, .null, .null, .null, .null, .int 0, .int 0, .int 0, .int 0, .int 0, .int 0])] 1 17
  refine at_dup dL_law_3 rfl ?_
  refine at_callI (st := [.ref (b + 0)]) hK.1 mt_X11_init rfl rfl ml_L_17 (cs_1_X11_init (D := D) hK hAO) rfl rfl (Nat.le_of_ble_eq_true rfl) ⟨(Nat.le_of_ble_eq_true rfl), (Nat.le_of_ble_eq_true rfl)⟩ ⟨(Nat.le_of_ble_eq_true rfl), (Nat.le_of_ble_eq_true rfl)⟩ dL_law_4 ?_
  show sx_At D b K YL_law room_1 L_Q 7 [(0, .ref bb)] [.ref (b + 0)] [cc_0 b, cc_1 b, cc_2 b, cc_3 b, cc_4 b, cc_5 b, cc_6 b, cc_7 b, cc_8 b, cc_9 b, cc_10 b, cc_11 b, cc_12 b, cc_13 b, cc_14 b, cc_15 b, cc_16 b, cc_17 b, cc_18 b, cc_19 b, cc_20 b, cc_21 b, cc_22 b, cc_23 b, cc_24 b, cc_25 b, cc_26 b, cc_27 b, cc_28 b, cc_29 b, cc_30 b, cc_31 b, cc_32 b, cc_33 b, cc_34 b, cc_35 b, cc_36 b, cc_37 b] 38 3529
  refine at_astore_n [(0, .ref bb), (1, .ref (b + 0))] dL_law_7 (Nat.le_of_ble_eq_true rfl) rfl ?_
  refine at_new (fs := [.int 0, .null, .int 0, .int 0, .int 0, .null, .null, .int 0, .int 0, .int 0, .int 0, .int 0, .int 0, .null, .int 0, .int 0, .int 0, .null, .null, .int 0, .int 0, .int 0, .int 0, .int 0, .int 0, .int 0, .int 0, .int 0, .int 0, .int 0, .int 0, .int 0, .int 0, .int 0, .int 0, .int 0, .null, .null, .null, .null, .null, .null, .null, .int 0, .int 0, .int 0, .null, .int 0, .int 0, .int 0, .null, .null, .long 0]) cl_X12 ck_L_18 it_X12 iz_X12 (by decide +kernel) (Nat.le_of_ble_eq_true rfl) (Nat.le_of_ble_eq_true rfl) dL_law_8 ?_
  show sx_At D b K YL_law room_1 L_Q 11 [(0, .ref bb), (1, .ref (b + 0))] [.ref (b + 38)] [cc_0 b, cc_1 b, cc_2 b, cc_3 b, cc_4 b, cc_5 b, cc_6 b, cc_7 b, cc_8 b, cc_9 b, cc_10 b, cc_11 b, cc_12 b, cc_13 b, cc_14 b, cc_15 b, cc_16 b, cc_17 b, cc_18 b, cc_19 b, cc_20 b, cc_21 b, cc_22 b, cc_23 b, cc_24 b, cc_25 b, cc_26 b, cc_27 b, cc_28 b, cc_29 b, cc_30 b, cc_31 b, cc_32 b, cc_33 b, cc_34 b, cc_35 b, cc_36 b, cc_37 b, .inr (11, [.int 0, .null, .int 0, .int 0, .int 0, .null, .null, .int 0, .int 0, .int 0, .int 0, .int 0, .int 0, .null, .int 0, .int 0, .int 0, .null, .null, .int 0, .int 0, .int 0, .int 0, .int 0, .int 0, .int 0, .int 0, .int 0, .int 0, .int 0, .int 0, .int 0, .int 0, .int 0, .int 0, .int 0, .null, .null, .null, .null, .null, .null, .null, .int 0, .int 0, .int 0, .null, .int 0, .int 0, .int 0, .null, .null, .long 0])] 39 3582
  refine at_dup dL_law_11 rfl ?_
  refine at_callI (st := [.ref (b + 38)]) hK.1 mt_X12_init rfl rfl ml_L_20 (cs_15_X12_init (D := D) hK hAO) rfl rfl (Nat.le_of_ble_eq_true rfl) ⟨(Nat.le_of_ble_eq_true rfl), (Nat.le_of_ble_eq_true rfl)⟩ ⟨(Nat.le_of_ble_eq_true rfl), (Nat.le_of_ble_eq_true rfl)⟩ dL_law_12 ?_
  refine at_astore_n [(0, .ref bb), (1, .ref (b + 0)), (2, .ref (b + 38))] dL_law_15 (Nat.le_of_ble_eq_true rfl) rfl ?_
  refine at_iconst 1 dL_law_16 rfl ?_
  refine at_newa (at_ := .long) (N := 1) (a0 := (1, .inr (.inl (fun _ => 0)))) ac_long rfl (fun _ => rfl) (by decide) (by decide) (by decide) (Nat.le_of_ble_eq_true rfl) (Nat.le_of_ble_eq_true rfl) dL_law_17 ?_
  refine at_astore_n (x := b + 55) [(0, .ref bb), (1, .ref (b + 0)), (2, .ref (b + 38)), (3, .ref (b + 55))] dL_law_19 (Nat.le_of_ble_eq_true rfl) rfl ?_
  refine at_iconst 0 dL_law_20 rfl ?_
  refine at_istore (L_lv b bb 0) dL_law_21 (Nat.le_of_ble_eq_true rfl) rfl ?_
  have h00 : (0 : Int32).toInt = 0 := by decide
  exact t_law_loop (D := D) hK hE ho hX hbb hL 512 0 z_uG z_uN z_uD z_uR z_0 z_0 z_0 z_0 z_0 z_0 z_0 z_x z_x z_x z_x z_x z_x z_x z_x z_x z_x z_x z_x z_0 [] _ _ hI (by decide) (by rw [h00]; omega) (by decide) (Nat.le_of_ble_eq_true rfl) (Nat.le_of_ble_eq_true rfl)
end
