theorem ck_L_8 : Cond.classLink RL 8 RX11 ∈ sx_tb := sx_in (List.mem_of_getElem? (i := 199) (by decide +kernel)) rfl
theorem it_X11 : Cond.instantiable RX11 17 ∈ sx_tb := sx_in (List.mem_of_getElem? (i := 200) (by decide +kernel)) rfl
theorem ml_L_17 : sx_ML RL 17 yX11_init := Or.inl (sx_in (List.mem_of_getElem? (i := 201) (by decide +kernel)) rfl)
theorem oi_X11 : Cond.methodLink RX11 1 Lib.objectInit ∈ sx_tb := sx_in (List.mem_of_getElem? (i := 204) (by decide +kernel)) rfl
theorem ck_X11_13 : Cond.classLink RX11 13 RX6 ∈ sx_tb := sx_in (List.mem_of_getElem? (i := 207) (by decide +kernel)) rfl
theorem it_X6 : Cond.instantiable RX6 10 ∈ sx_tb := sx_in (List.mem_of_getElem? (i := 208) (by decide +kernel)) rfl
theorem ml_X11_15 : sx_ML RX11 15 yX6_init := Or.inr ⟨"SwitchGame", sx_in (List.mem_of_getElem? (i := 209) (by decide +kernel)) rfl⟩
theorem oi_X6 : Cond.methodLink RX6 3 Lib.objectInit ∈ sx_tb := sx_in (List.mem_of_getElem? (i := 212) (by decide +kernel)) rfl
theorem ml_X6_18 : sx_ML RX6 18 yX6_wipe := Or.inl (sx_in (List.mem_of_getElem? (i := 213) (by decide +kernel)) rfl)
theorem ac_byte : Cond.arrayClass .byte ∈ sx_tb := sx_in (List.mem_of_getElem? (i := 278) (by decide +kernel)) rfl
theorem ac_int : Cond.arrayClass .int ∈ sx_tb := sx_in (List.mem_of_getElem? (i := 279) (by decide +kernel)) rfl
theorem ck_X11_23 : Cond.classLink RX11 23 RX9 ∈ sx_tb := sx_in (List.mem_of_getElem? (i := 280) (by decide +kernel)) rfl
theorem it_X9 : Cond.instantiable RX9 13 ∈ sx_tb := sx_in (List.mem_of_getElem? (i := 281) (by decide +kernel)) rfl
theorem ml_X11_25 : sx_ML RX11 25 yX9_init := Or.inr ⟨"SwitchGame", sx_in (List.mem_of_getElem? (i := 282) (by decide +kernel)) rfl⟩
theorem oi_X9 : Cond.methodLink RX9 3 Lib.objectInit ∈ sx_tb := sx_in (List.mem_of_getElem? (i := 285) (by decide +kernel)) rfl
theorem ck_X11_32 : Cond.classLink RX11 32 RX0 ∈ sx_tb := sx_in (List.mem_of_getElem? (i := 328) (by decide +kernel)) rfl
theorem it_X0 : Cond.instantiable RX0 9 ∈ sx_tb := sx_in (List.mem_of_getElem? (i := 329) (by decide +kernel)) rfl
theorem ml_X11_34 : sx_ML RX11 34 yX0_init := Or.inr ⟨"SwitchGame", sx_in (List.mem_of_getElem? (i := 330) (by decide +kernel)) rfl⟩
theorem oi_X0 : Cond.methodLink RX0 3 Lib.objectInit ∈ sx_tb := sx_in (List.mem_of_getElem? (i := 333) (by decide +kernel)) rfl
theorem ck_X11_39 : Cond.classLink RX11 39 RX3 ∈ sx_tb := sx_in (List.mem_of_getElem? (i := 366) (by decide +kernel)) rfl
theorem it_X3 : Cond.instantiable RX3 2 ∈ sx_tb := sx_in (List.mem_of_getElem? (i := 367) (by decide +kernel)) rfl
theorem ml_X11_41 : sx_ML RX11 41 yX3_init := Or.inr ⟨"SwitchGame", sx_in (List.mem_of_getElem? (i := 368) (by decide +kernel)) rfl⟩
theorem oi_X3 : Cond.methodLink RX3 3 Lib.objectInit ∈ sx_tb := sx_in (List.mem_of_getElem? (i := 371) (by decide +kernel)) rfl
theorem ck_X11_48 : Cond.classLink RX11 48 RX7 ∈ sx_tb := sx_in (List.mem_of_getElem? (i := 379) (by decide +kernel)) rfl
theorem it_X7 : Cond.instantiable RX7 6 ∈ sx_tb := sx_in (List.mem_of_getElem? (i := 380) (by decide +kernel)) rfl
theorem ml_X11_50 : sx_ML RX11 50 yX7_init := Or.inr ⟨"SwitchGame", sx_in (List.mem_of_getElem? (i := 381) (by decide +kernel)) rfl⟩
theorem oi_X7 : Cond.methodLink RX7 3 Lib.objectInit ∈ sx_tb := sx_in (List.mem_of_getElem? (i := 384) (by decide +kernel)) rfl
theorem ck_X11_55 : Cond.classLink RX11 55 RX4 ∈ sx_tb := sx_in (List.mem_of_getElem? (i := 407) (by decide +kernel)) rfl
theorem it_X4 : Cond.instantiable RX4 9 ∈ sx_tb := sx_in (List.mem_of_getElem? (i := 408) (by decide +kernel)) rfl
theorem ml_X11_57 : sx_ML RX11 57 yX4_init := Or.inr ⟨"SwitchGame", sx_in (List.mem_of_getElem? (i := 409) (by decide +kernel)) rfl⟩
theorem oi_X4 : Cond.methodLink RX4 3 Lib.objectInit ∈ sx_tb := sx_in (List.mem_of_getElem? (i := 412) (by decide +kernel)) rfl
theorem ck_X11_64 : Cond.classLink RX11 64 RX10 ∈ sx_tb := sx_in (List.mem_of_getElem? (i := 442) (by decide +kernel)) rfl
theorem it_X10 : Cond.instantiable RX10 4 ∈ sx_tb := sx_in (List.mem_of_getElem? (i := 443) (by decide +kernel)) rfl
theorem ml_X11_66 : sx_ML RX11 66 yX10_init := Or.inr ⟨"SwitchGame", sx_in (List.mem_of_getElem? (i := 444) (by decide +kernel)) rfl⟩
theorem oi_X10 : Cond.methodLink RX10 3 Lib.objectInit ∈ sx_tb := sx_in (List.mem_of_getElem? (i := 447) (by decide +kernel)) rfl
theorem ac_long : Cond.arrayClass .long ∈ sx_tb := sx_in (List.mem_of_getElem? (i := 463) (by decide +kernel)) rfl
theorem ck_X11_71 : Cond.classLink RX11 71 RX1 ∈ sx_tb := sx_in (List.mem_of_getElem? (i := 464) (by decide +kernel)) rfl
theorem it_X1 : Cond.instantiable RX1 5 ∈ sx_tb := sx_in (List.mem_of_getElem? (i := 465) (by decide +kernel)) rfl
theorem ml_X11_73 : sx_ML RX11 73 yX1_init := Or.inr ⟨"SwitchGame", sx_in (List.mem_of_getElem? (i := 466) (by decide +kernel)) rfl⟩
theorem oi_X1 : Cond.methodLink RX1 5 Lib.objectInit ∈ sx_tb := sx_in (List.mem_of_getElem? (i := 469) (by decide +kernel)) rfl
theorem ck_X1_11 : Cond.classLink RX1 11 RX5 ∈ sx_tb := sx_in (List.mem_of_getElem? (i := 470) (by decide +kernel)) rfl
theorem it_X5 : Cond.instantiable RX5 2 ∈ sx_tb := sx_in (List.mem_of_getElem? (i := 471) (by decide +kernel)) rfl
theorem ml_X1_13 : sx_ML RX1 13 yX5_init := Or.inr ⟨"SwitchGame", sx_in (List.mem_of_getElem? (i := 472) (by decide +kernel)) rfl⟩
theorem oi_X5 : Cond.methodLink RX5 3 Lib.objectInit ∈ sx_tb := sx_in (List.mem_of_getElem? (i := 475) (by decide +kernel)) rfl
theorem ck_X11_80 : Cond.classLink RX11 80 RX2 ∈ sx_tb := sx_in (List.mem_of_getElem? (i := 499) (by decide +kernel)) rfl
theorem it_X2 : Cond.instantiable RX2 3 ∈ sx_tb := sx_in (List.mem_of_getElem? (i := 500) (by decide +kernel)) rfl
theorem ml_X11_82 : sx_ML RX11 82 yX2_init := Or.inr ⟨"SwitchGame", sx_in (List.mem_of_getElem? (i := 501) (by decide +kernel)) rfl⟩
theorem oi_X2 : Cond.methodLink RX2 3 Lib.objectInit ∈ sx_tb := sx_in (List.mem_of_getElem? (i := 504) (by decide +kernel)) rfl
theorem ml_L_21 : sx_ML RL 21 yX11_feed := Or.inl (sx_in (List.mem_of_getElem? (i := 568) (by decide +kernel)) rfl)
theorem ml_X11_106 : sx_ML RX11 106 yX11_feedNumber := Or.inl (sx_in (List.mem_of_getElem? (i := 572) (by decide +kernel)) rfl)
theorem ml_L_26 : sx_ML RL 26 yX11_text := Or.inl (sx_in (List.mem_of_getElem? (i := 576) (by decide +kernel)) rfl)
theorem ml_X11_110 : sx_ML RX11 110 yX9_read := Or.inr ⟨"SwitchGame", sx_in (List.mem_of_getElem? (i := 580) (by decide +kernel)) rfl⟩
theorem ml_X9_54 : sx_ML RX9 54 yJ9_min_7cf53 := Or.inl (sx_in (List.mem_of_getElem? (i := 584) (by decide +kernel)) rfl)
theorem ml_X9_60 : sx_ML RX9 60 yX6_wipe := Or.inr ⟨"SwitchGame", sx_in (List.mem_of_getElem? (i := 587) (by decide +kernel)) rfl⟩
theorem ml_X9_65 : sx_ML RX9 65 yX9_step := Or.inl (sx_in (List.mem_of_getElem? (i := 588) (by decide +kernel)) rfl)
theorem ml_X9_140 : sx_ML RX9 140 yX9_byteAt := Or.inl (sx_in (List.mem_of_getElem? (i := 592) (by decide +kernel)) rfl)
theorem ml_X9_144 : sx_ML RX9 144 yX9_isBlank := Or.inl (sx_in (List.mem_of_getElem? (i := 596) (by decide +kernel)) rfl)
theorem ml_X9_147 : sx_ML RX9 147 yX9_isLetter := Or.inl (sx_in (List.mem_of_getElem? (i := 599) (by decide +kernel)) rfl)
theorem ml_X9_150 : sx_ML RX9 150 yX9_isDigit := Or.inl (sx_in (List.mem_of_getElem? (i := 602) (by decide +kernel)) rfl)
theorem ml_X9_153 : sx_ML RX9 153 yX9_takeNumber := Or.inl (sx_in (List.mem_of_getElem? (i := 605) (by decide +kernel)) rfl)
theorem kn_X9_156 : Cond.constant RX9 156 (1000000) ∈ sx_tb := sx_in (List.mem_of_getElem? (i := 609) (by decide +kernel)) rfl
theorem ml_X9_68 : sx_ML RX9 68 yX9_sentence := Or.inl (sx_in (List.mem_of_getElem? (i := 610) (by decide +kernel)) rfl)
theorem ml_X9_82 : sx_ML RX9 82 yX9_word := Or.inl (sx_in (List.mem_of_getElem? (i := 614) (by decide +kernel)) rfl)
theorem ml_X9_158 : sx_ML RX9 158 yX9_spells := Or.inl (sx_in (List.mem_of_getElem? (i := 619) (by decide +kernel)) rfl)
theorem ml_X9_176 : sx_ML RX9 176 yJ0_length_8abf5 := Or.inl (sx_in (List.mem_of_getElem? (i := 623) (by decide +kernel)) rfl)
theorem ml_J0_335 : sx_ML RJ0 335 yJ0_coder_7d493 := Or.inl (sx_in (List.mem_of_getElem? (i := 627) (by decide +kernel)) rfl)
theorem ml_X9_180 : sx_ML RX9 180 yJ0_charAt_5068e := Or.inl (sx_in (List.mem_of_getElem? (i := 633) (by decide +kernel)) rfl)
theorem ml_J0_492 : sx_ML RJ0 492 yJ0_isLatin1_aae02 := Or.inl (sx_in (List.mem_of_getElem? (i := 637) (by decide +kernel)) rfl)
theorem ml_J0_495 : sx_ML RJ0 495 yJ1_charAt_3b067 := Or.inl (sx_in (List.mem_of_getElem? (i := 641) (by decide +kernel)) rfl)
theorem ml_J1_9 : sx_ML RJ1 9 yJ0_checkIndex_df160 := Or.inl (sx_in (List.mem_of_getElem? (i := 644) (by decide +kernel)) rfl)
theorem ml_J0_1059 : sx_ML RJ0 1059 yJ3_checkIndex_8e157 := Or.inl (sx_in (List.mem_of_getElem? (i := 649) (by decide +kernel)) rfl)
theorem ml_J0_498 : sx_ML RJ0 498 yJ2_charAt_3b067 := Or.inl (sx_in (List.mem_of_getElem? (i := 652) (by decide +kernel)) rfl)
theorem ml_J2_67 : sx_ML RJ2 67 yJ2_checkIndex_2214a := Or.inl (sx_in (List.mem_of_getElem? (i := 655) (by decide +kernel)) rfl)
theorem ml_J2_48 : sx_ML RJ2 48 yJ2_length_9d52b := Or.inl (sx_in (List.mem_of_getElem? (i := 658) (by decide +kernel)) rfl)
theorem ml_J2_414 : sx_ML RJ2 414 yJ0_checkIndex_df160 := Or.inl (sx_in (List.mem_of_getElem? (i := 661) (by decide +kernel)) rfl)
theorem ml_J2_71 : sx_ML RJ2 71 yJ2_getChar_3b067 := Or.inl (sx_in (List.mem_of_getElem? (i := 662) (by decide +kernel)) rfl)
theorem ml_X9_78 : sx_ML RX9 78 yX9_refuse := Or.inl (sx_in (List.mem_of_getElem? (i := 678) (by decide +kernel)) rfl)
theorem ml_X9_86 : sx_ML RX9 86 yX9_knotsSentence := Or.inl (sx_in (List.mem_of_getElem? (i := 682) (by decide +kernel)) rfl)
theorem ml_X9_89 : sx_ML RX9 89 yX9_endsSentence := Or.inl (sx_in (List.mem_of_getElem? (i := 686) (by decide +kernel)) rfl)
theorem ml_X9_108 : sx_ML RX9 108 yX9_twoKnots := Or.inl (sx_in (List.mem_of_getElem? (i := 690) (by decide +kernel)) rfl)
theorem ml_X9_121 : sx_ML RX9 121 yX6_isKnot := Or.inr ⟨"SwitchGame", sx_in (List.mem_of_getElem? (i := 694) (by decide +kernel)) rfl⟩
theorem ml_X9_92 : sx_ML RX9 92 yX9_lineSentence := Or.inl (sx_in (List.mem_of_getElem? (i := 698) (by decide +kernel)) rfl)
theorem ml_X9_117 : sx_ML RX9 117 yX6_addLine := Or.inr ⟨"SwitchGame", sx_in (List.mem_of_getElem? (i := 702) (by decide +kernel)) rfl⟩
theorem ml_X9_95 : sx_ML RX9 95 yX9_standSentence := Or.inl (sx_in (List.mem_of_getElem? (i := 706) (by decide +kernel)) rfl)
theorem ml_X9_124 : sx_ML RX9 124 yX6_isLine := Or.inr ⟨"SwitchGame", sx_in (List.mem_of_getElem? (i := 710) (by decide +kernel)) rfl⟩
theorem ml_X9_133 : sx_ML RX9 133 yX11_has := Or.inr ⟨"SwitchGame", sx_in (List.mem_of_getElem? (i := 714) (by decide +kernel)) rfl⟩
theorem ml_X9_99 : sx_ML RX9 99 yX9_firstSentence := Or.inl (sx_in (List.mem_of_getElem? (i := 717) (by decide +kernel)) rfl)
theorem ml_X9_72 : sx_ML RX9 72 yX9_stop := Or.inl (sx_in (List.mem_of_getElem? (i := 721) (by decide +kernel)) rfl)
theorem ml_X11_116 : sx_ML RX11 116 yX11_beginDraft := Or.inl (sx_in (List.mem_of_getElem? (i := 725) (by decide +kernel)) rfl)
theorem ml_X11_325 : sx_ML RX11 325 yX6_copy := Or.inr ⟨"SwitchGame", sx_in (List.mem_of_getElem? (i := 729) (by decide +kernel)) rfl⟩
theorem lk_X6_46 : Cond.methodLink RX6 46 arraycopyName ∈ sx_tb := sx_in (List.mem_of_getElem? (i := 733) (by decide +kernel)) rfl
theorem ml_X11_337 : sx_ML RX11 337 yX2_forgetAll := Or.inr ⟨"SwitchGame", sx_in (List.mem_of_getElem? (i := 736) (by decide +kernel)) rfl⟩
theorem ml_X11_340 : sx_ML RX11 340 yX4_forgetAll := Or.inr ⟨"SwitchGame", sx_in (List.mem_of_getElem? (i := 740) (by decide +kernel)) rfl⟩
theorem ml_L_31 : sx_ML RL 31 yX11_fault := Or.inl (sx_in (List.mem_of_getElem? (i := 744) (by decide +kernel)) rfl)
theorem ml_L_45 : sx_ML RL 45 yX11_place := Or.inl (sx_in (List.mem_of_getElem? (i := 748) (by decide +kernel)) rfl)
theorem ml_X11_148 : sx_ML RX11 148 yX6_isKnot := Or.inr ⟨"SwitchGame", sx_in (List.mem_of_getElem? (i := 752) (by decide +kernel)) rfl⟩
theorem ml_X11_151 : sx_ML RX11 151 yX6_placesBy := Or.inr ⟨"SwitchGame", sx_in (List.mem_of_getElem? (i := 753) (by decide +kernel)) rfl⟩
theorem kn_X6_66 : Cond.constant RX6 66 (1985229328) ∈ sx_tb := sx_in (List.mem_of_getElem? (i := 757) (by decide +kernel)) rfl
theorem ml_X6_67 : sx_ML RX6 67 yX11_has := Or.inr ⟨"SwitchGame", sx_in (List.mem_of_getElem? (i := 758) (by decide +kernel)) rfl⟩
theorem ml_X6_60 : sx_ML RX6 60 yX8_merged := Or.inr ⟨"SwitchGame", sx_in (List.mem_of_getElem? (i := 759) (by decide +kernel)) rfl⟩
theorem ml_X8_9 : sx_ML RX8 9 yX8_numberOf := Or.inl (sx_in (List.mem_of_getElem? (i := 762) (by decide +kernel)) rfl)
theorem ml_X8_15 : sx_ML RX8 15 yJ9_max_7cf53 := Or.inl (sx_in (List.mem_of_getElem? (i := 765) (by decide +kernel)) rfl)
theorem kn_X8_20 : Cond.constant RX8 20 (286331153) ∈ sx_tb := sx_in (List.mem_of_getElem? (i := 768) (by decide +kernel)) rfl
theorem ml_X11_154 : sx_ML RX11 154 yX8_numberOf := Or.inr ⟨"SwitchGame", sx_in (List.mem_of_getElem? (i := 769) (by decide +kernel)) rfl⟩
theorem ml_L_49 : sx_ML RL 49 yX11_reaches := Or.inl (sx_in (List.mem_of_getElem? (i := 770) (by decide +kernel)) rfl)
theorem ml_X11_160 : sx_ML RX11 160 yX6_all := Or.inr ⟨"SwitchGame", sx_in (List.mem_of_getElem? (i := 774) (by decide +kernel)) rfl⟩
theorem ml_X11_167 : sx_ML RX11 167 yX8_knotsOf := Or.inr ⟨"SwitchGame", sx_in (List.mem_of_getElem? (i := 778) (by decide +kernel)) rfl⟩
theorem ml_L_53 : sx_ML RL 53 yX11_move := Or.inl (sx_in (List.mem_of_getElem? (i := 781) (by decide +kernel)) rfl)
theorem ml_X11_122 : sx_ML RX11 122 yX6_isLine := Or.inr ⟨"SwitchGame", sx_in (List.mem_of_getElem? (i := 785) (by decide +kernel)) rfl⟩
theorem ml_X11_171 : sx_ML RX11 171 yX11_isOpen := Or.inl (sx_in (List.mem_of_getElem? (i := 786) (by decide +kernel)) rfl)
theorem ml_X11_193 : sx_ML RX11 193 yX11_open := Or.inl (sx_in (List.mem_of_getElem? (i := 790) (by decide +kernel)) rfl)
theorem ml_X11_344 : sx_ML RX11 344 yX6_openOf := Or.inr ⟨"SwitchGame", sx_in (List.mem_of_getElem? (i := 794) (by decide +kernel)) rfl⟩
theorem ml_X6_52 : sx_ML RX6 52 yX6_all := Or.inl (sx_in (List.mem_of_getElem? (i := 798) (by decide +kernel)) rfl)
theorem ml_X11_347 : sx_ML RX11 347 yX11_has := Or.inl (sx_in (List.mem_of_getElem? (i := 799) (by decide +kernel)) rfl)
theorem ml_X11_174 : sx_ML RX11 174 yX11_isOver := Or.inl (sx_in (List.mem_of_getElem? (i := 800) (by decide +kernel)) rfl)
theorem ml_X11_181 : sx_ML RX11 181 yX6_holder := Or.inr ⟨"SwitchGame", sx_in (List.mem_of_getElem? (i := 804) (by decide +kernel)) rfl⟩
theorem ml_X6_75 : sx_ML RX6 75 yX6_placesBy := Or.inl (sx_in (List.mem_of_getElem? (i := 808) (by decide +kernel)) rfl)
theorem ml_X6_79 : sx_ML RX6 79 yX6_endsMeet := Or.inl (sx_in (List.mem_of_getElem? (i := 809) (by decide +kernel)) rfl)
theorem ml_X6_71 : sx_ML RX6 71 yX8_together := Or.inr ⟨"SwitchGame", sx_in (List.mem_of_getElem? (i := 813) (by decide +kernel)) rfl⟩
theorem ml_X11_178 : sx_ML RX11 178 yX11_turn := Or.inl (sx_in (List.mem_of_getElem? (i := 816) (by decide +kernel)) rfl)
theorem ml_X11_341 : sx_ML RX11 341 yX2_add := Or.inr ⟨"SwitchGame", sx_in (List.mem_of_getElem? (i := 820) (by decide +kernel)) rfl⟩
theorem ml_X2_28 : sx_ML RX2 28 yX2_slotOf := Or.inl (sx_in (List.mem_of_getElem? (i := 824) (by decide +kernel)) rfl)
theorem ml_X2_22 : sx_ML RX2 22 yJ9_floorMod_7cf53 := Or.inl (sx_in (List.mem_of_getElem? (i := 828) (by decide +kernel)) rfl)
theorem ml_L_57 : sx_ML RL 57 yX11_pass := Or.inl (sx_in (List.mem_of_getElem? (i := 831) (by decide +kernel)) rfl)
theorem ml_L_62 : sx_ML RL 62 yX11_undo := Or.inl (sx_in (List.mem_of_getElem? (i := 835) (by decide +kernel)) rfl)
theorem ml_X11_187 : sx_ML RX11 187 yX2_takeLatest := Or.inr ⟨"SwitchGame", sx_in (List.mem_of_getElem? (i := 839) (by decide +kernel)) rfl⟩
theorem ml_L_66 : sx_ML RL 66 yX11_written := Or.inl (sx_in (List.mem_of_getElem? (i := 843) (by decide +kernel)) rfl)
theorem ml_X11_190 : sx_ML RX11 190 yX2_entry := Or.inr ⟨"SwitchGame", sx_in (List.mem_of_getElem? (i := 847) (by decide +kernel)) rfl⟩
theorem ml_L_70 : sx_ML RL 70 yX11_now := Or.inl (sx_in (List.mem_of_getElem? (i := 851) (by decide +kernel)) rfl)
theorem ml_X11_196 : sx_ML RX11 196 yJ6_bitCount_0f7a4 := Or.inl (sx_in (List.mem_of_getElem? (i := 855) (by decide +kernel)) rfl)
theorem kn_J6_265 : Cond.constant RJ6 265 (1431655765) ∈ sx_tb := sx_in (List.mem_of_getElem? (i := 858) (by decide +kernel)) rfl
theorem kn_J6_266 : Cond.constant RJ6 266 (858993459) ∈ sx_tb := sx_in (List.mem_of_getElem? (i := 859) (by decide +kernel)) rfl
theorem kn_J6_267 : Cond.constant RJ6 267 (252645135) ∈ sx_tb := sx_in (List.mem_of_getElem? (i := 860) (by decide +kernel)) rfl
theorem ml_X11_201 : sx_ML RX11 201 yX8_heads := Or.inr ⟨"SwitchGame", sx_in (List.mem_of_getElem? (i := 861) (by decide +kernel)) rfl⟩
theorem ml_L_74 : sx_ML RL 74 yX11_pair := Or.inl (sx_in (List.mem_of_getElem? (i := 864) (by decide +kernel)) rfl)
theorem ml_X11_204 : sx_ML RX11 204 yX7_find := Or.inr ⟨"SwitchGame", sx_in (List.mem_of_getElem? (i := 868) (by decide +kernel)) rfl⟩
theorem ml_X7_32 : sx_ML RX7 32 yX7_nthSet := Or.inl (sx_in (List.mem_of_getElem? (i := 872) (by decide +kernel)) rfl)
theorem ml_X7_47 : sx_ML RX7 47 yX6_placesBy := Or.inr ⟨"SwitchGame", sx_in (List.mem_of_getElem? (i := 876) (by decide +kernel)) rfl⟩
theorem ml_X7_53 : sx_ML RX7 53 yX6_endsMeet := Or.inr ⟨"SwitchGame", sx_in (List.mem_of_getElem? (i := 877) (by decide +kernel)) rfl⟩
theorem ml_X7_57 : sx_ML RX7 57 yX6_openOf := Or.inr ⟨"SwitchGame", sx_in (List.mem_of_getElem? (i := 878) (by decide +kernel)) rfl⟩
theorem ml_X7_61 : sx_ML RX7 61 yX7_layOpen := Or.inl (sx_in (List.mem_of_getElem? (i := 879) (by decide +kernel)) rfl)
theorem ml_X7_90 : sx_ML RX7 90 yX11_has := Or.inr ⟨"SwitchGame", sx_in (List.mem_of_getElem? (i := 883) (by decide +kernel)) rfl⟩
theorem ml_X7_94 : sx_ML RX7 94 yX6_isLine := Or.inr ⟨"SwitchGame", sx_in (List.mem_of_getElem? (i := 884) (by decide +kernel)) rfl⟩
theorem ml_X7_68 : sx_ML RX7 68 yX8_numberOf := Or.inr ⟨"SwitchGame", sx_in (List.mem_of_getElem? (i := 885) (by decide +kernel)) rfl⟩
theorem ml_X7_104 : sx_ML RX7 104 yX0_lay := Or.inr ⟨"SwitchGame", sx_in (List.mem_of_getElem? (i := 886) (by decide +kernel)) rfl⟩
theorem ml_X7_79 : sx_ML RX7 79 yX8_heads := Or.inr ⟨"SwitchGame", sx_in (List.mem_of_getElem? (i := 890) (by decide +kernel)) rfl⟩
theorem ml_X7_82 : sx_ML RX7 82 yJ6_bitCount_0f7a4 := Or.inl (sx_in (List.mem_of_getElem? (i := 891) (by decide +kernel)) rfl)
theorem ml_X7_87 : sx_ML RX7 87 yX7_carriesTwoTrees := Or.inl (sx_in (List.mem_of_getElem? (i := 892) (by decide +kernel)) rfl)
theorem ml_X7_111 : sx_ML RX7 111 yX7_linesInside := Or.inl (sx_in (List.mem_of_getElem? (i := 896) (by decide +kernel)) rfl)
theorem ml_X7_108 : sx_ML RX7 108 yX0_isInside := Or.inr ⟨"SwitchGame", sx_in (List.mem_of_getElem? (i := 900) (by decide +kernel)) rfl⟩
theorem ml_X7_114 : sx_ML RX7 114 yX0_begin := Or.inr ⟨"SwitchGame", sx_in (List.mem_of_getElem? (i := 904) (by decide +kernel)) rfl⟩
theorem ml_X7_117 : sx_ML RX7 117 yX0_bring := Or.inr ⟨"SwitchGame", sx_in (List.mem_of_getElem? (i := 908) (by decide +kernel)) rfl⟩
theorem ml_X0_46 : sx_ML RX0 46 yX11_has := Or.inr ⟨"SwitchGame", sx_in (List.mem_of_getElem? (i := 912) (by decide +kernel)) rfl⟩
theorem ml_X0_50 : sx_ML RX0 50 yX0_ring := Or.inl (sx_in (List.mem_of_getElem? (i := 913) (by decide +kernel)) rfl)
theorem ml_X0_54 : sx_ML RX0 54 yX0_shift := Or.inl (sx_in (List.mem_of_getElem? (i := 917) (by decide +kernel)) rfl)
theorem ml_X0_58 : sx_ML RX0 58 yX0_driven := Or.inl (sx_in (List.mem_of_getElem? (i := 921) (by decide +kernel)) rfl)
theorem ml_X7_120 : sx_ML RX7 120 yX0_total := Or.inr ⟨"SwitchGame", sx_in (List.mem_of_getElem? (i := 925) (by decide +kernel)) rfl⟩
theorem ml_X0_40 : sx_ML RX0 40 yJ6_bitCount_0f7a4 := Or.inl (sx_in (List.mem_of_getElem? (i := 929) (by decide +kernel)) rfl)
theorem ml_X7_36 : sx_ML RX7 36 yX0_lower := Or.inr ⟨"SwitchGame", sx_in (List.mem_of_getElem? (i := 930) (by decide +kernel)) rfl⟩
theorem ml_X0_62 : sx_ML RX0 62 yX0_bringAny := Or.inl (sx_in (List.mem_of_getElem? (i := 934) (by decide +kernel)) rfl)
theorem ml_X0_69 : sx_ML RX0 69 yX0_bring := Or.inl (sx_in (List.mem_of_getElem? (i := 938) (by decide +kernel)) rfl)
theorem ml_X0_66 : sx_ML RX0 66 yX0_leastForest := Or.inl (sx_in (List.mem_of_getElem? (i := 939) (by decide +kernel)) rfl)
theorem ml_L_78 : sx_ML RL 78 yX11_outcome := Or.inl (sx_in (List.mem_of_getElem? (i := 943) (by decide +kernel)) rfl)
theorem ml_X11_217 : sx_ML RX11 217 yX3_lacking := Or.inr ⟨"SwitchGame", sx_in (List.mem_of_getElem? (i := 947) (by decide +kernel)) rfl⟩
theorem ml_X3_61 : sx_ML RX3 61 yX3_lackingBetween := Or.inl (sx_in (List.mem_of_getElem? (i := 951) (by decide +kernel)) rfl)
theorem ml_X3_65 : sx_ML RX3 65 yX6_placesBy := Or.inr ⟨"SwitchGame", sx_in (List.mem_of_getElem? (i := 955) (by decide +kernel)) rfl⟩
theorem ml_X3_69 : sx_ML RX3 69 yX8_together := Or.inr ⟨"SwitchGame", sx_in (List.mem_of_getElem? (i := 956) (by decide +kernel)) rfl⟩
theorem ml_X3_73 : sx_ML RX3 73 yX6_openOf := Or.inr ⟨"SwitchGame", sx_in (List.mem_of_getElem? (i := 957) (by decide +kernel)) rfl⟩
theorem ml_X3_76 : sx_ML RX3 76 yX3_bringOpen := Or.inl (sx_in (List.mem_of_getElem? (i := 958) (by decide +kernel)) rfl)
theorem ml_X3_19 : sx_ML RX3 19 yX0_begin := Or.inr ⟨"SwitchGame", sx_in (List.mem_of_getElem? (i := 962) (by decide +kernel)) rfl⟩
theorem ml_X3_24 : sx_ML RX3 24 yX11_has := Or.inr ⟨"SwitchGame", sx_in (List.mem_of_getElem? (i := 963) (by decide +kernel)) rfl⟩
theorem ml_X3_28 : sx_ML RX3 28 yX6_isLine := Or.inr ⟨"SwitchGame", sx_in (List.mem_of_getElem? (i := 964) (by decide +kernel)) rfl⟩
theorem ml_X3_38 : sx_ML RX3 38 yX8_numberOf := Or.inr ⟨"SwitchGame", sx_in (List.mem_of_getElem? (i := 965) (by decide +kernel)) rfl⟩
theorem ml_X3_47 : sx_ML RX3 47 yX0_lay := Or.inr ⟨"SwitchGame", sx_in (List.mem_of_getElem? (i := 966) (by decide +kernel)) rfl⟩
theorem ml_X3_51 : sx_ML RX3 51 yX0_bring := Or.inr ⟨"SwitchGame", sx_in (List.mem_of_getElem? (i := 967) (by decide +kernel)) rfl⟩
theorem ml_X3_80 : sx_ML RX3 80 yX3_stillTaken := Or.inl (sx_in (List.mem_of_getElem? (i := 968) (by decide +kernel)) rfl)
theorem ml_X11_220 : sx_ML RX11 220 yX3_outcomeBy := Or.inr ⟨"SwitchGame", sx_in (List.mem_of_getElem? (i := 972) (by decide +kernel)) rfl⟩
theorem ml_L_82 : sx_ML RL 82 yX11_wins := Or.inl (sx_in (List.mem_of_getElem? (i := 975) (by decide +kernel)) rfl)
theorem ml_X11_223 : sx_ML RX11 223 yX11_nthWinning := Or.inl (sx_in (List.mem_of_getElem? (i := 979) (by decide +kernel)) rfl)
theorem ml_X11_276 : sx_ML RX11 276 yX3_winningFrom := Or.inr ⟨"SwitchGame", sx_in (List.mem_of_getElem? (i := 983) (by decide +kernel)) rfl⟩
theorem ml_X3_86 : sx_ML RX3 86 yX11_nth := Or.inr ⟨"SwitchGame", sx_in (List.mem_of_getElem? (i := 987) (by decide +kernel)) rfl⟩
theorem ml_X11_350 : sx_ML RX11 350 yJ9_min_7cf53 := Or.inl (sx_in (List.mem_of_getElem? (i := 990) (by decide +kernel)) rfl)
theorem ml_L_86 : sx_ML RL 86 yX11_answer := Or.inl (sx_in (List.mem_of_getElem? (i := 991) (by decide +kernel)) rfl)
theorem ml_X11_226 : sx_ML RX11 226 yX7_reply := Or.inr ⟨"SwitchGame", sx_in (List.mem_of_getElem? (i := 995) (by decide +kernel)) rfl⟩
theorem ml_X7_127 : sx_ML RX7 127 yX11_nth := Or.inr ⟨"SwitchGame", sx_in (List.mem_of_getElem? (i := 999) (by decide +kernel)) rfl⟩
theorem ml_X7_130 : sx_ML RX7 130 yX7_links := Or.inl (sx_in (List.mem_of_getElem? (i := 1000) (by decide +kernel)) rfl)
theorem ml_X7_124 : sx_ML RX7 124 yX0_ring := Or.inr ⟨"SwitchGame", sx_in (List.mem_of_getElem? (i := 1004) (by decide +kernel)) rfl⟩
theorem ml_L_90 : sx_ML RL 90 yX11_exchange := Or.inl (sx_in (List.mem_of_getElem? (i := 1005) (by decide +kernel)) rfl)
theorem ml_X11_229 : sx_ML RX11 229 yX7_swapFor := Or.inr ⟨"SwitchGame", sx_in (List.mem_of_getElem? (i := 1009) (by decide +kernel)) rfl⟩
theorem ml_L_94 : sx_ML RL 94 yX11_played := Or.inl (sx_in (List.mem_of_getElem? (i := 1013) (by decide +kernel)) rfl)
theorem ml_X11_232 : sx_ML RX11 232 yX1_playOn := Or.inr ⟨"SwitchGame", sx_in (List.mem_of_getElem? (i := 1017) (by decide +kernel)) rfl⟩
theorem ml_X1_34 : sx_ML RX1 34 yX6_holder := Or.inr ⟨"SwitchGame", sx_in (List.mem_of_getElem? (i := 1021) (by decide +kernel)) rfl⟩
theorem ml_X1_40 : sx_ML RX1 40 yX3_winningFrom := Or.inr ⟨"SwitchGame", sx_in (List.mem_of_getElem? (i := 1022) (by decide +kernel)) rfl⟩
theorem ml_X1_46 : sx_ML RX1 46 yX6_openOf := Or.inr ⟨"SwitchGame", sx_in (List.mem_of_getElem? (i := 1023) (by decide +kernel)) rfl⟩
theorem ml_X1_49 : sx_ML RX1 49 yX11_nth := Or.inr ⟨"SwitchGame", sx_in (List.mem_of_getElem? (i := 1024) (by decide +kernel)) rfl⟩
theorem ml_L_98 : sx_ML RL 98 yX11_verified := Or.inl (sx_in (List.mem_of_getElem? (i := 1025) (by decide +kernel)) rfl)
theorem ml_X11_236 : sx_ML RX11 236 yX11_isSmall := Or.inl (sx_in (List.mem_of_getElem? (i := 1029) (by decide +kernel)) rfl)
theorem ml_X11_239 : sx_ML RX11 239 yX1_goThrough := Or.inr ⟨"SwitchGame", sx_in (List.mem_of_getElem? (i := 1033) (by decide +kernel)) rfl⟩
theorem ml_X1_52 : sx_ML RX1 52 yX5_clear := Or.inr ⟨"SwitchGame", sx_in (List.mem_of_getElem? (i := 1037) (by decide +kernel)) rfl⟩
theorem ml_X5_18 : sx_ML RX5 18 yJ7_fill_53178 := Or.inl (sx_in (List.mem_of_getElem? (i := 1041) (by decide +kernel)) rfl)
theorem ml_X1_55 : sx_ML RX1 55 yX1_cutFirst := Or.inl (sx_in (List.mem_of_getElem? (i := 1044) (by decide +kernel)) rfl)
theorem kn_X1_64 : Cond.constant RX1 64 (65537) ∈ sx_tb := sx_in (List.mem_of_getElem? (i := 1048) (by decide +kernel)) rfl
theorem kn_X1_62 : Cond.constant RX1 62 (65536) ∈ sx_tb := sx_in (List.mem_of_getElem? (i := 1049) (by decide +kernel)) rfl
theorem ml_X1_65 : sx_ML RX1 65 yX5_valueOf := Or.inr ⟨"SwitchGame", sx_in (List.mem_of_getElem? (i := 1050) (by decide +kernel)) rfl⟩
theorem ml_X5_25 : sx_ML RX5 25 yX5_keyOf := Or.inl (sx_in (List.mem_of_getElem? (i := 1054) (by decide +kernel)) rfl)
theorem ml_X5_29 : sx_ML RX5 29 yX5_slotOf := Or.inl (sx_in (List.mem_of_getElem? (i := 1057) (by decide +kernel)) rfl)
theorem kn_X5_24 : Cond.constant RX5 24 (-1640531535) ∈ sx_tb := sx_in (List.mem_of_getElem? (i := 1061) (by decide +kernel)) rfl
theorem ml_X1_68 : sx_ML RX1 68 yX7_find := Or.inr ⟨"SwitchGame", sx_in (List.mem_of_getElem? (i := 1062) (by decide +kernel)) rfl⟩
theorem ml_X1_74 : sx_ML RX1 74 yX7_replies := Or.inr ⟨"SwitchGame", sx_in (List.mem_of_getElem? (i := 1063) (by decide +kernel)) rfl⟩
theorem ml_X7_134 : sx_ML RX7 134 yX7_reply := Or.inl (sx_in (List.mem_of_getElem? (i := 1067) (by decide +kernel)) rfl)
theorem ml_X1_78 : sx_ML RX1 78 yX11_has := Or.inr ⟨"SwitchGame", sx_in (List.mem_of_getElem? (i := 1068) (by decide +kernel)) rfl⟩
theorem ml_X1_81 : sx_ML RX1 81 yX5_keep := Or.inr ⟨"SwitchGame", sx_in (List.mem_of_getElem? (i := 1069) (by decide +kernel)) rfl⟩
theorem ml_X1_59 : sx_ML RX1 59 yX1_joinFirst := Or.inl (sx_in (List.mem_of_getElem? (i := 1073) (by decide +kernel)) rfl)
theorem ml_X1_85 : sx_ML RX1 85 yX6_placesBy := Or.inr ⟨"SwitchGame", sx_in (List.mem_of_getElem? (i := 1077) (by decide +kernel)) rfl⟩
theorem ml_X1_89 : sx_ML RX1 89 yX6_endsMeet := Or.inr ⟨"SwitchGame", sx_in (List.mem_of_getElem? (i := 1078) (by decide +kernel)) rfl⟩
theorem kn_X1_63 : Cond.constant RX1 63 (65535) ∈ sx_tb := sx_in (List.mem_of_getElem? (i := 1079) (by decide +kernel)) rfl
theorem ml_L_102 : sx_ML RL 102 yX11_full := Or.inl (sx_in (List.mem_of_getElem? (i := 1080) (by decide +kernel)) rfl)
theorem ml_L_106 : sx_ML RL 106 yX11_positions := Or.inl (sx_in (List.mem_of_getElem? (i := 1084) (by decide +kernel)) rfl)
theorem ml_X11_242 : sx_ML RX11 242 yX4_lookAt := Or.inr ⟨"SwitchGame", sx_in (List.mem_of_getElem? (i := 1088) (by decide +kernel)) rfl⟩
theorem ml_X4_42 : sx_ML RX4 42 yX4_number := Or.inl (sx_in (List.mem_of_getElem? (i := 1092) (by decide +kernel)) rfl)
theorem ml_X4_64 : sx_ML RX4 64 yX6_openOf := Or.inr ⟨"SwitchGame", sx_in (List.mem_of_getElem? (i := 1096) (by decide +kernel)) rfl⟩
theorem ml_X4_68 : sx_ML RX4 68 yX11_has := Or.inr ⟨"SwitchGame", sx_in (List.mem_of_getElem? (i := 1097) (by decide +kernel)) rfl⟩
theorem ml_X4_45 : sx_ML RX4 45 yJ7_fill_53178 := Or.inl (sx_in (List.mem_of_getElem? (i := 1098) (by decide +kernel)) rfl)
theorem ml_X4_51 : sx_ML RX4 51 yX6_placesBy := Or.inr ⟨"SwitchGame", sx_in (List.mem_of_getElem? (i := 1099) (by decide +kernel)) rfl⟩
theorem ml_X4_57 : sx_ML RX4 57 yX4_mark := Or.inl (sx_in (List.mem_of_getElem? (i := 1100) (by decide +kernel)) rfl)
theorem ml_X4_72 : sx_ML RX4 72 yX6_endsMeet := Or.inr ⟨"SwitchGame", sx_in (List.mem_of_getElem? (i := 1104) (by decide +kernel)) rfl⟩
theorem ml_X4_76 : sx_ML RX4 76 yX4_markAll := Or.inl (sx_in (List.mem_of_getElem? (i := 1105) (by decide +kernel)) rfl)
theorem ml_X4_83 : sx_ML RX4 83 yJ9_min_7cf53 := Or.inl (sx_in (List.mem_of_getElem? (i := 1109) (by decide +kernel)) rfl)
theorem ml_X4_80 : sx_ML RX4 80 yX6_withLine := Or.inr ⟨"SwitchGame", sx_in (List.mem_of_getElem? (i := 1110) (by decide +kernel)) rfl⟩
theorem ml_X6_56 : sx_ML RX6 56 yX6_isLine := Or.inl (sx_in (List.mem_of_getElem? (i := 1114) (by decide +kernel)) rfl)
theorem ml_X4_61 : sx_ML RX4 61 yX4_tallySizes := Or.inl (sx_in (List.mem_of_getElem? (i := 1115) (by decide +kernel)) rfl)
theorem ml_X4_88 : sx_ML RX4 88 yX4_wordsUsed := Or.inl (sx_in (List.mem_of_getElem? (i := 1119) (by decide +kernel)) rfl)
theorem ml_X4_92 : sx_ML RX4 92 yJ6_bitCount_0f7a4 := Or.inl (sx_in (List.mem_of_getElem? (i := 1123) (by decide +kernel)) rfl)
theorem ml_X11_246 : sx_ML RX11 246 yX4_positionsOf := Or.inr ⟨"SwitchGame", sx_in (List.mem_of_getElem? (i := 1126) (by decide +kernel)) rfl⟩
theorem ml_X4_109 : sx_ML RX4 109 yX4_sized := Or.inl (sx_in (List.mem_of_getElem? (i := 1130) (by decide +kernel)) rfl)
theorem ml_X4_106 : sx_ML RX4 106 yX4_ways := Or.inl (sx_in (List.mem_of_getElem? (i := 1134) (by decide +kernel)) rfl)
theorem ml_X11_249 : sx_ML RX11 249 yX4_positionsOfNobody := Or.inr ⟨"SwitchGame", sx_in (List.mem_of_getElem? (i := 1137) (by decide +kernel)) rfl⟩
theorem ml_X4_112 : sx_ML RX4 112 yX4_allPositions := Or.inl (sx_in (List.mem_of_getElem? (i := 1141) (by decide +kernel)) rfl)
theorem ml_X4_115 : sx_ML RX4 115 yX4_positionsOf := Or.inl (sx_in (List.mem_of_getElem? (i := 1145) (by decide +kernel)) rfl)
theorem ml_X11_252 : sx_ML RX11 252 yX4_allPositions := Or.inr ⟨"SwitchGame", sx_in (List.mem_of_getElem? (i := 1146) (by decide +kernel)) rfl⟩
theorem ml_L_110 : sx_ML RL 110 yX11_wall := Or.inl (sx_in (List.mem_of_getElem? (i := 1147) (by decide +kernel)) rfl)
theorem ml_X11_255 : sx_ML RX11 255 yX4_least := Or.inr ⟨"SwitchGame", sx_in (List.mem_of_getElem? (i := 1151) (by decide +kernel)) rfl⟩
theorem ml_X4_118 : sx_ML RX4 118 yX4_leastOf := Or.inl (sx_in (List.mem_of_getElem? (i := 1155) (by decide +kernel)) rfl)
theorem ml_X4_121 : sx_ML RX4 121 yX4_givesIt := Or.inl (sx_in (List.mem_of_getElem? (i := 1159) (by decide +kernel)) rfl)
theorem ml_X4_100 : sx_ML RX4 100 yX4_isLucky := Or.inl (sx_in (List.mem_of_getElem? (i := 1163) (by decide +kernel)) rfl)
theorem ml_X4_103 : sx_ML RX4 103 yX4_all := Or.inl (sx_in (List.mem_of_getElem? (i := 1167) (by decide +kernel)) rfl)
theorem ml_X4_124 : sx_ML RX4 124 yX4_linesOf := Or.inl (sx_in (List.mem_of_getElem? (i := 1171) (by decide +kernel)) rfl)
theorem ml_L_114 : sx_ML RL 114 yX11_road := Or.inl (sx_in (List.mem_of_getElem? (i := 1175) (by decide +kernel)) rfl)
theorem ml_L_118 : sx_ML RL 118 yX11_lucky := Or.inl (sx_in (List.mem_of_getElem? (i := 1179) (by decide +kernel)) rfl)
theorem ml_X11_258 : sx_ML RX11 258 yX11_setsOf := Or.inl (sx_in (List.mem_of_getElem? (i := 1183) (by decide +kernel)) rfl)
theorem ml_X11_356 : sx_ML RX11 356 yX4_total := Or.inr ⟨"SwitchGame", sx_in (List.mem_of_getElem? (i := 1187) (by decide +kernel)) rfl⟩
theorem ml_X11_358 : sx_ML RX11 358 yX4_sized := Or.inr ⟨"SwitchGame", sx_in (List.mem_of_getElem? (i := 1191) (by decide +kernel)) rfl⟩
theorem ml_L_122 : sx_ML RL 122 yX11_luckyWith := Or.inl (sx_in (List.mem_of_getElem? (i := 1192) (by decide +kernel)) rfl)
theorem ml_X11_261 : sx_ML RX11 261 yX4_having := Or.inr ⟨"SwitchGame", sx_in (List.mem_of_getElem? (i := 1196) (by decide +kernel)) rfl⟩
theorem ml_X4_127 : sx_ML RX4 127 yX4_bitOf := Or.inl (sx_in (List.mem_of_getElem? (i := 1200) (by decide +kernel)) rfl)
theorem ml_X4_130 : sx_ML RX4 130 yX4_withBit := Or.inl (sx_in (List.mem_of_getElem? (i := 1204) (by decide +kernel)) rfl)
theorem kn_X4_133 : Cond.constant RX4 133 (-1431655766) ∈ sx_tb := sx_in (List.mem_of_getElem? (i := 1207) (by decide +kernel)) rfl
theorem kn_X4_134 : Cond.constant RX4 134 (-858993460) ∈ sx_tb := sx_in (List.mem_of_getElem? (i := 1208) (by decide +kernel)) rfl
theorem kn_X4_135 : Cond.constant RX4 135 (-252645136) ∈ sx_tb := sx_in (List.mem_of_getElem? (i := 1209) (by decide +kernel)) rfl
theorem kn_X4_136 : Cond.constant RX4 136 (-16711936) ∈ sx_tb := sx_in (List.mem_of_getElem? (i := 1210) (by decide +kernel)) rfl
theorem kn_X4_137 : Cond.constant RX4 137 (-65536) ∈ sx_tb := sx_in (List.mem_of_getElem? (i := 1211) (by decide +kernel)) rfl
theorem ml_L_126 : sx_ML RL 126 yX11_trees := Or.inl (sx_in (List.mem_of_getElem? (i := 1212) (by decide +kernel)) rfl)
theorem ml_X11_264 : sx_ML RX11 264 yX10_tally := Or.inr ⟨"SwitchGame", sx_in (List.mem_of_getElem? (i := 1216) (by decide +kernel)) rfl⟩
theorem ml_X10_28 : sx_ML RX10 28 yX6_placesBy := Or.inr ⟨"SwitchGame", sx_in (List.mem_of_getElem? (i := 1220) (by decide +kernel)) rfl⟩
theorem ml_X10_37 : sx_ML RX10 37 yX8_heads := Or.inr ⟨"SwitchGame", sx_in (List.mem_of_getElem? (i := 1221) (by decide +kernel)) rfl⟩
theorem ml_X10_43 : sx_ML RX10 43 yX10_clear := Or.inl (sx_in (List.mem_of_getElem? (i := 1222) (by decide +kernel)) rfl)
theorem ml_X10_50 : sx_ML RX10 50 yX11_has := Or.inr ⟨"SwitchGame", sx_in (List.mem_of_getElem? (i := 1226) (by decide +kernel)) rfl⟩
theorem ml_X10_75 : sx_ML RX10 75 yJ7_fill_d0a16 := Or.inl (sx_in (List.mem_of_getElem? (i := 1227) (by decide +kernel)) rfl)
theorem ml_X10_47 : sx_ML RX10 47 yX6_openOf := Or.inr ⟨"SwitchGame", sx_in (List.mem_of_getElem? (i := 1230) (by decide +kernel)) rfl⟩
theorem ml_X10_54 : sx_ML RX10 54 yX6_isLine := Or.inr ⟨"SwitchGame", sx_in (List.mem_of_getElem? (i := 1231) (by decide +kernel)) rfl⟩
theorem ml_X10_61 : sx_ML RX10 61 yX8_numberOf := Or.inr ⟨"SwitchGame", sx_in (List.mem_of_getElem? (i := 1232) (by decide +kernel)) rfl⟩
theorem ml_X10_67 : sx_ML RX10 67 yX10_enter := Or.inl (sx_in (List.mem_of_getElem? (i := 1233) (by decide +kernel)) rfl)
theorem ml_X10_81 : sx_ML RX10 81 yX10_add := Or.inl (sx_in (List.mem_of_getElem? (i := 1237) (by decide +kernel)) rfl)
theorem ml_X10_71 : sx_ML RX10 71 yX10_determinant := Or.inl (sx_in (List.mem_of_getElem? (i := 1241) (by decide +kernel)) rfl)
theorem ml_L_130 : sx_ML RL 130 yX11_treesWith := Or.inl (sx_in (List.mem_of_getElem? (i := 1245) (by decide +kernel)) rfl)
theorem ml_L_134 : sx_ML RL 134 yX11_idle := Or.inl (sx_in (List.mem_of_getElem? (i := 1249) (by decide +kernel)) rfl)
theorem ml_L_138 : sx_ML RL 138 yX11_ifLine := Or.inl (sx_in (List.mem_of_getElem? (i := 1253) (by decide +kernel)) rfl)
theorem ml_L_142 : sx_ML RL 142 yX11_ifMore := Or.inl (sx_in (List.mem_of_getElem? (i := 1257) (by decide +kernel)) rfl)
theorem ml_X11_267 : sx_ML RX11 267 yX11_areTwoKnots := Or.inl (sx_in (List.mem_of_getElem? (i := 1261) (by decide +kernel)) rfl)
theorem ml_X11_270 : sx_ML RX11 270 yX3_lackingWithMore := Or.inr ⟨"SwitchGame", sx_in (List.mem_of_getElem? (i := 1265) (by decide +kernel)) rfl⟩
theorem ml_X3_83 : sx_ML RX3 83 yX6_endsMeet := Or.inr ⟨"SwitchGame", sx_in (List.mem_of_getElem? (i := 1269) (by decide +kernel)) rfl⟩
theorem ml_L_146 : sx_ML RL 146 yX11_ifEnds := Or.inl (sx_in (List.mem_of_getElem? (i := 1270) (by decide +kernel)) rfl)
theorem ml_X11_273 : sx_ML RX11 273 yX3_lackingBetween := Or.inr ⟨"SwitchGame", sx_in (List.mem_of_getElem? (i := 1274) (by decide +kernel)) rfl⟩
theorem ml_L_150 : sx_ML RL 150 yX11_lacks := Or.inl (sx_in (List.mem_of_getElem? (i := 1275) (by decide +kernel)) rfl)
theorem ml_L_154 : sx_ML RL 154 yX11_cutAnswer := Or.inl (sx_in (List.mem_of_getElem? (i := 1279) (by decide +kernel)) rfl)
theorem ml_L_158 : sx_ML RL 158 yX11_verifiedForCut := Or.inl (sx_in (List.mem_of_getElem? (i := 1283) (by decide +kernel)) rfl)
theorem ml_L_162 : sx_ML RL 162 yX11_pivots := Or.inl (sx_in (List.mem_of_getElem? (i := 1287) (by decide +kernel)) rfl)
theorem ml_X11_279 : sx_ML RX11 279 yX4_turnedBy := Or.inr ⟨"SwitchGame", sx_in (List.mem_of_getElem? (i := 1291) (by decide +kernel)) rfl⟩
theorem ml_X4_138 : sx_ML RX4 138 yX4_having := Or.inl (sx_in (List.mem_of_getElem? (i := 1295) (by decide +kernel)) rfl)
theorem ml_X4_141 : sx_ML RX4 141 yX4_total := Or.inl (sx_in (List.mem_of_getElem? (i := 1296) (by decide +kernel)) rfl)
theorem ml_L_166 : sx_ML RL 166 yX11_needed := Or.inl (sx_in (List.mem_of_getElem? (i := 1297) (by decide +kernel)) rfl)
theorem ml_X11_282 : sx_ML RX11 282 yX4_inAll := Or.inr ⟨"SwitchGame", sx_in (List.mem_of_getElem? (i := 1301) (by decide +kernel)) rfl⟩
theorem ml_L_170 : sx_ML RL 170 yX11_walls := Or.inl (sx_in (List.mem_of_getElem? (i := 1305) (by decide +kernel)) rfl)
theorem ml_L_174 : sx_ML RL 174 yX11_set := Or.inl (sx_in (List.mem_of_getElem? (i := 1309) (by decide +kernel)) rfl)
theorem ml_X11_285 : sx_ML RX11 285 yX7_nthSet := Or.inr ⟨"SwitchGame", sx_in (List.mem_of_getElem? (i := 1313) (by decide +kernel)) rfl⟩
theorem ml_L_178 : sx_ML RL 178 yX11_alike := Or.inl (sx_in (List.mem_of_getElem? (i := 1314) (by decide +kernel)) rfl)
theorem ml_X11_288 : sx_ML RX11 288 yX4_areAlike := Or.inr ⟨"SwitchGame", sx_in (List.mem_of_getElem? (i := 1318) (by decide +kernel)) rfl⟩
theorem ml_L_182 : sx_ML RL 182 yX11_strong := Or.inl (sx_in (List.mem_of_getElem? (i := 1322) (by decide +kernel)) rfl)
theorem ml_X11_291 : sx_ML RX11 291 yX4_strongest := Or.inr ⟨"SwitchGame", sx_in (List.mem_of_getElem? (i := 1326) (by decide +kernel)) rfl⟩
theorem ml_X4_144 : sx_ML RX4 144 yX4_turnedBy := Or.inl (sx_in (List.mem_of_getElem? (i := 1330) (by decide +kernel)) rfl)
theorem ml_X4_147 : sx_ML RX4 147 yX4_aheadOf := Or.inl (sx_in (List.mem_of_getElem? (i := 1331) (by decide +kernel)) rfl)
theorem ml_L_186 : sx_ML RL 186 yX11_forests := Or.inl (sx_in (List.mem_of_getElem? (i := 1335) (by decide +kernel)) rfl)
theorem ml_X11_294 : sx_ML RX11 294 yX3_bringOpen := Or.inr ⟨"SwitchGame", sx_in (List.mem_of_getElem? (i := 1339) (by decide +kernel)) rfl⟩
theorem ml_X11_297 : sx_ML RX11 297 yX0_total := Or.inr ⟨"SwitchGame", sx_in (List.mem_of_getElem? (i := 1340) (by decide +kernel)) rfl⟩
theorem ml_X11_300 : sx_ML RX11 300 yX0_lower := Or.inr ⟨"SwitchGame", sx_in (List.mem_of_getElem? (i := 1341) (by decide +kernel)) rfl⟩
theorem ml_L_190 : sx_ML RL 190 yX11_duel := Or.inl (sx_in (List.mem_of_getElem? (i := 1342) (by decide +kernel)) rfl)
theorem ml_X11_309 : sx_ML RX11 309 yX1_movesOfDuel := Or.inr ⟨"SwitchGame", sx_in (List.mem_of_getElem? (i := 1346) (by decide +kernel)) rfl⟩
theorem ml_X1_112 : sx_ML RX1 112 yX1_drawLine := Or.inl (sx_in (List.mem_of_getElem? (i := 1350) (by decide +kernel)) rfl)
theorem ml_X1_101 : sx_ML RX1 101 yJ6_bitCount_0f7a4 := Or.inl (sx_in (List.mem_of_getElem? (i := 1354) (by decide +kernel)) rfl)
theorem ml_X1_106 : sx_ML RX1 106 yX1_draw := Or.inl (sx_in (List.mem_of_getElem? (i := 1355) (by decide +kernel)) rfl)
theorem kn_X1_93 : Cond.constantLong RX1 93 (1103515245) ∈ sx_tb := sx_in (List.mem_of_getElem? (i := 1359) (by decide +kernel)) rfl
theorem kn_X1_95 : Cond.constantLong RX1 95 (12345) ∈ sx_tb := sx_in (List.mem_of_getElem? (i := 1360) (by decide +kernel)) rfl
theorem kn_X1_97 : Cond.constantLong RX1 97 (2147483648) ∈ sx_tb := sx_in (List.mem_of_getElem? (i := 1361) (by decide +kernel)) rfl
theorem kn_X1_99 : Cond.constantLong RX1 99 (65536) ∈ sx_tb := sx_in (List.mem_of_getElem? (i := 1362) (by decide +kernel)) rfl
theorem ml_X1_115 : sx_ML RX1 115 yX7_reply := Or.inr ⟨"SwitchGame", sx_in (List.mem_of_getElem? (i := 1363) (by decide +kernel)) rfl⟩
theorem ml_L_194 : sx_ML RL 194 yX11_chance := Or.inl (sx_in (List.mem_of_getElem? (i := 1364) (by decide +kernel)) rfl)
theorem ml_X11_312 : sx_ML RX11 312 yX1_joinedByChance := Or.inr ⟨"SwitchGame", sx_in (List.mem_of_getElem? (i := 1368) (by decide +kernel)) rfl⟩
theorem ml_X1_109 : sx_ML RX1 109 yX1_holderByChance := Or.inl (sx_in (List.mem_of_getElem? (i := 1372) (by decide +kernel)) rfl)
theorem ml_L_198 : sx_ML RL 198 yX11_count := Or.inl (sx_in (List.mem_of_getElem? (i := 1376) (by decide +kernel)) rfl)
theorem ml_L_35 : sx_ML RL 35 yL_line := Or.inl (sx_in (List.mem_of_getElem? (i := 1380) (by decide +kernel)) rfl)
theorem ml_L_7 : sx_ML RL 7 yX11_line := Or.inl (sx_in (List.mem_of_getElem? (i := 1385) (by decide +kernel)) rfl)
theorem ml_X11_139 : sx_ML RX11 139 yX11_stateOf := Or.inl (sx_in (List.mem_of_getElem? (i := 1455) (by decide +kernel)) rfl)
theorem ck_L_18 : Cond.classLink RL 18 RX12 ∈ sx_tb := sx_in (List.mem_of_getElem? (i := 1475) (by decide +kernel)) rfl
theorem it_X12 : Cond.instantiable RX12 53 ∈ sx_tb := sx_in (List.mem_of_getElem? (i := 1476) (by decide +kernel)) rfl
theorem ml_L_20 : sx_ML RL 20 yX12_init := Or.inl (sx_in (List.mem_of_getElem? (i := 1477) (by decide +kernel)) rfl)
theorem oi_X12 : Cond.methodLink RX12 1 Lib.objectInit ∈ sx_tb := sx_in (List.mem_of_getElem? (i := 1480) (by decide +kernel)) rfl
theorem kn_X12_56 : Cond.constant RX12 56 (118098) ∈ sx_tb := sx_in (List.mem_of_getElem? (i := 1481) (by decide +kernel)) rfl
theorem ml_L_41 : sx_ML RL 41 yX12_thrown := Or.inl (sx_in (List.mem_of_getElem? (i := 1642) (by decide +kernel)) rfl)
theorem ml_L_25 : sx_ML RL 25 yX12_feed := Or.inl (sx_in (List.mem_of_getElem? (i := 1646) (by decide +kernel)) rfl)
theorem ml_L_30 : sx_ML RL 30 yX12_text := Or.inl (sx_in (List.mem_of_getElem? (i := 1650) (by decide +kernel)) rfl)
theorem ml_X12_192 : sx_ML RX12 192 yX12_readText := Or.inl (sx_in (List.mem_of_getElem? (i := 1654) (by decide +kernel)) rfl)
theorem ml_X12_125 : sx_ML RX12 125 yX12_token := Or.inl (sx_in (List.mem_of_getElem? (i := 1658) (by decide +kernel)) rfl)
theorem ml_X12_85 : sx_ML RX12 85 yX12_here := Or.inl (sx_in (List.mem_of_getElem? (i := 1662) (by decide +kernel)) rfl)
theorem ml_X12_95 : sx_ML RX12 95 yX12_isSmall := Or.inl (sx_in (List.mem_of_getElem? (i := 1666) (by decide +kernel)) rfl)
theorem ml_X12_99 : sx_ML RX12 99 yX12_wordHere := Or.inl (sx_in (List.mem_of_getElem? (i := 1669) (by decide +kernel)) rfl)
theorem ml_X12_110 : sx_ML RX12 110 yJ0_length_8abf5 := Or.inl (sx_in (List.mem_of_getElem? (i := 1674) (by decide +kernel)) rfl)
theorem ml_X12_115 : sx_ML RX12 115 yJ0_charAt_5068e := Or.inl (sx_in (List.mem_of_getElem? (i := 1675) (by decide +kernel)) rfl)
theorem ml_X12_105 : sx_ML RX12 105 yX12_isDigit := Or.inl (sx_in (List.mem_of_getElem? (i := 1676) (by decide +kernel)) rfl)
theorem ml_X12_189 : sx_ML RX12 189 yX12_readLine := Or.inl (sx_in (List.mem_of_getElem? (i := 1679) (by decide +kernel)) rfl)
theorem ml_X12_128 : sx_ML RX12 128 yX12_wrong := Or.inl (sx_in (List.mem_of_getElem? (i := 1683) (by decide +kernel)) rfl)
theorem ml_X12_170 : sx_ML RX12 170 yX12_readKnots := Or.inl (sx_in (List.mem_of_getElem? (i := 1687) (by decide +kernel)) rfl)
theorem ml_X12_135 : sx_ML RX12 135 yX12_goOn := Or.inl (sx_in (List.mem_of_getElem? (i := 1691) (by decide +kernel)) rfl)
theorem ml_X12_173 : sx_ML RX12 173 yX12_readEnds := Or.inl (sx_in (List.mem_of_getElem? (i := 1695) (by decide +kernel)) rfl)
theorem ml_X12_145 : sx_ML RX12 145 yX12_numberBelow := Or.inl (sx_in (List.mem_of_getElem? (i := 1699) (by decide +kernel)) rfl)
theorem ml_X12_176 : sx_ML RX12 176 yX12_readOne := Or.inl (sx_in (List.mem_of_getElem? (i := 1703) (by decide +kernel)) rfl)
theorem ml_X12_179 : sx_ML RX12 179 yX12_readDone := Or.inl (sx_in (List.mem_of_getElem? (i := 1707) (by decide +kernel)) rfl)
theorem ml_X12_183 : sx_ML RX12 183 yX12_readFirst := Or.inl (sx_in (List.mem_of_getElem? (i := 1711) (by decide +kernel)) rfl)
theorem ml_X12_164 : sx_ML RX12 164 yX12_isWord := Or.inl (sx_in (List.mem_of_getElem? (i := 1715) (by decide +kernel)) rfl)
theorem ml_L_34 : sx_ML RL 34 yX12_fault := Or.inl (sx_in (List.mem_of_getElem? (i := 1719) (by decide +kernel)) rfl)
theorem ml_L_40 : sx_ML RL 40 yX12_line := Or.inl (sx_in (List.mem_of_getElem? (i := 1723) (by decide +kernel)) rfl)
theorem ml_X12_304 : sx_ML RX12 304 yX12_isLine := Or.inl (sx_in (List.mem_of_getElem? (i := 1727) (by decide +kernel)) rfl)
theorem ml_L_48 : sx_ML RL 48 yX12_place := Or.inl (sx_in (List.mem_of_getElem? (i := 1731) (by decide +kernel)) rfl)
theorem ml_X12_307 : sx_ML RX12 307 yX12_isKnot := Or.inl (sx_in (List.mem_of_getElem? (i := 1735) (by decide +kernel)) rfl)
theorem ml_X12_220 : sx_ML RX12 220 yX12_laysParts := Or.inl (sx_in (List.mem_of_getElem? (i := 1739) (by decide +kernel)) rfl)
theorem ml_X12_216 : sx_ML RX12 216 yX12_merges := Or.inl (sx_in (List.mem_of_getElem? (i := 1743) (by decide +kernel)) rfl)
theorem ml_L_52 : sx_ML RL 52 yX12_reaches := Or.inl (sx_in (List.mem_of_getElem? (i := 1747) (by decide +kernel)) rfl)
theorem ml_X12_223 : sx_ML RX12 223 yX12_all := Or.inl (sx_in (List.mem_of_getElem? (i := 1751) (by decide +kernel)) rfl)
theorem ml_L_56 : sx_ML RL 56 yX12_move := Or.inl (sx_in (List.mem_of_getElem? (i := 1755) (by decide +kernel)) rfl)
theorem ml_X12_310 : sx_ML RX12 310 yX12_isOpen := Or.inl (sx_in (List.mem_of_getElem? (i := 1759) (by decide +kernel)) rfl)
theorem ml_X12_298 : sx_ML RX12 298 yX12_openNow := Or.inl (sx_in (List.mem_of_getElem? (i := 1763) (by decide +kernel)) rfl)
theorem ml_X12_226 : sx_ML RX12 226 yX12_open := Or.inl (sx_in (List.mem_of_getElem? (i := 1767) (by decide +kernel)) rfl)
theorem ml_X12_313 : sx_ML RX12 313 yX12_isOver := Or.inl (sx_in (List.mem_of_getElem? (i := 1771) (by decide +kernel)) rfl)
theorem ml_X12_301 : sx_ML RX12 301 yX12_has := Or.inl (sx_in (List.mem_of_getElem? (i := 1775) (by decide +kernel)) rfl)
theorem ml_X12_230 : sx_ML RX12 230 yX12_hangs := Or.inl (sx_in (List.mem_of_getElem? (i := 1779) (by decide +kernel)) rfl)
theorem ml_X12_317 : sx_ML RX12 317 yX12_writes := Or.inl (sx_in (List.mem_of_getElem? (i := 1783) (by decide +kernel)) rfl)
theorem ml_L_61 : sx_ML RL 61 yX12_pass := Or.inl (sx_in (List.mem_of_getElem? (i := 1787) (by decide +kernel)) rfl)
theorem ml_L_65 : sx_ML RL 65 yX12_undo := Or.inl (sx_in (List.mem_of_getElem? (i := 1791) (by decide +kernel)) rfl)
theorem ml_L_69 : sx_ML RL 69 yX12_written := Or.inl (sx_in (List.mem_of_getElem? (i := 1795) (by decide +kernel)) rfl)
theorem ml_L_73 : sx_ML RL 73 yX12_now := Or.inl (sx_in (List.mem_of_getElem? (i := 1799) (by decide +kernel)) rfl)
theorem ml_X12_250 : sx_ML RX12 250 yX12_bits := Or.inl (sx_in (List.mem_of_getElem? (i := 1803) (by decide +kernel)) rfl)
theorem ml_X12_236 : sx_ML RX12 236 yJ6_bitCount_0f7a4 := Or.inl (sx_in (List.mem_of_getElem? (i := 1806) (by decide +kernel)) rfl)
theorem ml_X12_320 : sx_ML RX12 320 yX12_placesNow := Or.inl (sx_in (List.mem_of_getElem? (i := 1807) (by decide +kernel)) rfl)
theorem ml_X12_256 : sx_ML RX12 256 yX12_laysPlaces := Or.inl (sx_in (List.mem_of_getElem? (i := 1811) (by decide +kernel)) rfl)
theorem ml_X12_259 : sx_ML RX12 259 yX12_placeBits := Or.inl (sx_in (List.mem_of_getElem? (i := 1815) (by decide +kernel)) rfl)
theorem ml_L_77 : sx_ML RL 77 yX12_pair := Or.inl (sx_in (List.mem_of_getElem? (i := 1819) (by decide +kernel)) rfl)
theorem ml_X12_323 : sx_ML RX12 323 yX12_laysPair := Or.inl (sx_in (List.mem_of_getElem? (i := 1823) (by decide +kernel)) rfl)
theorem ml_X12_278 : sx_ML RX12 278 yX12_setAt := Or.inl (sx_in (List.mem_of_getElem? (i := 1827) (by decide +kernel)) rfl)
theorem ml_X12_262 : sx_ML RX12 262 yX12_endBits := Or.inl (sx_in (List.mem_of_getElem? (i := 1831) (by decide +kernel)) rfl)
theorem ml_X12_265 : sx_ML RX12 265 yX12_hasTwo := Or.inl (sx_in (List.mem_of_getElem? (i := 1835) (by decide +kernel)) rfl)
theorem ml_X12_247 : sx_ML RX12 247 yX12_within := Or.inl (sx_in (List.mem_of_getElem? (i := 1839) (by decide +kernel)) rfl)
theorem ml_X12_253 : sx_ML RX12 253 yX12_twoForests := Or.inl (sx_in (List.mem_of_getElem? (i := 1843) (by decide +kernel)) rfl)
theorem ml_X12_241 : sx_ML RX12 241 yX12_grows := Or.inl (sx_in (List.mem_of_getElem? (i := 1847) (by decide +kernel)) rfl)
theorem ml_X12_233 : sx_ML RX12 233 yX12_isForest := Or.inl (sx_in (List.mem_of_getElem? (i := 1851) (by decide +kernel)) rfl)
theorem ml_X12_244 : sx_ML RX12 244 yX12_settles := Or.inl (sx_in (List.mem_of_getElem? (i := 1855) (by decide +kernel)) rfl)
theorem ml_X12_285 : sx_ML RX12 285 yX12_leastTree := Or.inl (sx_in (List.mem_of_getElem? (i := 1859) (by decide +kernel)) rfl)
theorem ml_X12_275 : sx_ML RX12 275 yX12_rank := Or.inl (sx_in (List.mem_of_getElem? (i := 1863) (by decide +kernel)) rfl)
theorem ml_L_177 : sx_ML RL 177 yX12_set := Or.inl (sx_in (List.mem_of_getElem? (i := 1867) (by decide +kernel)) rfl)
theorem ml_L_81 : sx_ML RL 81 yX12_outcome := Or.inl (sx_in (List.mem_of_getElem? (i := 1871) (by decide +kernel)) rfl)
theorem ml_X12_326 : sx_ML RX12 326 yX12_outcomeOf := Or.inl (sx_in (List.mem_of_getElem? (i := 1875) (by decide +kernel)) rfl)
theorem ml_X12_269 : sx_ML RX12 269 yX12_isSafe := Or.inl (sx_in (List.mem_of_getElem? (i := 1879) (by decide +kernel)) rfl)
theorem ml_X12_272 : sx_ML RX12 272 yX12_isKeen := Or.inl (sx_in (List.mem_of_getElem? (i := 1883) (by decide +kernel)) rfl)
theorem ml_L_85 : sx_ML RL 85 yX12_wins := Or.inl (sx_in (List.mem_of_getElem? (i := 1887) (by decide +kernel)) rfl)
theorem ml_X12_333 : sx_ML RX12 333 yX12_winAt := Or.inl (sx_in (List.mem_of_getElem? (i := 1891) (by decide +kernel)) rfl)
theorem ml_X12_329 : sx_ML RX12 329 yX12_winsFor := Or.inl (sx_in (List.mem_of_getElem? (i := 1895) (by decide +kernel)) rfl)
theorem ml_L_89 : sx_ML RL 89 yX12_answer := Or.inl (sx_in (List.mem_of_getElem? (i := 1899) (by decide +kernel)) rfl)
theorem ml_X12_337 : sx_ML RX12 337 yX12_answerOf := Or.inl (sx_in (List.mem_of_getElem? (i := 1903) (by decide +kernel)) rfl)
theorem ml_X12_295 : sx_ML RX12 295 yJ6_numberOfTrailingZeros_0f7a4 := Or.inl (sx_in (List.mem_of_getElem? (i := 1907) (by decide +kernel)) rfl)
theorem kn_J6_264 : Cond.constant RJ6 264 (65536) ∈ sx_tb := sx_in (List.mem_of_getElem? (i := 1910) (by decide +kernel)) rfl
theorem ml_L_93 : sx_ML RL 93 yX12_exchange := Or.inl (sx_in (List.mem_of_getElem? (i := 1911) (by decide +kernel)) rfl)
theorem ml_X12_340 : sx_ML RX12 340 yX12_exchangeOf := Or.inl (sx_in (List.mem_of_getElem? (i := 1915) (by decide +kernel)) rfl)
theorem ml_L_97 : sx_ML RL 97 yX12_played := Or.inl (sx_in (List.mem_of_getElem? (i := 1919) (by decide +kernel)) rfl)
theorem ml_X12_346 : sx_ML RX12 346 yX12_plays := Or.inl (sx_in (List.mem_of_getElem? (i := 1923) (by decide +kernel)) rfl)
theorem ml_L_101 : sx_ML RL 101 yX12_verified := Or.inl (sx_in (List.mem_of_getElem? (i := 1927) (by decide +kernel)) rfl)
theorem ml_X12_355 : sx_ML RX12 355 yX12_verifies := Or.inl (sx_in (List.mem_of_getElem? (i := 1931) (by decide +kernel)) rfl)
theorem ml_L_157 : sx_ML RL 157 yX12_cutAnswer := Or.inl (sx_in (List.mem_of_getElem? (i := 1935) (by decide +kernel)) rfl)
theorem ml_X12_358 : sx_ML RX12 358 yX12_cutBy := Or.inl (sx_in (List.mem_of_getElem? (i := 1939) (by decide +kernel)) rfl)
theorem ml_L_161 : sx_ML RL 161 yX12_verifiedForCut := Or.inl (sx_in (List.mem_of_getElem? (i := 1943) (by decide +kernel)) rfl)
theorem ml_X12_361 : sx_ML RX12 361 yX12_verifiesCut := Or.inl (sx_in (List.mem_of_getElem? (i := 1947) (by decide +kernel)) rfl)
theorem ml_L_105 : sx_ML RL 105 yX12_full := Or.inl (sx_in (List.mem_of_getElem? (i := 1951) (by decide +kernel)) rfl)
theorem ml_X12_367 : sx_ML RX12 367 yX12_laysThrees := Or.inl (sx_in (List.mem_of_getElem? (i := 1955) (by decide +kernel)) rfl)
theorem ml_X12_364 : sx_ML RX12 364 yX12_winner := Or.inl (sx_in (List.mem_of_getElem? (i := 1959) (by decide +kernel)) rfl)
theorem ml_L_109 : sx_ML RL 109 yX12_positions := Or.inl (sx_in (List.mem_of_getElem? (i := 1963) (by decide +kernel)) rfl)
theorem ml_L_113 : sx_ML RL 113 yX12_wall := Or.inl (sx_in (List.mem_of_getElem? (i := 1967) (by decide +kernel)) rfl)
theorem ml_X12_373 : sx_ML RX12 373 yX12_leastSo := Or.inl (sx_in (List.mem_of_getElem? (i := 1971) (by decide +kernel)) rfl)
theorem ml_X12_370 : sx_ML RX12 370 yX12_isSo := Or.inl (sx_in (List.mem_of_getElem? (i := 1975) (by decide +kernel)) rfl)
theorem ml_L_117 : sx_ML RL 117 yX12_road := Or.inl (sx_in (List.mem_of_getElem? (i := 1979) (by decide +kernel)) rfl)
theorem ml_L_121 : sx_ML RL 121 yX12_lucky := Or.inl (sx_in (List.mem_of_getElem? (i := 1983) (by decide +kernel)) rfl)
theorem ml_X12_376 : sx_ML RX12 376 yX12_manySo := Or.inl (sx_in (List.mem_of_getElem? (i := 1987) (by decide +kernel)) rfl)
theorem ml_L_173 : sx_ML RL 173 yX12_walls := Or.inl (sx_in (List.mem_of_getElem? (i := 1991) (by decide +kernel)) rfl)
theorem ml_L_125 : sx_ML RL 125 yX12_luckyWith := Or.inl (sx_in (List.mem_of_getElem? (i := 1995) (by decide +kernel)) rfl)
theorem ml_X12_379 : sx_ML RX12 379 yX12_wrongLine := Or.inl (sx_in (List.mem_of_getElem? (i := 1999) (by decide +kernel)) rfl)
theorem ml_L_129 : sx_ML RL 129 yX12_trees := Or.inl (sx_in (List.mem_of_getElem? (i := 2003) (by decide +kernel)) rfl)
theorem ml_L_133 : sx_ML RL 133 yX12_treesWith := Or.inl (sx_in (List.mem_of_getElem? (i := 2007) (by decide +kernel)) rfl)
theorem ml_L_165 : sx_ML RL 165 yX12_pivots := Or.inl (sx_in (List.mem_of_getElem? (i := 2011) (by decide +kernel)) rfl)
theorem ml_X12_382 : sx_ML RX12 382 yX12_pivotsOf := Or.inl (sx_in (List.mem_of_getElem? (i := 2015) (by decide +kernel)) rfl)
theorem ml_L_185 : sx_ML RL 185 yX12_strong := Or.inl (sx_in (List.mem_of_getElem? (i := 2019) (by decide +kernel)) rfl)
theorem ml_L_169 : sx_ML RL 169 yX12_needed := Or.inl (sx_in (List.mem_of_getElem? (i := 2023) (by decide +kernel)) rfl)
theorem ml_L_181 : sx_ML RL 181 yX12_alike := Or.inl (sx_in (List.mem_of_getElem? (i := 2027) (by decide +kernel)) rfl)
theorem ml_L_189 : sx_ML RL 189 yX12_forests := Or.inl (sx_in (List.mem_of_getElem? (i := 2031) (by decide +kernel)) rfl)
theorem ml_L_137 : sx_ML RL 137 yX12_idle := Or.inl (sx_in (List.mem_of_getElem? (i := 2035) (by decide +kernel)) rfl)
theorem ml_L_141 : sx_ML RL 141 yX12_ifLine := Or.inl (sx_in (List.mem_of_getElem? (i := 2039) (by decide +kernel)) rfl)
theorem ml_L_145 : sx_ML RL 145 yX12_ifMore := Or.inl (sx_in (List.mem_of_getElem? (i := 2043) (by decide +kernel)) rfl)
theorem ml_X12_385 : sx_ML RX12 385 yX12_more := Or.inl (sx_in (List.mem_of_getElem? (i := 2047) (by decide +kernel)) rfl)
theorem ml_L_149 : sx_ML RL 149 yX12_ifEnds := Or.inl (sx_in (List.mem_of_getElem? (i := 2051) (by decide +kernel)) rfl)
theorem ml_L_153 : sx_ML RL 153 yX12_lacks := Or.inl (sx_in (List.mem_of_getElem? (i := 2055) (by decide +kernel)) rfl)
theorem ml_L_197 : sx_ML RL 197 yX12_chance := Or.inl (sx_in (List.mem_of_getElem? (i := 2059) (by decide +kernel)) rfl)
theorem ml_X12_400 : sx_ML RX12 400 yX12_drawn := Or.inl (sx_in (List.mem_of_getElem? (i := 2063) (by decide +kernel)) rfl)
theorem kn_X12_392 : Cond.constantLong RX12 392 (1103515245) ∈ sx_tb := sx_in (List.mem_of_getElem? (i := 2067) (by decide +kernel)) rfl
theorem kn_X12_394 : Cond.constantLong RX12 394 (12345) ∈ sx_tb := sx_in (List.mem_of_getElem? (i := 2068) (by decide +kernel)) rfl
theorem kn_X12_396 : Cond.constantLong RX12 396 (2147483648) ∈ sx_tb := sx_in (List.mem_of_getElem? (i := 2069) (by decide +kernel)) rfl
theorem kn_X12_398 : Cond.constantLong RX12 398 (65536) ∈ sx_tb := sx_in (List.mem_of_getElem? (i := 2070) (by decide +kernel)) rfl
theorem ml_L_193 : sx_ML RL 193 yX12_duel := Or.inl (sx_in (List.mem_of_getElem? (i := 2071) (by decide +kernel)) rfl)
theorem ml_L_201 : sx_ML RL 201 yX12_count := Or.inl (sx_in (List.mem_of_getElem? (i := 2075) (by decide +kernel)) rfl)
theorem ac_nat : Cond.native arraycopyName ∈ sx_tb := sx_in (List.mem_of_getElem? (i := 735) (by decide +kernel)) rfl
theorem ac_stat : Cond.static arraycopyName ∈ sx_tb := sx_in (List.mem_of_getElem? (i := 734) (by decide +kernel)) rfl
theorem oi_inst : Cond.instanceMethod Lib.objectInit ∈ sx_tb := sx_in (List.mem_of_getElem? (i := 205) (by decide +kernel)) rfl
theorem oi_code : Cond.code Lib.objectInit ⟨#[0xb1]⟩ 1 none ∈ sx_tb := sx_in (List.mem_of_getElem? (i := 206) (by decide +kernel)) rfl
theorem fs_X4_97 : Cond.fieldLink RX4 97 RX4 "OF_SIZE" "[I" ∈ sx_tb := sx_in (List.mem_of_getElem? (i := 1124) (by decide +kernel)) rfl
