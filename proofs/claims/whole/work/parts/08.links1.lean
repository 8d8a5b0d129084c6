theorem in_X0 : ∀ w ∈ u_ws RX0 TX0 9, w ∈ sx_tb := by decide +kernel
theorem cl_X0 : sx_CL 0 RX0 TX0 9 tyX0 := ⟨rfl, in_X0, tyX0_ok, nmX0, by decide +kernel⟩
theorem in_X1 : ∀ w ∈ u_ws RX1 TX1 5, w ∈ sx_tb := by decide +kernel
theorem cl_X1 : sx_CL 1 RX1 TX1 5 tyX1 := ⟨rfl, in_X1, tyX1_ok, nmX1, by decide +kernel⟩
theorem in_X2 : ∀ w ∈ u_ws RX2 TX2 3, w ∈ sx_tb := by decide +kernel
theorem cl_X2 : sx_CL 2 RX2 TX2 3 tyX2 := ⟨rfl, in_X2, tyX2_ok, nmX2, by decide +kernel⟩
theorem in_X3 : ∀ w ∈ u_ws RX3 TX3 2, w ∈ sx_tb := by decide +kernel
theorem cl_X3 : sx_CL 3 RX3 TX3 2 tyX3 := ⟨rfl, in_X3, tyX3_ok, nmX3, by decide +kernel⟩
theorem in_X4 : ∀ w ∈ u_ws RX4 TX4 9, w ∈ sx_tb := by decide +kernel
theorem cl_X4 : sx_CL 4 RX4 TX4 9 tyX4 := ⟨rfl, in_X4, tyX4_ok, nmX4, by decide +kernel⟩
theorem in_X5 : ∀ w ∈ u_ws RX5 TX5 2, w ∈ sx_tb := by decide +kernel
theorem cl_X5 : sx_CL 5 RX5 TX5 2 tyX5 := ⟨rfl, in_X5, tyX5_ok, nmX5, by decide +kernel⟩
theorem in_X6 : ∀ w ∈ u_ws RX6 TX6 10, w ∈ sx_tb := by decide +kernel
theorem cl_X6 : sx_CL 6 RX6 TX6 10 tyX6 := ⟨rfl, in_X6, tyX6_ok, nmX6, by decide +kernel⟩
theorem in_X7 : ∀ w ∈ u_ws RX7 TX7 6, w ∈ sx_tb := by decide +kernel
theorem cl_X7 : sx_CL 7 RX7 TX7 6 tyX7 := ⟨rfl, in_X7, tyX7_ok, nmX7, by decide +kernel⟩
theorem in_X9 : ∀ w ∈ u_ws RX9 TX9 13, w ∈ sx_tb := by decide +kernel
theorem cl_X9 : sx_CL 8 RX9 TX9 13 tyX9 := ⟨rfl, in_X9, tyX9_ok, nmX9, by decide +kernel⟩
theorem in_X10 : ∀ w ∈ u_ws RX10 TX10 4, w ∈ sx_tb := by decide +kernel
theorem cl_X10 : sx_CL 9 RX10 TX10 4 tyX10 := ⟨rfl, in_X10, tyX10_ok, nmX10, by decide +kernel⟩
theorem in_X11 : ∀ w ∈ u_ws RX11 TX11 17, w ∈ sx_tb := by decide +kernel
theorem cl_X11 : sx_CL 10 RX11 TX11 17 tyX11 := ⟨rfl, in_X11, tyX11_ok, nmX11, by decide +kernel⟩
theorem in_X12 : ∀ w ∈ u_ws RX12 TX12 53, w ∈ sx_tb := by decide +kernel
theorem cl_X12 : sx_CL 11 RX12 TX12 53 tyX12 := ⟨rfl, in_X12, tyX12_ok, nmX12, by decide +kernel⟩
theorem iz_L : Cond.initialized RL ∈ sx_tb := sx_in (List.mem_of_getElem? (i := 172) (by decide +kernel)) rfl
theorem iz_X11 : Cond.initialized RX11 ∈ sx_tb := sx_in (List.mem_of_getElem? (i := 173) (by decide +kernel)) rfl
theorem iz_X6 : Cond.initialized RX6 ∈ sx_tb := sx_in (List.mem_of_getElem? (i := 174) (by decide +kernel)) rfl
theorem iz_X9 : Cond.initialized RX9 ∈ sx_tb := sx_in (List.mem_of_getElem? (i := 175) (by decide +kernel)) rfl
theorem iz_X0 : Cond.initialized RX0 ∈ sx_tb := sx_in (List.mem_of_getElem? (i := 176) (by decide +kernel)) rfl
theorem iz_X3 : Cond.initialized RX3 ∈ sx_tb := sx_in (List.mem_of_getElem? (i := 177) (by decide +kernel)) rfl
theorem iz_X7 : Cond.initialized RX7 ∈ sx_tb := sx_in (List.mem_of_getElem? (i := 178) (by decide +kernel)) rfl
theorem iz_X4 : Cond.initialized RX4 ∈ sx_tb := sx_in (List.mem_of_getElem? (i := 179) (by decide +kernel)) rfl
theorem iz_X10 : Cond.initialized RX10 ∈ sx_tb := sx_in (List.mem_of_getElem? (i := 180) (by decide +kernel)) rfl
theorem iz_X1 : Cond.initialized RX1 ∈ sx_tb := sx_in (List.mem_of_getElem? (i := 181) (by decide +kernel)) rfl
theorem iz_X5 : Cond.initialized RX5 ∈ sx_tb := sx_in (List.mem_of_getElem? (i := 182) (by decide +kernel)) rfl
theorem iz_X2 : Cond.initialized RX2 ∈ sx_tb := sx_in (List.mem_of_getElem? (i := 183) (by decide +kernel)) rfl
theorem iz_X12 : Cond.initialized RX12 ∈ sx_tb := sx_in (List.mem_of_getElem? (i := 184) (by decide +kernel)) rfl
theorem iz_J9 : Cond.initialized RJ9 ∈ sx_tb := sx_in (List.mem_of_getElem? (i := 185) (by decide +kernel)) rfl
theorem iz_J0 : Cond.initialized RJ0 ∈ sx_tb := sx_in (List.mem_of_getElem? (i := 186) (by decide +kernel)) rfl
theorem iz_J1 : Cond.initialized RJ1 ∈ sx_tb := sx_in (List.mem_of_getElem? (i := 187) (by decide +kernel)) rfl
theorem iz_J3 : Cond.initialized RJ3 ∈ sx_tb := sx_in (List.mem_of_getElem? (i := 188) (by decide +kernel)) rfl
theorem iz_J2 : Cond.initialized RJ2 ∈ sx_tb := sx_in (List.mem_of_getElem? (i := 189) (by decide +kernel)) rfl
theorem iz_J10 : Cond.initialized RJ10 ∈ sx_tb := sx_in (List.mem_of_getElem? (i := 190) (by decide +kernel)) rfl
theorem iz_X8 : Cond.initialized RX8 ∈ sx_tb := sx_in (List.mem_of_getElem? (i := 196) (by decide +kernel)) rfl
theorem iz_J6 : Cond.initialized RJ6 ∈ sx_tb := sx_in (List.mem_of_getElem? (i := 197) (by decide +kernel)) rfl
theorem iz_J7 : Cond.initialized RJ7 ∈ sx_tb := sx_in (List.mem_of_getElem? (i := 198) (by decide +kernel)) rfl
theorem fl_X6_9 : sx_FL RX6 9 (TX6 0).1 (TX6 0).2.1 (TX6 0).2.2.1 := Or.inl (sx_in (List.mem_of_getElem? (i := 217) (by decide +kernel)) rfl)
theorem fl_X10_58 : sx_FL RX10 58 (TX6 0).1 (TX6 0).2.1 (TX6 0).2.2.1 := Or.inr ⟨"SwitchGame", sx_in (List.mem_of_getElem? (i := 218) (by decide +kernel)) rfl⟩
theorem fl_X3_34 : sx_FL RX3 34 (TX6 0).1 (TX6 0).2.1 (TX6 0).2.2.1 := Or.inr ⟨"SwitchGame", sx_in (List.mem_of_getElem? (i := 219) (by decide +kernel)) rfl⟩
theorem fl_X7_97 : sx_FL RX7 97 (TX6 0).1 (TX6 0).2.1 (TX6 0).2.2.1 := Or.inr ⟨"SwitchGame", sx_in (List.mem_of_getElem? (i := 220) (by decide +kernel)) rfl⟩
theorem fl_X11_132 : sx_FL RX11 132 (TX6 0).1 (TX6 0).2.1 (TX6 0).2.2.1 := Or.inr ⟨"SwitchGame", sx_in (List.mem_of_getElem? (i := 221) (by decide +kernel)) rfl⟩
theorem fl_X6_15 : sx_FL RX6 15 (TX6 1).1 (TX6 1).2.1 (TX6 1).2.2.1 := Or.inl (sx_in (List.mem_of_getElem? (i := 222) (by decide +kernel)) rfl)
theorem fl_X10_64 : sx_FL RX10 64 (TX6 1).1 (TX6 1).2.1 (TX6 1).2.2.1 := Or.inr ⟨"SwitchGame", sx_in (List.mem_of_getElem? (i := 223) (by decide +kernel)) rfl⟩
theorem fl_X3_44 : sx_FL RX3 44 (TX6 1).1 (TX6 1).2.1 (TX6 1).2.2.1 := Or.inr ⟨"SwitchGame", sx_in (List.mem_of_getElem? (i := 224) (by decide +kernel)) rfl⟩
theorem fl_X7_101 : sx_FL RX7 101 (TX6 1).1 (TX6 1).2.1 (TX6 1).2.2.1 := Or.inr ⟨"SwitchGame", sx_in (List.mem_of_getElem? (i := 225) (by decide +kernel)) rfl⟩
theorem fl_X11_136 : sx_FL RX11 136 (TX6 1).1 (TX6 1).2.1 (TX6 1).2.2.1 := Or.inr ⟨"SwitchGame", sx_in (List.mem_of_getElem? (i := 226) (by decide +kernel)) rfl⟩
theorem fl_X6_21 : sx_FL RX6 21 (TX6 2).1 (TX6 2).2.1 (TX6 2).2.2.1 := Or.inl (sx_in (List.mem_of_getElem? (i := 227) (by decide +kernel)) rfl)
theorem fl_X10_34 : sx_FL RX10 34 (TX6 2).1 (TX6 2).2.1 (TX6 2).2.2.1 := Or.inr ⟨"SwitchGame", sx_in (List.mem_of_getElem? (i := 228) (by decide +kernel)) rfl⟩
theorem fl_X7_76 : sx_FL RX7 76 (TX6 2).1 (TX6 2).2.1 (TX6 2).2.2.1 := Or.inr ⟨"SwitchGame", sx_in (List.mem_of_getElem? (i := 229) (by decide +kernel)) rfl⟩
theorem fl_X9_102 : sx_FL RX9 102 (TX6 2).1 (TX6 2).2.1 (TX6 2).2.2.1 := Or.inr ⟨"SwitchGame", sx_in (List.mem_of_getElem? (i := 230) (by decide +kernel)) rfl⟩
theorem fl_X11_164 : sx_FL RX11 164 (TX6 2).1 (TX6 2).2.1 (TX6 2).2.2.1 := Or.inr ⟨"SwitchGame", sx_in (List.mem_of_getElem? (i := 231) (by decide +kernel)) rfl⟩
theorem fl_X6_25 : sx_FL RX6 25 (TX6 3).1 (TX6 3).2.1 (TX6 3).2.2.1 := Or.inl (sx_in (List.mem_of_getElem? (i := 232) (by decide +kernel)) rfl)
theorem fl_X7_65 : sx_FL RX7 65 (TX6 3).1 (TX6 3).2.1 (TX6 3).2.2.1 := Or.inr ⟨"SwitchGame", sx_in (List.mem_of_getElem? (i := 233) (by decide +kernel)) rfl⟩
theorem fl_X3_54 : sx_FL RX3 54 (TX6 3).1 (TX6 3).2.1 (TX6 3).2.2.1 := Or.inr ⟨"SwitchGame", sx_in (List.mem_of_getElem? (i := 234) (by decide +kernel)) rfl⟩
theorem fl_X9_111 : sx_FL RX9 111 (TX6 3).1 (TX6 3).2.1 (TX6 3).2.2.1 := Or.inr ⟨"SwitchGame", sx_in (List.mem_of_getElem? (i := 235) (by decide +kernel)) rfl⟩
theorem fl_X11_319 : sx_FL RX11 319 (TX6 3).1 (TX6 3).2.1 (TX6 3).2.2.1 := Or.inr ⟨"SwitchGame", sx_in (List.mem_of_getElem? (i := 236) (by decide +kernel)) rfl⟩
theorem fl_X6_28 : sx_FL RX6 28 (TX6 4).1 (TX6 4).2.1 (TX6 4).2.2.1 := Or.inl (sx_in (List.mem_of_getElem? (i := 237) (by decide +kernel)) rfl)
theorem fl_X7_73 : sx_FL RX7 73 (TX6 4).1 (TX6 4).2.1 (TX6 4).2.2.1 := Or.inr ⟨"SwitchGame", sx_in (List.mem_of_getElem? (i := 238) (by decide +kernel)) rfl⟩
theorem fl_X3_58 : sx_FL RX3 58 (TX6 4).1 (TX6 4).2.1 (TX6 4).2.2.1 := Or.inr ⟨"SwitchGame", sx_in (List.mem_of_getElem? (i := 239) (by decide +kernel)) rfl⟩
theorem fl_X9_105 : sx_FL RX9 105 (TX6 4).1 (TX6 4).2.1 (TX6 4).2.2.1 := Or.inr ⟨"SwitchGame", sx_in (List.mem_of_getElem? (i := 240) (by decide +kernel)) rfl⟩
theorem fl_X11_322 : sx_FL RX11 322 (TX6 4).1 (TX6 4).2.1 (TX6 4).2.2.1 := Or.inr ⟨"SwitchGame", sx_in (List.mem_of_getElem? (i := 241) (by decide +kernel)) rfl⟩
theorem fl_X6_31 : sx_FL RX6 31 (TX6 5).1 (TX6 5).2.1 (TX6 5).2.2.1 := Or.inl (sx_in (List.mem_of_getElem? (i := 242) (by decide +kernel)) rfl)
theorem fl_X9_114 : sx_FL RX9 114 (TX6 5).1 (TX6 5).2.1 (TX6 5).2.2.1 := Or.inr ⟨"SwitchGame", sx_in (List.mem_of_getElem? (i := 243) (by decide +kernel)) rfl⟩
theorem fl_X11_316 : sx_FL RX11 316 (TX6 5).1 (TX6 5).2.1 (TX6 5).2.2.1 := Or.inr ⟨"SwitchGame", sx_in (List.mem_of_getElem? (i := 244) (by decide +kernel)) rfl⟩
theorem fl_X6_34 : sx_FL RX6 34 (TX6 6).1 (TX6 6).2.1 (TX6 6).2.2.1 := Or.inl (sx_in (List.mem_of_getElem? (i := 245) (by decide +kernel)) rfl)
theorem fl_X9_75 : sx_FL RX9 75 (TX6 6).1 (TX6 6).2.1 (TX6 6).2.2.1 := Or.inr ⟨"SwitchGame", sx_in (List.mem_of_getElem? (i := 246) (by decide +kernel)) rfl⟩
theorem fl_X11_119 : sx_FL RX11 119 (TX6 6).1 (TX6 6).2.1 (TX6 6).2.2.1 := Or.inr ⟨"SwitchGame", sx_in (List.mem_of_getElem? (i := 247) (by decide +kernel)) rfl⟩
theorem fl_X6_37 : sx_FL RX6 37 (TX6 7).1 (TX6 7).2.1 (TX6 7).2.2.1 := Or.inl (sx_in (List.mem_of_getElem? (i := 248) (by decide +kernel)) rfl)
theorem fl_X9_127 : sx_FL RX9 127 (TX6 7).1 (TX6 7).2.1 (TX6 7).2.2.1 := Or.inr ⟨"SwitchGame", sx_in (List.mem_of_getElem? (i := 249) (by decide +kernel)) rfl⟩
theorem fl_X11_328 : sx_FL RX11 328 (TX6 7).1 (TX6 7).2.1 (TX6 7).2.2.1 := Or.inr ⟨"SwitchGame", sx_in (List.mem_of_getElem? (i := 250) (by decide +kernel)) rfl⟩
theorem fl_X6_40 : sx_FL RX6 40 (TX6 8).1 (TX6 8).2.1 (TX6 8).2.2.1 := Or.inl (sx_in (List.mem_of_getElem? (i := 251) (by decide +kernel)) rfl)
theorem fl_X9_130 : sx_FL RX9 130 (TX6 8).1 (TX6 8).2.1 (TX6 8).2.2.1 := Or.inr ⟨"SwitchGame", sx_in (List.mem_of_getElem? (i := 252) (by decide +kernel)) rfl⟩
theorem fl_X11_331 : sx_FL RX11 331 (TX6 8).1 (TX6 8).2.1 (TX6 8).2.2.1 := Or.inr ⟨"SwitchGame", sx_in (List.mem_of_getElem? (i := 253) (by decide +kernel)) rfl⟩
theorem fl_X6_43 : sx_FL RX6 43 (TX6 9).1 (TX6 9).2.1 (TX6 9).2.2.1 := Or.inl (sx_in (List.mem_of_getElem? (i := 254) (by decide +kernel)) rfl)
theorem fl_X9_137 : sx_FL RX9 137 (TX6 9).1 (TX6 9).2.1 (TX6 9).2.2.1 := Or.inr ⟨"SwitchGame", sx_in (List.mem_of_getElem? (i := 255) (by decide +kernel)) rfl⟩
theorem fl_X11_334 : sx_FL RX11 334 (TX6 9).1 (TX6 9).2.1 (TX6 9).2.2.1 := Or.inr ⟨"SwitchGame", sx_in (List.mem_of_getElem? (i := 256) (by decide +kernel)) rfl⟩
theorem fl_X9_46 : sx_FL RX9 46 (TX9 0).1 (TX9 0).2.1 (TX9 0).2.2.1 := Or.inl (sx_in (List.mem_of_getElem? (i := 286) (by decide +kernel)) rfl)
theorem fl_X9_50 : sx_FL RX9 50 (TX9 1).1 (TX9 1).2.1 (TX9 1).2.2.1 := Or.inl (sx_in (List.mem_of_getElem? (i := 287) (by decide +kernel)) rfl)
theorem fl_X9_9 : sx_FL RX9 9 (TX9 2).1 (TX9 2).2.1 (TX9 2).2.2.1 := Or.inl (sx_in (List.mem_of_getElem? (i := 288) (by decide +kernel)) rfl)
theorem fl_X9_15 : sx_FL RX9 15 (TX9 3).1 (TX9 3).2.1 (TX9 3).2.2.1 := Or.inl (sx_in (List.mem_of_getElem? (i := 289) (by decide +kernel)) rfl)
theorem fl_X9_18 : sx_FL RX9 18 (TX9 4).1 (TX9 4).2.1 (TX9 4).2.2.1 := Or.inl (sx_in (List.mem_of_getElem? (i := 290) (by decide +kernel)) rfl)
theorem fl_X9_21 : sx_FL RX9 21 (TX9 5).1 (TX9 5).2.1 (TX9 5).2.2.1 := Or.inl (sx_in (List.mem_of_getElem? (i := 291) (by decide +kernel)) rfl)
theorem fl_X9_24 : sx_FL RX9 24 (TX9 6).1 (TX9 6).2.1 (TX9 6).2.2.1 := Or.inl (sx_in (List.mem_of_getElem? (i := 292) (by decide +kernel)) rfl)
theorem fl_X9_27 : sx_FL RX9 27 (TX9 7).1 (TX9 7).2.1 (TX9 7).2.2.1 := Or.inl (sx_in (List.mem_of_getElem? (i := 293) (by decide +kernel)) rfl)
theorem fl_X9_30 : sx_FL RX9 30 (TX9 8).1 (TX9 8).2.1 (TX9 8).2.2.1 := Or.inl (sx_in (List.mem_of_getElem? (i := 294) (by decide +kernel)) rfl)
theorem fl_X9_34 : sx_FL RX9 34 (TX9 9).1 (TX9 9).2.1 (TX9 9).2.2.1 := Or.inl (sx_in (List.mem_of_getElem? (i := 295) (by decide +kernel)) rfl)
theorem fl_X9_37 : sx_FL RX9 37 (TX9 10).1 (TX9 10).2.1 (TX9 10).2.2.1 := Or.inl (sx_in (List.mem_of_getElem? (i := 296) (by decide +kernel)) rfl)
theorem fl_X9_40 : sx_FL RX9 40 (TX9 11).1 (TX9 11).2.1 (TX9 11).2.2.1 := Or.inl (sx_in (List.mem_of_getElem? (i := 297) (by decide +kernel)) rfl)
theorem fl_X11_114 : sx_FL RX11 114 (TX9 11).1 (TX9 11).2.1 (TX9 11).2.2.1 := Or.inr ⟨"SwitchGame", sx_in (List.mem_of_getElem? (i := 298) (by decide +kernel)) rfl⟩
theorem fl_X9_43 : sx_FL RX9 43 (TX9 12).1 (TX9 12).2.1 (TX9 12).2.2.1 := Or.inl (sx_in (List.mem_of_getElem? (i := 299) (by decide +kernel)) rfl)
theorem fl_X11_115 : sx_FL RX11 115 (TX9 12).1 (TX9 12).2.1 (TX9 12).2.2.1 := Or.inr ⟨"SwitchGame", sx_in (List.mem_of_getElem? (i := 300) (by decide +kernel)) rfl⟩
theorem fl_X0_11 : sx_FL RX0 11 (TX0 0).1 (TX0 0).2.1 (TX0 0).2.2.1 := Or.inl (sx_in (List.mem_of_getElem? (i := 334) (by decide +kernel)) rfl)
theorem fl_X0_15 : sx_FL RX0 15 (TX0 1).1 (TX0 1).2.1 (TX0 1).2.2.1 := Or.inl (sx_in (List.mem_of_getElem? (i := 335) (by decide +kernel)) rfl)
theorem fl_X0_18 : sx_FL RX0 18 (TX0 2).1 (TX0 2).2.1 (TX0 2).2.2.1 := Or.inl (sx_in (List.mem_of_getElem? (i := 336) (by decide +kernel)) rfl)
theorem fl_X0_21 : sx_FL RX0 21 (TX0 3).1 (TX0 3).2.1 (TX0 3).2.2.1 := Or.inl (sx_in (List.mem_of_getElem? (i := 337) (by decide +kernel)) rfl)
theorem fl_X0_24 : sx_FL RX0 24 (TX0 4).1 (TX0 4).2.1 (TX0 4).2.2.1 := Or.inl (sx_in (List.mem_of_getElem? (i := 338) (by decide +kernel)) rfl)
theorem fl_X0_27 : sx_FL RX0 27 (TX0 5).1 (TX0 5).2.1 (TX0 5).2.2.1 := Or.inl (sx_in (List.mem_of_getElem? (i := 339) (by decide +kernel)) rfl)
theorem fl_X7_41 : sx_FL RX7 41 (TX0 5).1 (TX0 5).2.1 (TX0 5).2.2.1 := Or.inr ⟨"SwitchGame", sx_in (List.mem_of_getElem? (i := 340) (by decide +kernel)) rfl⟩
theorem fl_X11_303 : sx_FL RX11 303 (TX0 5).1 (TX0 5).2.1 (TX0 5).2.2.1 := Or.inr ⟨"SwitchGame", sx_in (List.mem_of_getElem? (i := 341) (by decide +kernel)) rfl⟩
theorem fl_X0_31 : sx_FL RX0 31 (TX0 6).1 (TX0 6).2.1 (TX0 6).2.2.1 := Or.inl (sx_in (List.mem_of_getElem? (i := 342) (by decide +kernel)) rfl)
theorem fl_X7_44 : sx_FL RX7 44 (TX0 6).1 (TX0 6).2.1 (TX0 6).2.2.1 := Or.inr ⟨"SwitchGame", sx_in (List.mem_of_getElem? (i := 343) (by decide +kernel)) rfl⟩
theorem fl_X11_306 : sx_FL RX11 306 (TX0 6).1 (TX0 6).2.1 (TX0 6).2.2.1 := Or.inr ⟨"SwitchGame", sx_in (List.mem_of_getElem? (i := 344) (by decide +kernel)) rfl⟩
theorem fl_X0_34 : sx_FL RX0 34 (TX0 7).1 (TX0 7).2.1 (TX0 7).2.2.1 := Or.inl (sx_in (List.mem_of_getElem? (i := 345) (by decide +kernel)) rfl)
theorem fl_X0_37 : sx_FL RX0 37 (TX0 8).1 (TX0 8).2.1 (TX0 8).2.2.1 := Or.inl (sx_in (List.mem_of_getElem? (i := 346) (by decide +kernel)) rfl)
theorem fl_X3_9 : sx_FL RX3 9 (TX3 0).1 (TX3 0).2.1 (TX3 0).2.2.1 := Or.inl (sx_in (List.mem_of_getElem? (i := 372) (by decide +kernel)) rfl)
theorem fl_X3_15 : sx_FL RX3 15 (TX3 1).1 (TX3 1).2.1 (TX3 1).2.2.1 := Or.inl (sx_in (List.mem_of_getElem? (i := 373) (by decide +kernel)) rfl)
theorem fl_X7_24 : sx_FL RX7 24 (TX7 0).1 (TX7 0).2.1 (TX7 0).2.2.1 := Or.inl (sx_in (List.mem_of_getElem? (i := 385) (by decide +kernel)) rfl)
theorem fl_X7_28 : sx_FL RX7 28 (TX7 1).1 (TX7 1).2.1 (TX7 1).2.2.1 := Or.inl (sx_in (List.mem_of_getElem? (i := 386) (by decide +kernel)) rfl)
theorem fl_X7_9 : sx_FL RX7 9 (TX7 2).1 (TX7 2).2.1 (TX7 2).2.2.1 := Or.inl (sx_in (List.mem_of_getElem? (i := 387) (by decide +kernel)) rfl)
theorem fl_X7_15 : sx_FL RX7 15 (TX7 3).1 (TX7 3).2.1 (TX7 3).2.2.1 := Or.inl (sx_in (List.mem_of_getElem? (i := 388) (by decide +kernel)) rfl)
theorem fl_X11_208 : sx_FL RX11 208 (TX7 3).1 (TX7 3).2.1 (TX7 3).2.2.1 := Or.inr ⟨"SwitchGame", sx_in (List.mem_of_getElem? (i := 389) (by decide +kernel)) rfl⟩
theorem fl_X7_18 : sx_FL RX7 18 (TX7 4).1 (TX7 4).2.1 (TX7 4).2.2.1 := Or.inl (sx_in (List.mem_of_getElem? (i := 390) (by decide +kernel)) rfl)
theorem fl_X11_211 : sx_FL RX11 211 (TX7 4).1 (TX7 4).2.1 (TX7 4).2.2.1 := Or.inr ⟨"SwitchGame", sx_in (List.mem_of_getElem? (i := 391) (by decide +kernel)) rfl⟩
theorem fl_X7_21 : sx_FL RX7 21 (TX7 5).1 (TX7 5).2.1 (TX7 5).2.2.1 := Or.inl (sx_in (List.mem_of_getElem? (i := 392) (by decide +kernel)) rfl)
theorem fl_X11_214 : sx_FL RX11 214 (TX7 5).1 (TX7 5).2.1 (TX7 5).2.2.1 := Or.inr ⟨"SwitchGame", sx_in (List.mem_of_getElem? (i := 393) (by decide +kernel)) rfl⟩
theorem fl_X4_38 : sx_FL RX4 38 (TX4 0).1 (TX4 0).2.1 (TX4 0).2.2.1 := Or.inl (sx_in (List.mem_of_getElem? (i := 413) (by decide +kernel)) rfl)
theorem fl_X4_11 : sx_FL RX4 11 (TX4 1).1 (TX4 1).2.1 (TX4 1).2.2.1 := Or.inl (sx_in (List.mem_of_getElem? (i := 414) (by decide +kernel)) rfl)
theorem fl_X4_15 : sx_FL RX4 15 (TX4 2).1 (TX4 2).2.1 (TX4 2).2.2.1 := Or.inl (sx_in (List.mem_of_getElem? (i := 415) (by decide +kernel)) rfl)
theorem fl_X4_18 : sx_FL RX4 18 (TX4 3).1 (TX4 3).2.1 (TX4 3).2.2.1 := Or.inl (sx_in (List.mem_of_getElem? (i := 416) (by decide +kernel)) rfl)
theorem fl_X4_21 : sx_FL RX4 21 (TX4 4).1 (TX4 4).2.1 (TX4 4).2.2.1 := Or.inl (sx_in (List.mem_of_getElem? (i := 417) (by decide +kernel)) rfl)
theorem fl_X4_24 : sx_FL RX4 24 (TX4 5).1 (TX4 5).2.1 (TX4 5).2.2.1 := Or.inl (sx_in (List.mem_of_getElem? (i := 418) (by decide +kernel)) rfl)
theorem fl_X4_28 : sx_FL RX4 28 (TX4 6).1 (TX4 6).2.1 (TX4 6).2.2.1 := Or.inl (sx_in (List.mem_of_getElem? (i := 419) (by decide +kernel)) rfl)
theorem fl_X4_32 : sx_FL RX4 32 (TX4 7).1 (TX4 7).2.1 (TX4 7).2.2.1 := Or.inl (sx_in (List.mem_of_getElem? (i := 420) (by decide +kernel)) rfl)
theorem fl_X4_35 : sx_FL RX4 35 (TX4 8).1 (TX4 8).2.1 (TX4 8).2.2.1 := Or.inl (sx_in (List.mem_of_getElem? (i := 421) (by decide +kernel)) rfl)
theorem fl_X11_355 : sx_FL RX11 355 (TX4 8).1 (TX4 8).2.1 (TX4 8).2.2.1 := Or.inr ⟨"SwitchGame", sx_in (List.mem_of_getElem? (i := 422) (by decide +kernel)) rfl⟩
theorem fl_X10_24 : sx_FL RX10 24 (TX10 0).1 (TX10 0).2.1 (TX10 0).2.2.1 := Or.inl (sx_in (List.mem_of_getElem? (i := 450) (by decide +kernel)) rfl)
theorem fl_X10_13 : sx_FL RX10 13 (TX10 1).1 (TX10 1).2.1 (TX10 1).2.2.1 := Or.inl (sx_in (List.mem_of_getElem? (i := 451) (by decide +kernel)) rfl)
theorem fl_X10_16 : sx_FL RX10 16 (TX10 2).1 (TX10 2).2.1 (TX10 2).2.2.1 := Or.inl (sx_in (List.mem_of_getElem? (i := 452) (by decide +kernel)) rfl)
theorem fl_X10_20 : sx_FL RX10 20 (TX10 3).1 (TX10 3).2.1 (TX10 3).2.2.1 := Or.inl (sx_in (List.mem_of_getElem? (i := 453) (by decide +kernel)) rfl)
theorem fl_X5_11 : sx_FL RX5 11 (TX5 0).1 (TX5 0).2.1 (TX5 0).2.2.1 := Or.inl (sx_in (List.mem_of_getElem? (i := 476) (by decide +kernel)) rfl)
theorem fl_X5_15 : sx_FL RX5 15 (TX5 1).1 (TX5 1).2.1 (TX5 1).2.2.1 := Or.inl (sx_in (List.mem_of_getElem? (i := 477) (by decide +kernel)) rfl)
theorem fl_X1_22 : sx_FL RX1 22 (TX1 0).1 (TX1 0).2.1 (TX1 0).2.2.1 := Or.inl (sx_in (List.mem_of_getElem? (i := 483) (by decide +kernel)) rfl)
theorem fl_X1_26 : sx_FL RX1 26 (TX1 1).1 (TX1 1).2.1 (TX1 1).2.2.1 := Or.inl (sx_in (List.mem_of_getElem? (i := 484) (by decide +kernel)) rfl)
theorem fl_X1_30 : sx_FL RX1 30 (TX1 2).1 (TX1 2).2.1 (TX1 2).2.2.1 := Or.inl (sx_in (List.mem_of_getElem? (i := 485) (by decide +kernel)) rfl)
theorem fl_X1_14 : sx_FL RX1 14 (TX1 3).1 (TX1 3).2.1 (TX1 3).2.2.1 := Or.inl (sx_in (List.mem_of_getElem? (i := 486) (by decide +kernel)) rfl)
theorem fl_X1_18 : sx_FL RX1 18 (TX1 4).1 (TX1 4).2.1 (TX1 4).2.2.1 := Or.inl (sx_in (List.mem_of_getElem? (i := 487) (by decide +kernel)) rfl)
theorem fl_X2_9 : sx_FL RX2 9 (TX2 0).1 (TX2 0).2.1 (TX2 0).2.2.1 := Or.inl (sx_in (List.mem_of_getElem? (i := 505) (by decide +kernel)) rfl)
theorem fl_X2_15 : sx_FL RX2 15 (TX2 1).1 (TX2 1).2.1 (TX2 1).2.2.1 := Or.inl (sx_in (List.mem_of_getElem? (i := 506) (by decide +kernel)) rfl)
theorem fl_X2_19 : sx_FL RX2 19 (TX2 2).1 (TX2 2).2.1 (TX2 2).2.2.1 := Or.inl (sx_in (List.mem_of_getElem? (i := 507) (by decide +kernel)) rfl)
theorem fl_X11_184 : sx_FL RX11 184 (TX2 2).1 (TX2 2).2.1 (TX2 2).2.2.1 := Or.inr ⟨"SwitchGame", sx_in (List.mem_of_getElem? (i := 508) (by decide +kernel)) rfl⟩
theorem fl_X11_9 : sx_FL RX11 9 (TX11 0).1 (TX11 0).2.1 (TX11 0).2.2.1 := Or.inl (sx_in (List.mem_of_getElem? (i := 516) (by decide +kernel)) rfl)
theorem fl_X11_16 : sx_FL RX11 16 (TX11 1).1 (TX11 1).2.1 (TX11 1).2.2.1 := Or.inl (sx_in (List.mem_of_getElem? (i := 517) (by decide +kernel)) rfl)
theorem fl_X11_20 : sx_FL RX11 20 (TX11 2).1 (TX11 2).2.1 (TX11 2).2.2.1 := Or.inl (sx_in (List.mem_of_getElem? (i := 518) (by decide +kernel)) rfl)
theorem fl_X11_28 : sx_FL RX11 28 (TX11 3).1 (TX11 3).2.1 (TX11 3).2.2.1 := Or.inl (sx_in (List.mem_of_getElem? (i := 519) (by decide +kernel)) rfl)
theorem fl_X11_35 : sx_FL RX11 35 (TX11 4).1 (TX11 4).2.1 (TX11 4).2.2.1 := Or.inl (sx_in (List.mem_of_getElem? (i := 520) (by decide +kernel)) rfl)
theorem fl_X11_44 : sx_FL RX11 44 (TX11 5).1 (TX11 5).2.1 (TX11 5).2.2.1 := Or.inl (sx_in (List.mem_of_getElem? (i := 521) (by decide +kernel)) rfl)
theorem fl_X11_51 : sx_FL RX11 51 (TX11 6).1 (TX11 6).2.1 (TX11 6).2.2.1 := Or.inl (sx_in (List.mem_of_getElem? (i := 522) (by decide +kernel)) rfl)
theorem fl_X11_60 : sx_FL RX11 60 (TX11 7).1 (TX11 7).2.1 (TX11 7).2.2.1 := Or.inl (sx_in (List.mem_of_getElem? (i := 523) (by decide +kernel)) rfl)
theorem fl_X11_67 : sx_FL RX11 67 (TX11 8).1 (TX11 8).2.1 (TX11 8).2.2.1 := Or.inl (sx_in (List.mem_of_getElem? (i := 524) (by decide +kernel)) rfl)
theorem fl_X11_76 : sx_FL RX11 76 (TX11 9).1 (TX11 9).2.1 (TX11 9).2.2.1 := Or.inl (sx_in (List.mem_of_getElem? (i := 525) (by decide +kernel)) rfl)
theorem fl_X11_83 : sx_FL RX11 83 (TX11 10).1 (TX11 10).2.1 (TX11 10).2.2.1 := Or.inl (sx_in (List.mem_of_getElem? (i := 526) (by decide +kernel)) rfl)
theorem fl_X11_87 : sx_FL RX11 87 (TX11 11).1 (TX11 11).2.1 (TX11 11).2.2.1 := Or.inl (sx_in (List.mem_of_getElem? (i := 527) (by decide +kernel)) rfl)
theorem fl_X11_91 : sx_FL RX11 91 (TX11 12).1 (TX11 12).2.1 (TX11 12).2.2.1 := Or.inl (sx_in (List.mem_of_getElem? (i := 528) (by decide +kernel)) rfl)
theorem fl_X11_94 : sx_FL RX11 94 (TX11 13).1 (TX11 13).2.1 (TX11 13).2.2.1 := Or.inl (sx_in (List.mem_of_getElem? (i := 529) (by decide +kernel)) rfl)
theorem fl_X11_97 : sx_FL RX11 97 (TX11 14).1 (TX11 14).2.1 (TX11 14).2.2.1 := Or.inl (sx_in (List.mem_of_getElem? (i := 530) (by decide +kernel)) rfl)
theorem fl_X11_100 : sx_FL RX11 100 (TX11 15).1 (TX11 15).2.1 (TX11 15).2.2.1 := Or.inl (sx_in (List.mem_of_getElem? (i := 531) (by decide +kernel)) rfl)
theorem fl_X11_103 : sx_FL RX11 103 (TX11 16).1 (TX11 16).2.1 (TX11 16).2.2.1 := Or.inl (sx_in (List.mem_of_getElem? (i := 532) (by decide +kernel)) rfl)
theorem fl_X12_73 : sx_FL RX12 73 (TX12 0).1 (TX12 0).2.1 (TX12 0).2.2.1 := Or.inl (sx_in (List.mem_of_getElem? (i := 1482) (by decide +kernel)) rfl)
theorem fl_X12_7 : sx_FL RX12 7 (TX12 1).1 (TX12 1).2.1 (TX12 1).2.2.1 := Or.inl (sx_in (List.mem_of_getElem? (i := 1483) (by decide +kernel)) rfl)
theorem fl_X12_76 : sx_FL RX12 76 (TX12 2).1 (TX12 2).2.1 (TX12 2).2.2.1 := Or.inl (sx_in (List.mem_of_getElem? (i := 1484) (by decide +kernel)) rfl)
theorem fl_X12_64 : sx_FL RX12 64 (TX12 3).1 (TX12 3).2.1 (TX12 3).2.2.1 := Or.inl (sx_in (List.mem_of_getElem? (i := 1485) (by decide +kernel)) rfl)
theorem fl_X12_198 : sx_FL RX12 198 (TX12 4).1 (TX12 4).2.1 (TX12 4).2.2.1 := Or.inl (sx_in (List.mem_of_getElem? (i := 1486) (by decide +kernel)) rfl)
theorem fl_X12_13 : sx_FL RX12 13 (TX12 5).1 (TX12 5).2.1 (TX12 5).2.2.1 := Or.inl (sx_in (List.mem_of_getElem? (i := 1487) (by decide +kernel)) rfl)
theorem fl_X12_16 : sx_FL RX12 16 (TX12 6).1 (TX12 6).2.1 (TX12 6).2.2.1 := Or.inl (sx_in (List.mem_of_getElem? (i := 1488) (by decide +kernel)) rfl)
theorem fl_X12_201 : sx_FL RX12 201 (TX12 7).1 (TX12 7).2.1 (TX12 7).2.2.1 := Or.inl (sx_in (List.mem_of_getElem? (i := 1489) (by decide +kernel)) rfl)
theorem fl_X12_204 : sx_FL RX12 204 (TX12 8).1 (TX12 8).2.1 (TX12 8).2.2.1 := Or.inl (sx_in (List.mem_of_getElem? (i := 1490) (by decide +kernel)) rfl)
theorem fl_X12_207 : sx_FL RX12 207 (TX12 9).1 (TX12 9).2.1 (TX12 9).2.2.1 := Or.inl (sx_in (List.mem_of_getElem? (i := 1491) (by decide +kernel)) rfl)
theorem fl_X12_67 : sx_FL RX12 67 (TX12 10).1 (TX12 10).2.1 (TX12 10).2.2.1 := Or.inl (sx_in (List.mem_of_getElem? (i := 1492) (by decide +kernel)) rfl)
theorem fl_X12_70 : sx_FL RX12 70 (TX12 11).1 (TX12 11).2.1 (TX12 11).2.2.1 := Or.inl (sx_in (List.mem_of_getElem? (i := 1493) (by decide +kernel)) rfl)
theorem fl_X12_210 : sx_FL RX12 210 (TX12 12).1 (TX12 12).2.1 (TX12 12).2.2.1 := Or.inl (sx_in (List.mem_of_getElem? (i := 1494) (by decide +kernel)) rfl)
theorem fl_X12_19 : sx_FL RX12 19 (TX12 13).1 (TX12 13).2.1 (TX12 13).2.2.1 := Or.inl (sx_in (List.mem_of_getElem? (i := 1495) (by decide +kernel)) rfl)
theorem fl_X12_213 : sx_FL RX12 213 (TX12 14).1 (TX12 14).2.1 (TX12 14).2.2.1 := Or.inl (sx_in (List.mem_of_getElem? (i := 1496) (by decide +kernel)) rfl)
theorem fl_X12_132 : sx_FL RX12 132 (TX12 15).1 (TX12 15).2.1 (TX12 15).2.2.1 := Or.inl (sx_in (List.mem_of_getElem? (i := 1497) (by decide +kernel)) rfl)
theorem fl_X12_152 : sx_FL RX12 152 (TX12 16).1 (TX12 16).2.1 (TX12 16).2.2.1 := Or.inl (sx_in (List.mem_of_getElem? (i := 1498) (by decide +kernel)) rfl)
theorem fl_X12_22 : sx_FL RX12 22 (TX12 17).1 (TX12 17).2.1 (TX12 17).2.2.1 := Or.inl (sx_in (List.mem_of_getElem? (i := 1499) (by decide +kernel)) rfl)
theorem fl_X12_25 : sx_FL RX12 25 (TX12 18).1 (TX12 18).2.1 (TX12 18).2.2.1 := Or.inl (sx_in (List.mem_of_getElem? (i := 1500) (by decide +kernel)) rfl)
theorem fl_X12_155 : sx_FL RX12 155 (TX12 19).1 (TX12 19).2.1 (TX12 19).2.2.1 := Or.inl (sx_in (List.mem_of_getElem? (i := 1501) (by decide +kernel)) rfl)
theorem fl_X12_158 : sx_FL RX12 158 (TX12 20).1 (TX12 20).2.1 (TX12 20).2.2.1 := Or.inl (sx_in (List.mem_of_getElem? (i := 1502) (by decide +kernel)) rfl)
theorem fl_X12_149 : sx_FL RX12 149 (TX12 21).1 (TX12 21).2.1 (TX12 21).2.2.1 := Or.inl (sx_in (List.mem_of_getElem? (i := 1503) (by decide +kernel)) rfl)
theorem fl_X12_138 : sx_FL RX12 138 (TX12 22).1 (TX12 22).2.1 (TX12 22).2.2.1 := Or.inl (sx_in (List.mem_of_getElem? (i := 1504) (by decide +kernel)) rfl)
theorem fl_X12_167 : sx_FL RX12 167 (TX12 23).1 (TX12 23).2.1 (TX12 23).2.2.1 := Or.inl (sx_in (List.mem_of_getElem? (i := 1505) (by decide +kernel)) rfl)
theorem fl_X12_186 : sx_FL RX12 186 (TX12 24).1 (TX12 24).2.1 (TX12 24).2.2.1 := Or.inl (sx_in (List.mem_of_getElem? (i := 1506) (by decide +kernel)) rfl)
theorem fl_X12_141 : sx_FL RX12 141 (TX12 25).1 (TX12 25).2.1 (TX12 25).2.2.1 := Or.inl (sx_in (List.mem_of_getElem? (i := 1507) (by decide +kernel)) rfl)
theorem fl_X12_161 : sx_FL RX12 161 (TX12 26).1 (TX12 26).2.1 (TX12 26).2.2.1 := Or.inl (sx_in (List.mem_of_getElem? (i := 1508) (by decide +kernel)) rfl)
theorem fl_X12_82 : sx_FL RX12 82 (TX12 27).1 (TX12 27).2.1 (TX12 27).2.2.1 := Or.inl (sx_in (List.mem_of_getElem? (i := 1509) (by decide +kernel)) rfl)
theorem fl_X12_79 : sx_FL RX12 79 (TX12 28).1 (TX12 28).2.1 (TX12 28).2.2.1 := Or.inl (sx_in (List.mem_of_getElem? (i := 1510) (by decide +kernel)) rfl)
theorem fl_X12_89 : sx_FL RX12 89 (TX12 29).1 (TX12 29).2.1 (TX12 29).2.2.1 := Or.inl (sx_in (List.mem_of_getElem? (i := 1511) (by decide +kernel)) rfl)
theorem fl_X12_92 : sx_FL RX12 92 (TX12 30).1 (TX12 30).2.1 (TX12 30).2.2.1 := Or.inl (sx_in (List.mem_of_getElem? (i := 1512) (by decide +kernel)) rfl)
theorem fl_X12_102 : sx_FL RX12 102 (TX12 31).1 (TX12 31).2.1 (TX12 31).2.2.1 := Or.inl (sx_in (List.mem_of_getElem? (i := 1513) (by decide +kernel)) rfl)
theorem fl_X12_119 : sx_FL RX12 119 (TX12 32).1 (TX12 32).2.1 (TX12 32).2.2.1 := Or.inl (sx_in (List.mem_of_getElem? (i := 1514) (by decide +kernel)) rfl)
theorem fl_X12_122 : sx_FL RX12 122 (TX12 33).1 (TX12 33).2.1 (TX12 33).2.2.1 := Or.inl (sx_in (List.mem_of_getElem? (i := 1515) (by decide +kernel)) rfl)
theorem fl_X12_195 : sx_FL RX12 195 (TX12 34).1 (TX12 34).2.1 (TX12 34).2.2.1 := Or.inl (sx_in (List.mem_of_getElem? (i := 1516) (by decide +kernel)) rfl)
theorem fl_X12_28 : sx_FL RX12 28 (TX12 35).1 (TX12 35).2.1 (TX12 35).2.2.1 := Or.inl (sx_in (List.mem_of_getElem? (i := 1517) (by decide +kernel)) rfl)
theorem fl_X12_32 : sx_FL RX12 32 (TX12 36).1 (TX12 36).2.1 (TX12 36).2.2.1 := Or.inl (sx_in (List.mem_of_getElem? (i := 1518) (by decide +kernel)) rfl)
theorem fl_X12_35 : sx_FL RX12 35 (TX12 37).1 (TX12 37).2.1 (TX12 37).2.2.1 := Or.inl (sx_in (List.mem_of_getElem? (i := 1519) (by decide +kernel)) rfl)
theorem fl_X12_38 : sx_FL RX12 38 (TX12 38).1 (TX12 38).2.1 (TX12 38).2.2.1 := Or.inl (sx_in (List.mem_of_getElem? (i := 1520) (by decide +kernel)) rfl)
theorem fl_X12_41 : sx_FL RX12 41 (TX12 39).1 (TX12 39).2.1 (TX12 39).2.2.1 := Or.inl (sx_in (List.mem_of_getElem? (i := 1521) (by decide +kernel)) rfl)
theorem fl_X12_44 : sx_FL RX12 44 (TX12 40).1 (TX12 40).2.1 (TX12 40).2.2.1 := Or.inl (sx_in (List.mem_of_getElem? (i := 1522) (by decide +kernel)) rfl)
theorem fl_X12_47 : sx_FL RX12 47 (TX12 41).1 (TX12 41).2.1 (TX12 41).2.2.1 := Or.inl (sx_in (List.mem_of_getElem? (i := 1523) (by decide +kernel)) rfl)
theorem fl_X12_50 : sx_FL RX12 50 (TX12 42).1 (TX12 42).2.1 (TX12 42).2.2.1 := Or.inl (sx_in (List.mem_of_getElem? (i := 1524) (by decide +kernel)) rfl)
theorem fl_X12_282 : sx_FL RX12 282 (TX12 43).1 (TX12 43).2.1 (TX12 43).2.2.1 := Or.inl (sx_in (List.mem_of_getElem? (i := 1525) (by decide +kernel)) rfl)
theorem fl_X12_289 : sx_FL RX12 289 (TX12 44).1 (TX12 44).2.1 (TX12 44).2.2.1 := Or.inl (sx_in (List.mem_of_getElem? (i := 1526) (by decide +kernel)) rfl)
theorem fl_X12_292 : sx_FL RX12 292 (TX12 45).1 (TX12 45).2.1 (TX12 45).2.2.1 := Or.inl (sx_in (List.mem_of_getElem? (i := 1527) (by decide +kernel)) rfl)
theorem fl_X12_53 : sx_FL RX12 53 (TX12 46).1 (TX12 46).2.1 (TX12 46).2.2.1 := Or.inl (sx_in (List.mem_of_getElem? (i := 1528) (by decide +kernel)) rfl)
theorem fl_X12_343 : sx_FL RX12 343 (TX12 47).1 (TX12 47).2.1 (TX12 47).2.2.1 := Or.inl (sx_in (List.mem_of_getElem? (i := 1529) (by decide +kernel)) rfl)
theorem fl_X12_349 : sx_FL RX12 349 (TX12 48).1 (TX12 48).2.1 (TX12 48).2.2.1 := Or.inl (sx_in (List.mem_of_getElem? (i := 1530) (by decide +kernel)) rfl)
theorem fl_X12_352 : sx_FL RX12 352 (TX12 49).1 (TX12 49).2.1 (TX12 49).2.2.1 := Or.inl (sx_in (List.mem_of_getElem? (i := 1531) (by decide +kernel)) rfl)
theorem fl_X12_57 : sx_FL RX12 57 (TX12 50).1 (TX12 50).2.1 (TX12 50).2.2.1 := Or.inl (sx_in (List.mem_of_getElem? (i := 1532) (by decide +kernel)) rfl)
theorem fl_X12_61 : sx_FL RX12 61 (TX12 51).1 (TX12 51).2.1 (TX12 51).2.2.1 := Or.inl (sx_in (List.mem_of_getElem? (i := 1533) (by decide +kernel)) rfl)
theorem fl_X12_388 : sx_FL RX12 388 (TX12 52).1 (TX12 52).2.1 (TX12 52).2.2.1 := Or.inl (sx_in (List.mem_of_getElem? (i := 1534) (by decide +kernel)) rfl)
