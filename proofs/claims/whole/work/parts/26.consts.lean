theorem sp_ne {x v : Int32} (k : Int) (hv : v.toInt = k) (h : ¬ x = v) : x.toInt ≠ k := fun e => h (Int32.toInt_inj.mp (e.trans hv.symm))
theorem sp_ne2 {x v : Int32} (k : Int) (hv : v.toInt = k) (h : ¬ x = v) : ¬ k = x.toInt := fun e => sp_ne k hv h e.symm
theorem bp_10 : (Int8.ofInt 10).toInt32 = 10 := by decide
theorem bp_12 : (Int8.ofInt 12).toInt32 = 12 := by decide
theorem bp_122 : (Int8.ofInt 122).toInt32 = 122 := by decide
theorem bp_14 : (Int8.ofInt 14).toInt32 = 14 := by decide
theorem bp_15 : (Int8.ofInt 15).toInt32 = 15 := by decide
theorem bp_16 : (Int8.ofInt 16).toInt32 = 16 := by decide
theorem bp_17 : (Int8.ofInt 17).toInt32 = 17 := by decide
theorem bp_20 : (Int8.ofInt 20).toInt32 = 20 := by decide
theorem bp_22 : (Int8.ofInt 22).toInt32 = 22 := by decide
theorem bp_24 : (Int8.ofInt 24).toInt32 = 24 := by decide
theorem bp_31 : (Int8.ofInt 31).toInt32 = 31 := by decide
theorem bp_32 : (Int8.ofInt 32).toInt32 = 32 := by decide
theorem bp_40 : (Int8.ofInt 40).toInt32 = 40 := by decide
theorem bp_48 : (Int8.ofInt 48).toInt32 = 48 := by decide
theorem bp_50 : (Int8.ofInt 50).toInt32 = 50 := by decide
theorem bp_57 : (Int8.ofInt 57).toInt32 = 57 := by decide
theorem bp_59 : (Int8.ofInt 59).toInt32 = 59 := by decide
theorem bp_6 : (Int8.ofInt 6).toInt32 = 6 := by decide
theorem bp_63 : (Int8.ofInt 63).toInt32 = 63 := by decide
theorem bp_64 : (Int8.ofInt 64).toInt32 = 64 := by decide
theorem bp_7 : (Int8.ofInt 7).toInt32 = 7 := by decide
theorem bp_8 : (Int8.ofInt 8).toInt32 = 8 := by decide
theorem bp_97 : (Int8.ofInt 97).toInt32 = 97 := by decide
theorem bp_m2 : (Int8.ofInt (-2)).toInt32 = (-2) := by decide
theorem bp_m3 : (Int8.ofInt (-3)).toInt32 = (-3) := by decide
theorem ic_0 : Int32.ofInt 0 = 0 := by decide
theorem ic_1 : Int32.ofInt 1 = 1 := by decide
theorem ic_16 : Int32.ofInt 16 = 16 := by decide
theorem ic_2 : Int32.ofInt 2 = 2 := by decide
theorem ic_3 : Int32.ofInt 3 = 3 := by decide
theorem ic_4 : Int32.ofInt 4 = 4 := by decide
theorem ic_5 : Int32.ofInt 5 = 5 := by decide
theorem ic_8 : Int32.ofInt 8 = 8 := by decide
theorem ic_m1 : Int32.ofInt (-1) = (-1) := by decide
theorem ic_m8 : Int32.ofInt (-8) = (-8) := by decide
theorem lc_0 : Int64.ofNat 0 = 0 := by decide
theorem lc_1 : Int64.ofNat 1 = 1 := by decide
theorem nl_6 : Int32.ofNat 6 = 6 := by decide
theorem nl_600 : Int32.ofNat 600 = 600 := by decide
theorem sh_1023 : (Int16.ofInt 1023).toInt32 = 1023 := by decide
theorem sh_1024 : (Int16.ofInt 1024).toInt32 = 1024 := by decide
theorem sh_255 : (Int16.ofInt 255).toInt32 = 255 := by decide
theorem sh_256 : (Int16.ofInt 256).toInt32 = 256 := by decide
theorem sh_512 : (Int16.ofInt 512).toInt32 = 512 := by decide
theorem sh_580 : (Int16.ofInt 580).toInt32 = 580 := by decide
theorem sh_600 : (Int16.ofInt 600).toInt32 = 600 := by decide
theorem sh_9999 : (Int16.ofInt 9999).toInt32 = 9999 := by decide
theorem mk_X9_176 : Cond.methodLink RX9 176 yJ0_length_8abf5 ∈ sx_tb := sx_in (List.mem_of_getElem? (i := 623) (by decide +kernel)) rfl
theorem mk_X9_180 : Cond.methodLink RX9 180 yJ0_charAt_5068e ∈ sx_tb := sx_in (List.mem_of_getElem? (i := 633) (by decide +kernel)) rfl
theorem mk_X12_110 : Cond.methodLink RX12 110 yJ0_length_8abf5 ∈ sx_tb := sx_in (List.mem_of_getElem? (i := 1674) (by decide +kernel)) rfl
theorem mk_X12_115 : Cond.methodLink RX12 115 yJ0_charAt_5068e ∈ sx_tb := sx_in (List.mem_of_getElem? (i := 1675) (by decide +kernel)) rfl
