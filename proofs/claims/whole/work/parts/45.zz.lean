theorem zz1 : ((vx_atS RX11 129 "java/lang/IndexOutOfBoundsException" ["java/lang/RuntimeException", "java/lang/Exception"]).filter (fun w => !goodWord w)) = [.castable "java/lang/IndexOutOfBoundsException" "java/lang/IndexOutOfBoundsException"] := by decide +kernel
theorem zz2 : ((vx_atS RX11 129 "java/lang/IndexOutOfBoundsException" ["java/lang/RuntimeException", "java/lang/Exception"]).filter (fun w => !goodWord w)).length = 1 := by decide +kernel
theorem zz3 : ((vx_atS RX11 129 "java/lang/IndexOutOfBoundsException" ["java/lang/RuntimeException", "java/lang/Exception"]).filter (fun w => !goodWord w)).length = 0 := by decide +kernel
theorem zz4 : ∀ w ∈ (vx_atS RX11 129 "java/lang/IndexOutOfBoundsException" ["java/lang/RuntimeException", "java/lang/Exception"]), w ∈ lw_tbl := by decide +kernel
theorem zz5 : ((vx_atS RX11 129 "java/lang/IndexOutOfBoundsException" ["java/lang/RuntimeException", "java/lang/Exception"]).filter (fun w => !goodWord w)) = [] := by
  show _ = _
  simp [vx_atS, Bundle.ownAtoms, goodWord, vx_no]
