/-! ===== the claim ===== -/
theorem i_vc : Claimed_1_1 ∧ Claimed_1_2 := lw_claim (N := 200000) (lo_all (by omega) (lo_trees (by omega)) (lo_treesWith (by omega))) s_start
