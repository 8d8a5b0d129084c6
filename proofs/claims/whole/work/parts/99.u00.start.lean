/-! ===== the start; all but the trees ===== -/
theorem s_start : sI LKd z_uG z_uN z_uD z_uR z_0 z_0 z_0 z_0 z_0 z_0 z_0 z_x z_x z_x z_x z_x z_x z_x z_x z_x z_x z_x z_x := by
  have hz : ∀ z, ¬ bt 0 z = true := fun z h => by
    by_cases hz : z < 32
    · have := h_nI (n := 0) z hz
      rw [Nat.zero_testBit] at this
      have h : bt (nI 0) z = true := h
      rw [this] at h; cases h
    · rw [b_big (by omega)] at h; cases h
  refine ⟨2, 0, 0, 1, (fun _ => 0), (fun _ => 0), ⟨⟨rfl, rfl, rfl, rfl, fun i hi => by omega, ⟨by omega, by omega, by omega⟩, ⟨by omega, by omega⟩, fun i => ⟨show (0 : Nat) < 2 by decide, show (0 : Nat) < 2 by decide⟩⟩, ⟨rfl, rfl, rfl, rfl, fun i hi => by omega, ⟨by omega, by omega, by omega⟩, ⟨by omega, by omega⟩, fun i => ⟨show (0 : Nat) < 2 by decide, show (0 : Nat) < 2 by decide⟩⟩, ?_, ⟨rfl, rfl, rfl⟩, ⟨1, by decide, rfl⟩, fun z h => absurd h (hz z), fun z h => absurd h (hz z), fun z h => absurd h.1 (hz z)⟩, ⟨0, 0, by decide, by decide, rfl, rfl, rfl, fun k hk => by omega⟩, ⟨0, by decide, rfl, rfl, fun i hi => by omega⟩, ⟨rfl, rfl, rfl⟩, Or.inl rfl⟩
  exact ⟨(fun _ => 0), (fun _ => 0), by
    unfold fNet
    simp [z_0, ga]
    first
      | done
      | decide⟩
theorem lo_all {N : Nat} (hf : 200000 ≤ N) (h1 : LO_trees N (sI LKd)) (h2 : LO_treesWith N (sI LKd)) : LO N (sI LKd) :=
  have h3 : 300 ≤ N := by omega
  ⟨lo_feed h3, lo_text hf, lo_fault, lo_line, lo_place h3, lo_reaches h3, lo_move h3, lo_pass h3, lo_undo, lo_written, lo_now h3, lo_pair hf, lo_outcome h3, lo_wins h3, lo_answer hf, lo_exchange hf, lo_played h3, lo_verified hf, lo_full hf, lo_positions hf, lo_wall hf, lo_road hf, lo_lucky hf, lo_luckyWith hf, h1, h2, lo_idle h3, lo_ifLine h3, lo_ifMore h3, lo_ifEnds h3, lo_lacks h3, lo_cutAnswer h3, lo_verifiedForCut hf, lo_pivots hf, lo_needed hf, lo_walls hf, lo_set hf, lo_alike hf, lo_strong hf, lo_forests hf, lo_duel hf, lo_chance h3, lo_count⟩
