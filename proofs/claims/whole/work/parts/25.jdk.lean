theorem sp_chr_ok : ∀ i, i < 9 → ∀ j, j < sp_len i → sp_i2c (sp_chr i j &&& 255) = sp_chr i j ∧ narrow .char (.int (sp_chr i j)) = .int (sp_chr i j) := by decide +kernel
theorem sp_len_small : ∀ i, i < 9 → sp_len i < 100 := by decide +kernel
section
variable {D : va_G} {b : Nat} {K : State → Heap → Prop} {σ : sx_H} {sa : Nat → Nat}
theorem sp_in_lt2 {x : Int32} {N : Nat} (h : sp_in x N = true) (hN : N < 2147483648) : ¬ x < 0 ∧ x < Int32.ofNat N := by
  have h1 := sp_in_vp h
  obtain ⟨j, hj, rfl⟩ := vp_in_of h1 hN
  exact ⟨nI_pos (by omega), nI_lt hj hN⟩
set_option maxRecDepth 20000 in
theorem t_latChar (hK : sx_Kk b K sa) {i : Nat} (hi : i < 9) {x v : Int32} (hr : sp_rd (sp_chr i) (sp_len i) x = some v) : sx_Runs D b K yJ1_charAt_3b067 YJ1_charAt_3b067 (sx_rm 2) [.ref (sa (20 + i)), .int x] σ (sx_Ex (some (.int v)) σ) := by
  obtain ⟨h0, hv⟩ := sp_rd_some hr
  obtain ⟨h1, h2⟩ := sp_in_lt2 h0 (by have := sp_len_small i hi; omega)
  have hc := sp_chr_ok i hi x.toNatClampNeg (sp_in_lt h0)
  rw [hv] at hc
  refine sx_run (by decide +kernel) rfl rfl (Nat.le_of_ble_eq_true rfl) ?_
  refine at_iload_n 1 dJ1_charAt_3b067_0 rfl ?_
  refine at_aload_n 0 dJ1_charAt_3b067_1 rfl ?_
  refine at_tolen (fun U H h => ((hK.2 U H h).1.1 i hi).2.2.2) rfl dJ1_charAt_3b067_2 ?_
  refine at_callSv (st := []) (As := [.int x, .int (Int32.ofNat (sp_len i))]) hK mt_J0_checkIndex_df160 (Or.inl (sx_in (List.mem_of_getElem? (i := 644) (by decide +kernel)) rfl)) (t_strCheck hK h1 h2) rfl rfl (Nat.le_of_ble_eq_true rfl) ⟨Nat.le_of_ble_eq_true rfl, Nat.le_of_ble_eq_true rfl⟩ ⟨Nat.le_refl _, Nat.le_refl _⟩ dJ1_charAt_3b067_3 ?_
  refine at_aload_n 0 dJ1_charAt_3b067_6 rfl ?_
  refine at_iload_n 1 dJ1_charAt_3b067_7 rfl ?_
  refine at_tobd (f := sp_chr i) (N := sp_len i) (fun U H h => ((hK.2 U H h).1.1 i hi).2.2.2) hr dJ1_charAt_3b067_8 ?_
  refine at_sipush 255 dJ1_charAt_3b067_9 (by decide) ?_
  refine at_iand dJ1_charAt_3b067_12 ?_
  refine at_i2c dJ1_charAt_3b067_13 ?_
  rw [hc.1]
  exact at_zret rfl hc.2 (Nat.le_refl _) (Nat.le_refl _) ⟨rfl, rfl⟩ dJ1_charAt_3b067_14
set_option maxRecDepth 20000 in
theorem t_schr (hK : sx_Kk b K sa) {i : Nat} (hi : i < 9) {x v : Int32} (hr : sp_rd (sp_chr i) (sp_len i) x = some v) : sx_Runs D b K yJ0_charAt_5068e YJ0_charAt_5068e (sx_rm 3) [.ref (sa i), .int x] σ (sx_Ex (some (.int v)) σ) := by
  obtain ⟨h0, hv⟩ := sp_rd_some hr
  have hc := sp_chr_ok i hi x.toNatClampNeg (sp_in_lt h0)
  rw [hv] at hc
  refine sx_run (by decide +kernel) rfl rfl (Nat.le_of_ble_eq_true rfl) ?_
  refine at_aload_n 0 dJ0_charAt_5068e_0 rfl ?_
  refine at_callO (st := []) hK mt_J0_isLatin1_aae02 (sx_in (List.mem_of_getElem? (i := 637) (by decide +kernel)) rfl) (fun U H h => ((hK.2 U H h).1.1 i hi).1) (t_isLatin1 hK hi) rfl rfl (Nat.le_of_ble_eq_true rfl) ⟨Nat.le_of_ble_eq_true rfl, Nat.le_of_ble_eq_true rfl⟩ ⟨Nat.le_refl _, Nat.le_refl _⟩ dJ0_charAt_5068e_1 ?_
  refine at_if_eq (x := 1) (st := []) 16 dJ0_charAt_5068e_4 (by decide) (fun c => absurd c (by decide)) (fun _ => ?_)
  refine at_aload_n 0 dJ0_charAt_5068e_7 rfl ?_
  refine at_getO (fun U H h => ((hK.2 U H h).1.1 i hi).2.2.1) (sx_in (List.mem_of_getElem? (i := 2096) (by decide +kernel)) rfl) dJ0_charAt_5068e_8 ?_
  refine at_iload_n 1 dJ0_charAt_5068e_11 rfl ?_
  refine at_callSi (st := []) hK mt_J1_charAt_3b067 (Or.inl (sx_in (List.mem_of_getElem? (i := 641) (by decide +kernel)) rfl)) (t_latChar hK hi hr) rfl rfl (Nat.le_of_ble_eq_true rfl) ⟨Nat.le_of_ble_eq_true rfl, Nat.le_of_ble_eq_true rfl⟩ ⟨Nat.le_refl _, Nat.le_refl _⟩ dJ0_charAt_5068e_12 ?_
  exact at_zret rfl hc.2 (Nat.le_refl _) (Nat.le_refl _) ⟨rfl, rfl⟩ dJ0_charAt_5068e_15
end
section
variable {D : va_G} {b : Nat} {K : State → Heap → Prop} {Y : sx_Y} {R : Room} {Z : List Frame → Array Value → State → State → Prop} {pc : Nat} {lv : List (Nat × Value)} {st : List Value} {σ : sx_H} {k n : Nat} {sa : Nat → Nat}
theorem at_slen {i idx : Nat} (hK : sx_Kk b K sa) (hi : i < 9) (hlk : sx_ML Y.1 idx yJ0_length_8abf5) (hl2 : Cond.methodLink Y.1 idx yJ0_length_8abf5 ∈ sx_tb) (hW : (st.map fun v => v.category).sum ≤ 8) (hR : 1 + 1 ≤ R.frames ∧ 8 + (1 + 11) + 100 * 1 ≤ R.locals) (hf : k ≤ R.cells ∧ n ≤ R.slots) (hd : decode Y.2.1 pc = .ok (.invokevirtual idx, 3)) (kk : sx_AtZ D b K Y R Z (pc + 3) lv (.int (Int32.ofNat (sp_len i)) :: st) σ k n) : sx_AtZ D b K Y R Z pc lv (.ref (sa i) :: st) σ k n :=
  at_callO (d := 1) hK mt_J0_length_8abf5 hl2 (fun U H h => ((hK.2 U H h).1.1 i hi).1) (t_slen hK hi) rfl rfl hW hR hf hd kk
theorem at_schr {i idx : Nat} {x v : Int32} (hK : sx_Kk b K sa) (hi : i < 9) (hlk : sx_ML Y.1 idx yJ0_charAt_5068e) (hl2 : Cond.methodLink Y.1 idx yJ0_charAt_5068e ∈ sx_tb) (hr : sp_rd (sp_chr i) (sp_len i) x = some v) (hW : (st.map fun v => v.category).sum ≤ 8) (hR : 3 + 1 ≤ R.frames ∧ 8 + (2 + 11) + 100 * 3 ≤ R.locals) (hf : k ≤ R.cells ∧ n ≤ R.slots) (hd : decode Y.2.1 pc = .ok (.invokevirtual idx, 3)) (kk : sx_AtZ D b K Y R Z (pc + 3) lv (.int v :: st) σ k n) : sx_AtZ D b K Y R Z pc lv (.int x :: .ref (sa i) :: st) σ k n :=
  at_callO (d := 3) (As := [.int x]) hK mt_J0_charAt_5068e hl2 (fun U H h => ((hK.2 U H h).1.1 i hi).1) (t_schr hK hi hr) rfl rfl hW hR hf hd kk
end
/-! ===== Arrays.fill ===== -/
section
variable {D : va_G} {b : Nat} {K : State → Heap → Prop} {σ : sx_H} {sa : Nat → Nat}
theorem sp_fill_0 {α : Type} (f : Nat → α) (v : α) : sp_fill f 0 v = f := by
  funext j; simp [sp_fill]
theorem sp_fill_s (f : Nat → Int32) (v : Int32) (j : Nat) : upd (sp_fill f j v) j v = sp_fill f (j + 1) v := by
  funext q
  simp only [upd, sp_fill]
  by_cases h : q = j
  · subst h; simp
  · rw [if_neg h]
    by_cases h2 : q < j
    · rw [if_pos h2, if_pos (by omega)]
    · rw [if_neg h2, if_neg (by omega)]
theorem sp_fill_sl (f : Nat → Int64) (v : Int64) (j : Nat) : vp_updL (sp_fill f j v) j v = sp_fill f (j + 1) v := by
  funext q
  simp only [vp_updL, sp_fill]
  by_cases h : q = j
  · subst h; simp
  · rw [if_neg h]
    by_cases h2 : q < j
    · rw [if_pos h2, if_pos (by omega)]
    · rw [if_neg h2, if_neg (by omega)]
theorem sp_nin {j N : Nat} (h : j < N) (hN : N < 2147483648) : sp_in (nI j) N = true := by
  have h1 : vp_in (nI j) N := vp_in_nI h hN
  unfold sp_in
  exact decide_eq_true h1
set_option maxRecDepth 20000 in
theorem fillI_loop {i N : Nat} {f : Nat → Int32} {v : Int32} (hi : σ[i]? = some (.inl (.int, N, .inl f))) (hN : N < 2147483648) : ∀ m j : Nat, m + j = N → sx_At D b K YJ7_fill_53178 (sx_rm 0) (sx_Ex none (σ.set i (.inl (.int, N, .inl (sp_fill f N v))))) 5 [(0, .ref (b + i)), (1, .int v), (2, .int (nI j)), (3, .int (nI N))] [] (σ.set i (.inl (.int, N, .inl (sp_fill f j v)))) 0 0 := by
  have hl : i < σ.length := (List.getElem?_eq_some_iff.mp hi).1
  intro m
  induction m with
  | zero =>
    intro j e
    rw [Nat.zero_add] at e
    subst e
    refine at_iload_n 2 dJ7_fill_53178_5 rfl ?_
    refine at_iload_n 3 dJ7_fill_53178_6 rfl ?_
    refine at_icmp_ge 20 dJ7_fill_53178_7 (by decide) (fun _ => ?_) (fun c => absurd (nI_le (Nat.le_refl _) hN) c)
    exact at_vret rfl (Nat.le_refl _) (Nat.le_refl _) ⟨rfl, rfl⟩ dJ7_fill_53178_20
  | succ m ih =>
    intro j e
    refine at_iload_n 2 dJ7_fill_53178_5 rfl ?_
    refine at_iload_n 3 dJ7_fill_53178_6 rfl ?_
    refine at_icmp_ge 20 dJ7_fill_53178_7 (by decide) (fun c => absurd c (nI_ge (by omega) hN)) (fun _ => ?_)
    refine at_aload_n 0 dJ7_fill_53178_10 rfl ?_
    refine at_iload_n 2 dJ7_fill_53178_11 rfl ?_
    refine at_iload_n 1 dJ7_fill_53178_12 rfl ?_
    refine at_iast (σ1 := σ.set i (.inl (.int, N, .inl (sp_fill f (j + 1) v)))) (List.getElem?_set_self hl) (sp_nin (by omega) hN) ?_ dJ7_fill_53178_13 ?_
    · rw [List.set_set, nI_clamp (by omega), sp_fill_s]
    refine at_iinc 2 1 [(0, .ref (b + i)), (1, .int v), (2, .int (nI (j + 1))), (3, .int (nI N))] dJ7_fill_53178_14 rfl (by decide) (Nat.le_of_ble_eq_true rfl) ?_ ?_
    · rw [nI_1]; rfl
    refine at_goto 5 dJ7_fill_53178_17 (by decide) ?_
    exact ih (j + 1) (by omega)
set_option maxRecDepth 20000 in
theorem t_fillI {i N : Nat} {f : Nat → Int32} {v : Int32} (hi : σ[i]? = some (.inl (.int, N, .inl f))) (hN : N < 2147483648) : sx_Runs D b K yJ7_fill_53178 YJ7_fill_53178 (sx_rm 0) [.ref (b + i), .int v] σ (sx_Ex none (σ.set i (.inl (.int, N, .inl (sp_fill f N v))))) := by
  have hl : i < σ.length := (List.getElem?_eq_some_iff.mp hi).1
  refine sx_run (by decide +kernel) rfl rfl (Nat.le_of_ble_eq_true rfl) ?_
  refine at_iconst 0 dJ7_fill_53178_0 (by decide) ?_
  refine at_istore_n [(0, .ref (b + i)), (1, .int v), (2, .int 0)] dJ7_fill_53178_1 (Nat.le_of_ble_eq_true rfl) rfl ?_
  refine at_aload_n 0 dJ7_fill_53178_2 rfl ?_
  refine at_alen hi rfl dJ7_fill_53178_3 ?_
  refine at_istore_n [(0, .ref (b + i)), (1, .int v), (2, .int 0), (3, .int (nI N))] dJ7_fill_53178_4 (Nat.le_of_ble_eq_true rfl) rfl ?_
  have h := fillI_loop (D := D) (b := b) (K := K) (v := v) hi hN N 0 (Nat.add_zero N)
  rw [sp_fill_0, nI_0] at h
  have e : σ.set i (.inl (.int, N, .inl f)) = σ := by
    obtain ⟨h1, h2⟩ := List.getElem?_eq_some_iff.mp hi
    rw [← h2]; exact List.set_getElem_self h1
  rw [e] at h
  exact h
set_option maxRecDepth 20000 in
theorem fillJ_loop {i N : Nat} {f : Nat → Int64} {v : Int64} (hi : σ[i]? = some (.inl (.long, N, .inr (.inl f)))) (hN : N < 2147483648) : ∀ m j : Nat, m + j = N → sx_At D b K YJ7_fill_d0a16 (sx_rm 0) (sx_Ex none (σ.set i (.inl (.long, N, .inr (.inl (sp_fill f N v)))))) 6 [(0, .ref (b + i)), (1, .long v), (3, .int (nI j)), (4, .int (nI N))] [] (σ.set i (.inl (.long, N, .inr (.inl (sp_fill f j v))))) 0 0 := by
  have hl : i < σ.length := (List.getElem?_eq_some_iff.mp hi).1
  intro m
  induction m with
  | zero =>
    intro j e
    rw [Nat.zero_add] at e
    subst e
    refine at_iload_n 2 dJ7_fill_d0a16_6 rfl ?_
    refine at_iload 3 dJ7_fill_d0a16_7 rfl ?_
    refine at_icmp_ge 22 dJ7_fill_d0a16_9 (by decide) (fun _ => ?_) (fun c => absurd (nI_le (Nat.le_refl _) hN) c)
    exact at_vret rfl (Nat.le_refl _) (Nat.le_refl _) ⟨rfl, rfl⟩ dJ7_fill_d0a16_22
  | succ m ih =>
    intro j e
    refine at_iload_n 2 dJ7_fill_d0a16_6 rfl ?_
    refine at_iload 3 dJ7_fill_d0a16_7 rfl ?_
    refine at_icmp_ge 22 dJ7_fill_d0a16_9 (by decide) (fun c => absurd c (nI_ge (by omega) hN)) (fun _ => ?_)
    refine at_aload_n 0 dJ7_fill_d0a16_12 rfl ?_
    refine at_iload_n 2 dJ7_fill_d0a16_13 rfl ?_
    refine at_lload_n 1 dJ7_fill_d0a16_14 rfl ?_
    refine at_last (σ1 := σ.set i (.inl (.long, N, .inr (.inl (sp_fill f (j + 1) v))))) (List.getElem?_set_self hl) (sp_nin (by omega) hN) ?_ dJ7_fill_d0a16_15 ?_
    · rw [List.set_set, nI_clamp (by omega), sp_fill_sl]
    refine at_iinc 2 1 [(0, .ref (b + i)), (1, .long v), (3, .int (nI (j + 1))), (4, .int (nI N))] dJ7_fill_d0a16_16 rfl (by decide) (Nat.le_of_ble_eq_true rfl) ?_ ?_
    · rw [nI_1]; rfl
    refine at_goto 6 dJ7_fill_d0a16_19 (by decide) ?_
    exact ih (j + 1) (by omega)
set_option maxRecDepth 20000 in
theorem t_fillJ {i N : Nat} {f : Nat → Int64} {v : Int64} (hi : σ[i]? = some (.inl (.long, N, .inr (.inl f)))) (hN : N < 2147483648) : sx_Runs D b K yJ7_fill_d0a16 YJ7_fill_d0a16 (sx_rm 0) [.ref (b + i), .long v] σ (sx_Ex none (σ.set i (.inl (.long, N, .inr (.inl (sp_fill f N v)))))) := by
  have hl : i < σ.length := (List.getElem?_eq_some_iff.mp hi).1
  refine sx_run (by decide +kernel) rfl rfl (Nat.le_of_ble_eq_true rfl) ?_
  refine at_iconst 0 dJ7_fill_d0a16_0 (by decide) ?_
  refine at_istore_n [(0, .ref (b + i)), (1, .long v), (3, .int 0)] dJ7_fill_d0a16_1 (Nat.le_of_ble_eq_true rfl) rfl ?_
  refine at_aload_n 0 dJ7_fill_d0a16_2 rfl ?_
  refine at_alen hi rfl dJ7_fill_d0a16_3 ?_
  refine at_istore [(0, .ref (b + i)), (1, .long v), (3, .int 0), (4, .int (nI N))] dJ7_fill_d0a16_4 (Nat.le_of_ble_eq_true rfl) rfl ?_
  have h := fillJ_loop (D := D) (b := b) (K := K) (v := v) hi hN N 0 (Nat.add_zero N)
  rw [sp_fill_0, nI_0] at h
  have e : σ.set i (.inl (.long, N, .inr (.inl f))) = σ := by
    obtain ⟨h1, h2⟩ := List.getElem?_eq_some_iff.mp hi
    rw [← h2]; exact List.set_getElem_self h1
  rw [e] at h
  exact h
end
section
variable {D : va_G} {b : Nat} {K : State → Heap → Prop} {Y : sx_Y} {R : Room} {Z : List Frame → Array Value → State → State → Prop} {pc : Nat} {lv : List (Nat × Value)} {st : List Value} {σ σ1 : sx_H} {k n : Nat} {sa : Nat → Nat}
theorem at_fillI {i N idx : Nat} {f : Nat → Int32} {v : Int32} (hK : sx_Kk b K sa) (hi : σ[i]? = some (.inl (.int, N, .inl f))) (hw : σ.set i (.inl (.int, N, .inl (sp_fill f N v))) = σ1) (hN : N < 2147483648) (hml : sx_ML Y.1 idx yJ7_fill_53178) (hW : (st.map fun v => v.category).sum ≤ 8) (hR : 0 + 1 ≤ R.frames ∧ 8 + (4 + 11) + 100 * 0 ≤ R.locals) (hf : k ≤ R.cells ∧ n ≤ R.slots) (hd : decode Y.2.1 pc = .ok (.invokestatic idx, 3)) (kk : sx_AtZ D b K Y R Z (pc + 3) lv st σ1 k n) : sx_AtZ D b K Y R Z pc lv (.int v :: .ref (b + i) :: st) σ k n := by
  subst hw
  exact at_callSv (d := 0) (As := [.ref (b + i), .int v]) hK mt_J7_fill_53178 hml (t_fillI hi hN) rfl rfl hW hR hf hd kk
theorem at_fillJ {i N idx : Nat} {f : Nat → Int64} {v : Int64} (hK : sx_Kk b K sa) (hi : σ[i]? = some (.inl (.long, N, .inr (.inl f)))) (hw : σ.set i (.inl (.long, N, .inr (.inl (sp_fill f N v)))) = σ1) (hN : N < 2147483648) (hml : sx_ML Y.1 idx yJ7_fill_d0a16) (hW : (st.map fun v => v.category).sum ≤ 8) (hR : 0 + 1 ≤ R.frames ∧ 8 + (5 + 11) + 100 * 0 ≤ R.locals) (hf : k ≤ R.cells ∧ n ≤ R.slots) (hd : decode Y.2.1 pc = .ok (.invokestatic idx, 3)) (kk : sx_AtZ D b K Y R Z (pc + 3) lv st σ1 k n) : sx_AtZ D b K Y R Z pc lv (.long v :: .ref (b + i) :: st) σ k n := by
  subst hw
  exact at_callSv (d := 0) (As := [.ref (b + i), .long v]) hK mt_J7_fill_d0a16 hml (t_fillJ hi hN) rfl rfl hW hR hf hd kk
end
/-! ===== the rows of TreeTally's table ===== -/
section
variable {b : Nat} {uG uN uD uR uF uP uL uT uA uM uH xA xB xC xD xE xF xG xH xI xJ xK xL uO : sx_C} {G : sx_H}
theorem hg_row {i : Nat} (h : i < 7) : (sx_hp b uG uN uD uR uF uP uL uT uA uM uH xA xB xC xD xE xF xG xH xI xJ xK xL uO G)[24 + i]? = some (.inl (.long, 7, .inr (.inl (gm uT i)))) := by
  rcases (show i = 0 ∨ i = 1 ∨ i = 2 ∨ i = 3 ∨ i = 4 ∨ i = 5 ∨ i = 6 by omega) with rfl | rfl | rfl | rfl | rfl | rfl | rfl <;> rfl
theorem hw_row {i : Nat} {f : Nat → Int64} (h : i < 7) : (sx_hp b uG uN uD uR uF uP uL uT uA uM uH xA xB xC xD xE xF xG xH xI xJ xK xL uO G).set (24 + i) (.inl (.long, 7, .inr (.inl f))) = sx_hp b uG uN uD uR uF uP uL (sn uT i f) uA uM uH xA xB xC xD xE xF xG xH xI xJ xK xL uO G := by
  rcases (show i = 0 ∨ i = 1 ∨ i = 2 ∨ i = 3 ∨ i = 4 ∨ i = 5 ∨ i = 6 by omega) with rfl | rfl | rfl | rfl | rfl | rfl | rfl <;> rfl
theorem hs_row {i j : Nat} {v : Int64} (h : i < 7) : (sx_hp b uG uN uD uR uF uP uL uT uA uM uH xA xB xC xD xE xF xG xH xI xJ xK xL uO G).set (24 + i) (.inl (.long, 7, .inr (.inl (vp_updL (gm uT i) j v)))) = sx_hp b uG uN uD uR uF uP uL (sm uT i j v) uA uM uH xA xB xC xD xE xF xG xH xI xJ xK xL uO G := hw_row h
end
section
variable {D : va_G} {b : Nat} {K : State → Heap → Prop} {Y : sx_Y} {R : Room} {Z : List Frame → Array Value → State → State → Prop} {pc : Nat} {lv : List (Nat × Value)} {st : List Value} {k n : Nat} {uG uN uD uR uF uP uL uT uA uM uH xA xB xC xD xE xF xG xH xI xJ xK xL uO : sx_C} {G : sx_H}
theorem at_row {x : Int32} (hx : sp_in x 7 = true) (hd : decode Y.2.1 pc = .ok (.aaload, 1)) (kk : sx_AtZ D b K Y R Z (pc + 1) lv (.ref (b + (24 + x.toNatClampNeg)) :: st) (sx_hp b uG uN uD uR uF uP uL uT uA uM uH xA xB xC xD xE xF xG xH xI xJ xK xL uO G) k n) : sx_AtZ D b K Y R Z pc lv (.int x :: .ref (b + 23) :: st) (sx_hp b uG uN uD uR uF uP uL uT uA uM uH xA xB xC xD xE xF xG xH xI xJ xK xL uO G) k n := by
  intro p l e s m args below meth c H locs ls C0 V S hl
  obtain ⟨hz, cA, hP, hT⟩ := id V
  have hlt := sp_in_lt hx
  have h23 : (sx_hp b uG uN uD uR uF uP uL uT uA uM uH xA xB xC xD xE xF xG xH xI xJ xK xL uO G)[23]? = some (.inl (.array .long, 7, .inr (.inr (.inr (.inr (fun i => if i < 7 then some (b + 24 + i) else none)))))) := hg_23
  have hv : va_rf ((fun i => if i < 7 then some (b + 24 + i) else none) x.toNatClampNeg) = .ref (b + (24 + x.toNatClampNeg)) := by
    simp only [hlt, if_true, va_rf]
    rw [Nat.add_assoc]
  refine W.aald (v := .ref (b + (24 + x.toNatClampNeg))) (ty := .array .long) C0.1 C0.2.1 (hP.arr h23 (by decide)) ((hT 23 _ _ h23 (by decide)).1 7 (fun j => va_rf ((fun i => if i < 7 then some (b + 24 + i) else none) j))) rfl (fun q => by cases q) (by show ¬ (x < 0 ∨ (arrV _ _ _).slots.size ≤ _); rw [arrV_size]; exact sp_in_vp hx) (by show (arrV _ _ _).slots[_]? = _; rw [arrV_read _ _ hlt]; exact congrArg some hv) rfl rfl hd (kk p l e s m args below meth c H locs ls C0 V S hl)
end
