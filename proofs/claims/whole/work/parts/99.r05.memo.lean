/-! ===== the memo; the packed replies ===== -/
def keyI (J G : Int32) : Int32 := (J ||| sp_shl G 14) + 1
def b14 (J : Int32) : Prop := ∀ z, bt J z = true → z < 14
def mOK (V : Int32 → Int32 → Int32 → Prop) (uM : sx_C) : Prop := ∀ k, k < 1024 → ∀ J G, b14 J → b14 G → ga uM 0 k = keyI J G → V J G (ga uM 1 k)
theorem key_bits (J G : Int32) {z : Nat} (hz : z < 32) : bt (J ||| sp_shl G 14) z = (bt J z || (decide (14 ≤ z) && bt G (z - 14))) := by
  rw [b_or, show (14 : Int32) = nI 14 from rfl, h_shl _ (by omega) hz]
theorem key_inj {J G J' G' : Int32} (h1 : b14 J) (h2 : b14 G) (h3 : b14 J') (h4 : b14 G') (h : keyI J G = keyI J' G') : J = J' ∧ G = G' := by
  have e : J ||| sp_shl G 14 = J' ||| sp_shl G' 14 := by
    unfold keyI at h
    have := congrArg (fun x => x - 1) h
    simpa [Int32.add_sub_cancel] using this
  have hb : ∀ z, z < 32 → (bt J z || (decide (14 ≤ z) && bt G (z - 14))) = (bt J' z || (decide (14 ≤ z) && bt G' (z - 14))) := fun z hz => by rw [← key_bits J G hz, ← key_bits J' G' hz, e]
  have off : ∀ X : Int32, b14 X → ∀ z, 14 ≤ z → bt X z = false := fun X hX z hz => by
    cases h9 : bt X z
    · rfl
    · have := hX z h9; omega
  constructor
  · refine b_ext (fun z hz => ?_)
    by_cases h14 : z < 14
    · have := hb z hz
      have n : ¬ 14 ≤ z := by omega
      simpa [n] using this
    · rw [off J h1 z (by omega), off J' h3 z (by omega)]
  · refine b_ext (fun z hz => ?_)
    by_cases h14 : z < 14
    · have := hb (z + 14) (by omega)
      rw [off J h1 _ (by omega), off J' h3 _ (by omega), show z + 14 - 14 = z by omega] at this
      have n : 14 ≤ z + 14 := by omega
      simpa [n] using this
    · rw [off G h2 z (by omega), off G' h4 z (by omega)]
theorem key_ne {J G : Int32} (h1 : b14 J) (h2 : b14 G) : keyI J G ≠ 0 := by
  intro h
  have e : J ||| sp_shl G 14 = -1 := by
    unfold keyI at h
    have := congrArg (fun x => x - 1) h
    simpa [Int32.add_sub_cancel] using this
  have := key_bits J G (z := 31) (by omega)
  rw [e, b_m1 31 (by omega)] at this
  cases h9 : bt J 31
  · rw [h9] at this
    cases h10 : bt G (31 - 14)
    · rw [h10] at this; simp at this
    · have := h2 _ h10; omega
  · have := h1 _ h9; omega
theorem and1023 (x : Int32) : ∃ k, k < 1024 ∧ x &&& 1023 = nI k := by
  obtain ⟨n, -, rfl⟩ := wb_of32 x
  refine ⟨n &&& 1023, ?_, fa_and n 1023⟩
  have := Nat.and_le_right (n := n) (m := 1023)
  omega
section
variable {N : Nat} {uM : sx_C}
theorem slotOf_ok (hf : 300 ≤ N) (key : Int32) : ∃ r, f_X5_slotOf N uM key = some r ∧ (r = -1 ∨ ∃ k, k < 1024 ∧ r = nI k ∧ (ga uM 0 k = key ∨ ga uM 0 k = 0)) := by
  have loop : ∀ n i (s : Int32), 64 - i < n → i ≤ 64 → ∃ r, f_X5_slotOf_10 N uM n key s (nI i) = some r ∧ (r = -1 ∨ ∃ k, k < 1024 ∧ r = nI k ∧ (ga uM 0 k = key ∨ ga uM 0 k = 0)) := by
    intro n
    induction n with
    | zero => intro i s hn; omega
    | succ n ih =>
      intro i s hn hi
      unfold f_X5_slotOf_10
      by_cases hc : 64 ≤ i
      · rw [if_pos (show (64 : Int32) ≤ nI i from (nle (a := 64) (by omega) (by omega)).mpr hc)]
        exact ⟨-1, rfl, Or.inl rfl⟩
      · rw [if_neg (show ¬ (64 : Int32) ≤ nI i from fun h => hc ((nle (a := 64) (by omega) (by omega)).mp h))]
        obtain ⟨k, k1, k2⟩ := and1023 (s + nI i)
        rw [k2, rd_ok k1 (by decide)]
        simp only [Option.bind_some]
        by_cases h1 : ga uM 0 k = key
        · rw [if_pos h1]
          exact ⟨nI k, rfl, Or.inr ⟨k, k1, rfl, Or.inl h1⟩⟩
        · rw [if_neg h1]
          by_cases h2 : ga uM 0 k = 0
          · rw [if_pos h2]
            exact ⟨nI k, rfl, Or.inr ⟨k, k1, rfl, Or.inr h2⟩⟩
          · rw [if_neg h2, show nI i + 1 = nI (i + 1) from nadd i 1]
            exact ih (i + 1) s (by omega) (by omega)
  unfold f_X5_slotOf
  exact loop N 0 _ (by omega) (by omega)
theorem valueOf_ok (hf : 300 ≤ N) {V : Int32 → Int32 → Int32 → Prop} (h : mOK V uM) {J G : Int32} (h1 : b14 J) (h2 : b14 G) : ∃ r, f_X5_valueOf N uM J G = some r ∧ (r = -1 ∨ V J G r) := by
  unfold f_X5_valueOf f_X5_keyOf
  rw [Option.bind_some]
  obtain ⟨r, r1, r2⟩ := slotOf_ok (uM := uM) hf (keyI J G)
  unfold keyI at r1
  rw [r1, Option.bind_some]
  rcases r2 with e | ⟨k, k1, k2, -⟩
  · rw [e, if_pos (by decide)]
    exact ⟨-1, rfl, Or.inl rfl⟩
  · rw [k2, if_neg (nI_ne_neg (by omega)).2.2, if_neg (show ¬ (1024 : Int32) ≤ nI k from fun h => by have := (nle (a := 1024) (by omega) (by omega)).mp h; omega), rd_ok k1 (by decide), rd_ok k1 (by decide)]
    simp only [Option.bind_some]
    by_cases e : ga uM 0 k = (J ||| sp_shl G 14) + 1
    · rw [if_pos e]
      exact ⟨_, rfl, Or.inr (h k k1 J G h1 h2 e)⟩
    · rw [if_neg e]
      exact ⟨-1, rfl, Or.inl rfl⟩
theorem keep_ok (hf : 300 ≤ N) {V : Int32 → Int32 → Int32 → Prop} (h : mOK V uM) {J G x : Int32} (h1 : b14 J) (h2 : b14 G) (hV : V J G x) : ∃ uM', f_X5_keep N J G x uM = some uM' ∧ mOK V uM' := by
  unfold f_X5_keep f_X5_keyOf
  simp only [Option.bind_some]
  obtain ⟨r, r1, r2⟩ := slotOf_ok (uM := uM) hf (keyI J G)
  unfold keyI at r1
  rw [r1, Option.bind_some]
  rcases r2 with e | ⟨k, k1, k2, -⟩
  · rw [e, if_pos (by decide)]
    exact ⟨uM, rfl, h⟩
  · rw [k2, if_neg (nI_ne_neg (by omega)).2.2, if_neg (show ¬ (1024 : Int32) ≤ nI k from fun h => by have := (nle (a := 1024) (by omega) (by omega)).mp h; omega), if_pos (in_ok k1 (by decide)), if_pos (in_ok k1 (by decide)), nI_clamp (by omega)]
    refine ⟨_, rfl, fun q hq J' G' h3 h4 hk => ?_⟩
    have g0 : ga (sa (sa uM 0 k ((J ||| sp_shl G 14) + 1)) 1 k x) 0 q = if q = k then (J ||| sp_shl G 14) + 1 else ga uM 0 q := by
      rw [ga_sa, if_neg (by decide), ga_up]
    have g1 : ga (sa (sa uM 0 k ((J ||| sp_shl G 14) + 1)) 1 k x) 1 q = if q = k then x else ga uM 1 q := by
      rw [ga_up]
      rfl
    rw [g0] at hk
    rw [g1]
    by_cases e : q = k
    · rw [if_pos e] at hk ⊢
      obtain ⟨i1, i2⟩ := key_inj h1 h2 h3 h4 hk
      rw [← i1, ← i2]; exact hV
    · rw [if_neg e] at hk ⊢
      exact h q hq J' G' h3 h4 hk
theorem clear_ok (V : Int32 → Int32 → Int32 → Prop) (uM : sx_C) : ∃ uM', f_X5_clear uM = some uM' ∧ mOK V uM' := by
  unfold f_X5_clear
  refine ⟨_, rfl, fun k hk J G h1 h2 h => ?_⟩
  have : ga (sw uM 0 (sp_fill (ga uM 0) 1024 0)) 0 k = 0 := by
    rw [ga_sw, if_pos rfl]
    unfold sp_fill
    rw [if_pos hk]
  rw [this] at h
  exact absurd h.symm (key_ne h1 h2)
end
/-! .. four bits for each reply -/
theorem and15 : ∀ j, j < 14 → nI j &&& 15 = nI j := by decide +kernel
theorem pack_get {d : Nat → Nat} (hd : ∀ j, d j < 14) {i : Nat} (hi : i < 14) : (sp_lushr (lN (dV 4 d 14)) (4 * nI i)).toInt32 &&& 15 = nI (d i) := by
  have hd16 : ∀ j, d j < 2 ^ 4 := fun j => by have := hd j; omega
  have hlt := dV_lt hd16 14
  have e4 : 4 * nI i = nI (4 * i) := nmul 4 i
  unfold sp_lushr
  rw [e4, wb_shr (Nat.lt_of_lt_of_le hlt (by decide)) (by omega), lN_i]
  have e15 : (15 : Int32) = nI (2 ^ 4 - 1) := rfl
  rw [e15, fa_mask]
  congr 1
  apply Nat.eq_of_testBit_eq
  intro z
  rw [Nat.testBit_mod_two_pow, Nat.testBit_div_two_pow]
  by_cases hz : z < 4
  · rw [dV_bit (by decide) hd16, show (z + 4 * i) / 4 = i by omega, show (z + 4 * i) % 4 = z by omega]
    have : z + 4 * i < 4 * 14 := by omega
    simp [hz, this]
  · rw [tb_small (hd16 i) (by omega)]
    simp [hz]
section
variable {N : Nat} {uF uP : sx_C} {ut vt : Nat → Nat} {W : BS} {c : Nat}
theorem replies_ok (hN20 : 20 ≤ N) {u' v' : Nat → Nat} (hF : fNet uF u' v') (hag : ∀ i, W i = true → u' i = ut i ∧ v' i = vt i) (hk : ∀ i, ut i < 8 ∧ vt i < 8) (h : trP ut vt W (gi uP 4) (gi uP 5) c) {d : Nat → Nat} (hd : ∀ j, d j < 14) (hd0 : ∀ i, bt (gi uP 2) i = false → d i = 0) (hd1 : ∀ i, bt (gi uP 2) i = true → aV ut vt (gi uP 4) (gi uP 5) i (d i) = true ∧ fb_ct (aV ut vt (gi uP 4) (gi uP 5) i) (d i) = 0) : ∃ uF', f_X7_replies N uP uF = some (lN (dV 4 d 14), uF') ∧ f4 uF' uF := by
  have hd16 : ∀ j, d j < 2 ^ 4 := fun j => by have := hd j; omega
  have loop : ∀ n i (w : sx_C), 14 - i < n → i ≤ 14 → f4 w uF → ∃ uF', f_X7_replies_10 N uP n (gi uP 2) (lN (dV 4 d i)) (nI i) w = some (lN (dV 4 d 14), uF') ∧ f4 uF' uF := by
    intro n
    induction n with
    | zero => intro i w hn; omega
    | succ n ih =>
      intro i w hn hi hw
      unfold f_X7_replies_10
      by_cases hc : 14 ≤ i
      · rw [if_pos (show (14 : Int32) ≤ nI i from (nle (a := 14) (by omega) (by omega)).mpr hc)]
        have : i = 14 := by omega
        subst this
        exact ⟨w, rfl, hw⟩
      · rw [if_neg (show ¬ (14 : Int32) ≤ nI i from fun h => hc ((nle (a := 14) (by omega) (by omega)).mp h)), has_ok _ (by omega), Option.bind_some]
        unfold f_X7_replies_44
        rw [show nI i + 1 = nI (i + 1) from nadd i 1]
        have hs : dV 4 d (i + 1) = dV 4 d i + d i * 2 ^ (4 * i) := rfl
        cases hb : bt (gi uP 2) i
        · rw [if_neg (by decide)]
          have hs' : dV 4 d (i + 1) = dV 4 d i := by rw [hs, hd0 i hb, Nat.zero_mul]; rfl
          rw [← hs']
          exact ih (i + 1) w (by omega) (by omega) hw
        · rw [if_pos rfl]
          obtain ⟨a1, a2⟩ := hd1 i hb
          obtain ⟨w', r1, r2⟩ := reply_ok hN20 (f4_net hw hF) hag hk h (by omega : i < 17) a1 a2
          simp only [r1, Option.bind_some]
          have e4 : 4 * nI i = nI (4 * i) := nmul 4 i
          have hdi := hd i
          have hlt := dV_lt hd16 i
          have hlt2 := dV_lt hd16 (i + 1)
          have hp : 2 ^ (4 * (i + 1)) ≤ 2 ^ 56 := Nat.pow_le_pow_right (by decide) (by omega)
          have eq : lN (dV 4 d i) ||| sp_lshl ((nI (d i) &&& 15).toInt64) (4 * nI i) = lN (dV 4 d (i + 1)) := by
            rw [and15 _ hdi, nI_l (by omega), e4]
            unfold sp_lshl
            rw [wb_shl _ (by omega), g_or' rfl hlt (by rw [← hs]; omega), ← hs]
          rw [eq]
          exact ih (i + 1) w' (by omega) (by omega) (f4_t r2 hw)
  unfold f_X7_replies
  exact loop N 0 uF (by omega) (by omega) (f4_r uF)
end
