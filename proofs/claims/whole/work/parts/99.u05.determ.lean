/-! ===== the class's determinant ===== -/
abbrev zL (x : Int) : Int64 := Int64.ofInt x
theorem zL_div {x y q : Int} (hy : y ≠ 0) (h : x = q * y) (hx : x.natAbs < 9223372036854775808) (hyb : y.natAbs < 9223372036854775808) : zL x / zL y = zL q := by
  have x1 := Int.natAbs_eq x
  have y1 := Int.natAbs_eq y
  have e1 : Int64.minValue.toInt = -9223372036854775808 := rfl
  have e2 : Int64.maxValue.toInt = 9223372036854775807 := rfl
  have := Int64.ofInt_tdiv (a := x) (b := y) (by rw [e1]; omega) (by rw [e2]; omega) (by rw [e1]; omega) (by rw [e2]; omega)
  show Int64.ofInt x / Int64.ofInt y = Int64.ofInt q
  rw [← this, h, Int.mul_tdiv_cancel q hy]
theorem zL_ne {x : Int} (h0 : x ≠ 0) (hx : x.natAbs < 9223372036854775808) : ¬ zL x = 0 := fun h => by
  have x1 := Int.natAbs_eq x
  have h2 : (Int64.ofInt x).toInt = x := Int64.toInt_ofInt_of_le (by omega) (by omega)
  have h : Int64.ofInt x = 0 := h
  rw [h] at h2
  exact h0 h2.symm
theorem lgc0 (x : Int64) : lg_cmp x 0 = 0 ↔ x = 0 := by
  unfold lg_cmp
  constructor
  · intro h
    by_cases h1 : x > 0
    · rw [if_pos h1] at h; exact absurd h (by decide)
    · rw [if_neg h1] at h
      by_cases h2 : x = 0
      · exact h2
      · rw [if_neg h2] at h; exact absurd h (by decide)
  · intro h
    subst h
    decide
theorem abs_two {a b c d : Int} {C : Nat} (ha : a.natAbs ≤ C) (hb : b.natAbs ≤ C) (hc : c.natAbs ≤ C) (hd : d.natAbs ≤ C) : (a * b - c * d).natAbs ≤ 2 * (C * C) := by
  have h1 : (a * b).natAbs ≤ C * C := by rw [Int.natAbs_mul]; exact Nat.mul_le_mul ha hb
  have h2 : (c * d).natAbs ≤ C * C := by rw [Int.natAbs_mul]; exact Nat.mul_le_mul hc hd
  generalize a * b = x at *
  generalize c * d = y at *
  omega
theorem pow28 {k : Nat} (h : k ≤ 6) : 28 ^ k ≤ 481890304 := by
  have := Nat.pow_le_pow_right (n := 28) (by decide) h
  exact this
section
variable {N n : Nat} {M : Nat → Nat → Int}
/-- the table within a step: rows above i, and row i before column j, are done -/
def tbM (M : Nat → Nat → Int) (n k i j : Nat) (w : sx_C) : Prop := gi w 3 = nI n ∧ ∀ r s, r < n → s < n → k ≤ r → k ≤ s → gm w r s = zL (if k < r ∧ k < s ∧ (r < i ∨ (r = i ∧ s < j)) then tt M (k + 1) r s else tt M k r s)
theorem d69_ok (hn : n ≤ 7) (hb : ∀ s, s < n → fb_sm (fun r => (M r s).natAbs) n ≤ 28) {k i : Nat} (hki : k < i) (hin : i < n) (hp : dt k M ≠ 0) (hq : dt (k + 1) M ≠ 0) (hpb : (dt k M).natAbs ≤ 481890304) (hB : ∀ i j, k < i → i < n → dt k M * tt M (k + 1) i j = dt (k + 1) M * tt M k i j - tt M k i k * tt M k k j) (k4 : Int64 → Int32 → sx_C → Option (Int64 × sx_C)) (k48 : Int64 → Int32 → Int64 → Int32 → sx_C → Option (Int64 × sx_C)) : ∀ fu j w, n - j < fu → k < j → j ≤ n → tbM M n k i j w → ∃ w', tbM M n k i n w' ∧ f_X10_determinant_69 N k4 k48 fu (zL (dt k M)) (nI k) (zL (dt (k + 1) M)) (nI i) (nI j) w = k48 (zL (dt k M)) (nI k) (zL (dt (k + 1) M)) (nI (i + 1)) w' := by
  intro fu
  induction fu with
  | zero => intro j w h; omega
  | succ fu ih =>
    intro j w hfu hkj hjn ht
    have ht3 := ht.1
    unfold f_X10_determinant_69 f_X10_determinant_140
    rw [ht3, show nI i + 1 = nI (i + 1) from nadd i 1, show nI j + 1 = nI (j + 1) from nadd j 1]
    by_cases hc : n ≤ j
    · rw [if_pos ((nle (by omega) (by omega)).mpr hc)]
      have : j = n := by omega
      subst this
      exact ⟨w, ht, rfl⟩
    · rw [if_neg (fun h => hc ((nle (by omega) (by omega)).mp h)), if_neg (show ¬ (7 : Int32) ≤ nI j from fun h => by have := (nle (a := 7) (by omega) (by omega)).mp h; omega)]
      have i1 : sp_in (nI i) 7 = true := in_ok (by omega) (by decide)
      have k1 : sp_in (nI k) 7 = true := in_ok (by omega) (by decide)
      have j1 : sp_in (nI j) 7 = true := in_ok (by omega) (by decide)
      have ci : (nI i).toNatClampNeg = i := nI_clamp (by omega)
      have ck : (nI k).toNatClampNeg = k := nI_clamp (by omega)
      have cj : (nI j).toNatClampNeg = j := nI_clamp (by omega)
      have v1 : gm w i k = zL (tt M k i k) := by rw [ht.2 i k hin (by omega) (by omega) (by omega), if_neg (by omega)]
      have v2 : gm w k j = zL (tt M k k j) := by rw [ht.2 k j (by omega) (by omega) (by omega) (by omega), if_neg (by omega)]
      have v3 : gm w i j = zL (tt M k i j) := by rw [ht.2 i j hin (by omega) (by omega) (by omega), if_neg (by omega)]
      have r1 : sp_rd (gm w i) 7 (nI k) = some (zL (tt M k i k)) := by rw [rd_ok (by omega) (by decide), v1]
      have r2 : sp_rd (gm w k) 7 (nI j) = some (zL (tt M k k j)) := by rw [rd_ok (by omega) (by decide), v2]
      have r3 : sp_rd (gm w i) 7 (nI j) = some (zL (tt M k i j)) := by rw [rd_ok (by omega) (by decide), v3]
      have hv : ¬ zL (dt k M) = 0 := zL_ne hp (by omega)
      simp only [i1, k1, j1, ci, ck, cj, r1, r2, r3, Option.bind_some, ↓reduceIte, hv, not_false_eq_true]
      have p6 : 28 ^ (k + 1) ≤ 481890304 := pow28 (by omega)
      have bk : (dt (k + 1) M).natAbs ≤ 481890304 := by
        rw [← tt_d]
        exact Nat.le_trans (tt_bd hb (Nat.le_refl _) (by omega) (Nat.le_refl _) (by omega)) p6
      have b1 : (tt M k i j).natAbs ≤ 481890304 := Nat.le_trans (tt_bd hb (by omega) hin (by omega) (by omega)) p6
      have b2 : (tt M k i k).natAbs ≤ 481890304 := Nat.le_trans (tt_bd hb (by omega) hin (by omega) (by omega)) p6
      have b3 : (tt M k k j).natAbs ≤ 481890304 := Nat.le_trans (tt_bd hb (by omega) (by omega) (by omega) (by omega)) p6
      have b4 := abs_two b1 bk b2 b3
      have val : (zL (tt M k i j) * zL (dt (k + 1) M) - zL (tt M k i k) * zL (tt M k k j)) / zL (dt k M) = zL (tt M (k + 1) i j) := by
        have e : zL (tt M k i j) * zL (dt (k + 1) M) - zL (tt M k i k) * zL (tt M k k j) = zL (tt M k i j * dt (k + 1) M - tt M k i k * tt M k k j) := by
          show Int64.ofInt _ * Int64.ofInt _ - Int64.ofInt _ * Int64.ofInt _ = Int64.ofInt _
          rw [Int64.ofInt_sub, Int64.ofInt_mul, Int64.ofInt_mul]
        rw [e]
        refine zL_div hp ?_ (by omega) (by omega)
        rw [Int.mul_comm (tt M (k + 1) i j), hB i j hki hin, Int.mul_comm (tt M k i j)]
      rw [val]
      refine ih (j + 1) _ (by omega) (by omega) (by omega) ⟨by rw [gi_sm]; exact ht3, fun r s hr hs hkr hks => ?_⟩
      rw [gm_sm]
      by_cases e1 : r = i
      · rw [if_pos e1]
        unfold vp_updL
        by_cases e2 : s = j
        · subst e1 e2
          rw [if_pos rfl, if_pos (by omega)]
        · rw [if_neg e2, ← e1, ht.2 r s hr hs hkr hks]
          congr 1
          by_cases e3 : k < r ∧ k < s ∧ (r < i ∨ r = i ∧ s < j)
          · rw [if_pos e3, if_pos (by omega)]
          · rw [if_neg e3, if_neg (by omega)]
      · rw [if_neg e1, ht.2 r s hr hs hkr hks]
        congr 1
        by_cases e3 : k < r ∧ k < s ∧ (r < i ∨ r = i ∧ s < j)
        · rw [if_pos e3, if_pos (by omega)]
        · rw [if_neg e3, if_neg (by omega)]
theorem d48_ok (hN : 20 ≤ N) (hn : n ≤ 7) (hb : ∀ s, s < n → fb_sm (fun r => (M r s).natAbs) n ≤ 28) {k : Nat} (hp : dt k M ≠ 0) (hq : dt (k + 1) M ≠ 0) (hpb : (dt k M).natAbs ≤ 481890304 ∨ n ≤ k + 1) (hB : ∀ i j, k < i → i < n → dt k M * tt M (k + 1) i j = dt (k + 1) M * tt M k i j - tt M k i k * tt M k k j) (k4 : Int64 → Int32 → sx_C → Option (Int64 × sx_C)) : ∀ fu i w, n - i < fu → k < i → i ≤ n → tbM M n k i (k + 1) w → ∃ w', tbM M n k n (k + 1) w' ∧ f_X10_determinant_48 N k4 fu (zL (dt k M)) (nI k) (zL (dt (k + 1) M)) (nI i) w = k4 (zL (dt (k + 1) M)) (nI (k + 1)) w' := by
  intro fu
  induction fu with
  | zero => intro i w h; omega
  | succ fu ih =>
    intro i w hfu hki hin ht
    unfold f_X10_determinant_48 f_X10_determinant_146
    rw [ht.1, show nI k + 1 = nI (k + 1) from nadd k 1]
    by_cases hc : n ≤ i
    · rw [if_pos ((nle (by omega) (by omega)).mpr hc)]
      have : i = n := by omega
      subst this
      exact ⟨w, ht, rfl⟩
    · rw [if_neg (fun h => hc ((nle (by omega) (by omega)).mp h)), if_neg (show ¬ (7 : Int32) ≤ nI i from fun h => by have := (nle (a := 7) (by omega) (by omega)).mp h; omega)]
      obtain ⟨w1, t1, e1⟩ := d69_ok hn hb hki (by omega) hp hq (by rcases hpb with h | h; exact h; omega) hB k4 (f_X10_determinant_48 N k4 fu) N (k + 1) w (by omega) (by omega) (by omega) ht
      rw [e1]
      refine ih (i + 1) w1 (by omega) (by omega) (by omega) ⟨t1.1, fun r s hr hs hkr hks => ?_⟩
      rw [t1.2 r s hr hs hkr hks]
      congr 1
      by_cases e3 : k < r ∧ k < s ∧ (r < i ∨ r = i ∧ s < n)
      · rw [if_pos e3, if_pos (by omega)]
      · rw [if_neg e3, if_neg (by omega)]
theorem d4_ok (hN : 20 ≤ N) {u v : Nat → Nat} {E : BS} {L : Nat} (hL : L ≤ 14) (hn : n ≤ 7) : ∀ fu k w, n - k < fu → k ≤ n → bS (lpM u v E q0 L) n k → dt k (lpM u v E q0 L) ≠ 0 → (gi w 3 = nI n ∧ ∀ r s, r < n → s < n → k ≤ r → k ≤ s → gm w r s = zL (tt (lpM u v E q0 L) k r s)) → ∃ w', f_X10_determinant_4 N fu (zL (dt k (lpM u v E q0 L))) (nI k) w = some (zL (dt n (lpM u v E q0 L)), w') := by
  have hb : ∀ s, s < n → fb_sm (fun r => (lpM u v E q0 L r s).natAbs) n ≤ 28 := fun s _ => by have := lpM_bd u v E n s L; omega
  intro fu
  induction fu with
  | zero => intro k w h; omega
  | succ fu ih =>
    intro k w hfu hk hS hp ht
    unfold f_X10_determinant_4 f_X10_determinant_155 f_X10_determinant_41
    rw [ht.1]
    by_cases hc : n ≤ k
    · rw [if_pos ((nle (by omega) (by omega)).mpr hc)]
      have : k = n := by omega
      subst this
      exact ⟨w, rfl⟩
    · rw [if_neg (fun h => hc ((nle (by omega) (by omega)).mp h)), if_neg (show ¬ (7 : Int32) ≤ nI k from fun h => by have := (nle (a := 7) (by omega) (by omega)).mp h; omega), if_pos (in_ok (by omega) (by decide)), nI_clamp (by omega), rd_ok (by omega) (by decide), Option.bind_some, ht.2 k k (by omega) (by omega) (Nat.le_refl _) (Nat.le_refl _), tt_d]
      have bd : ∀ m, m ≤ n → (dt m (lpM u v E q0 L)).natAbs ≤ 28 ^ m := fun m hm => dt_bd m _ (fun s hs => by
        have h1 := fb_sm_mono (fun r => (lpM u v E q0 L r s).natAbs) m (n - m)
        rw [show m + (n - m) = n by omega] at h1
        exact Nat.le_trans h1 (hb s (by omega)))
      have p7 : 28 ^ (k + 1) ≤ 28 ^ 7 := Nat.pow_le_pow_right (by decide) (by omega)
      have p6 : 28 ^ k ≤ 481890304 := pow28 (by omega)
      have e7 : (28 : Nat) ^ 7 = 13492928512 := by decide
      have bk := bd k hk
      have bk1 := bd (k + 1) (by omega)
      by_cases hq : dt (k + 1) (lpM u v E q0 L) = 0
      · rw [hq, if_pos (show lg_cmp (zL 0) 0 = 0 from (lgc0 _).mpr rfl), bS_nought hS (by omega) hp hq]
        exact ⟨w, rfl⟩
      · rw [if_neg (fun h => zL_ne hq (by omega) ((lgc0 _).mp h)), if_neg (fun h => zL_ne hp (by omega) ((lgc0 _).mp h)), show nI k + 1 = nI (k + 1) from nadd k 1]
        obtain ⟨s1, s2⟩ := bS_step hS (by omega) hp hq
        obtain ⟨w1, t1, e1⟩ := d48_ok hN hn hb hp hq (Or.inl (by omega)) s2 (f_X10_determinant_4 N fu) N (k + 1) w (by omega) (by omega) (by omega) ⟨ht.1, fun r s hr hs hkr hks => by
          rw [ht.2 r s hr hs hkr hks, if_neg (by omega)]⟩
        rw [e1]
        exact ih (k + 1) w1 (by omega) (by omega) s1 hq ⟨t1.1, fun r s hr hs hkr hks => by
          rw [t1.2 r s hr hs (by omega) (by omega), if_pos (by omega)]⟩
theorem det_ok (hN : 20 ≤ N) {u v : Nat → Nat} {E : BS} {L : Nat} (hL : L ≤ 14) (hn : n ≤ 7) {w : sx_C} (h3 : gi w 3 = nI n) (hw : ∀ r s, r < 7 → s < 7 → gm w r s = zL (lpM u v E q0 L r s)) : ∃ w', f_X10_determinant N w = some (zL (dt n (lpM u v E q0 L)), w') := by
  unfold f_X10_determinant
  exact d4_ok hN hL hn N 0 w (by omega) (by omega) (bS_0 _ _) (by show (1 : Int) ≠ 0; decide) ⟨h3, fun r s hr hs _ _ => by rw [hw r s (by omega) (by omega), tt_0]⟩
end
