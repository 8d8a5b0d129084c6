/-! ===== pivots ===== -/
theorem ct_bit (z : Nat) : ∀ k (f : Nat → Bool), z < k → fb_ct (fun t => t.testBit z && f t) (2 ^ k) = fb_ct (fun t => !t.testBit z && f (t ||| 2 ^ z)) (2 ^ k) := by
  intro k
  induction k with
  | zero => intro f h; omega
  | succ k ih =>
    intro f hz
    have hp := Nat.two_pow_pos k
    rw [Nat.pow_succ, Nat.mul_two, fb_ct_split, fb_ct_split]
    have hor : ∀ n, n < 2 ^ k → 2 ^ k + n = 2 ^ k ||| n := fun n hn => by
      have := Nat.two_pow_add_eq_or_of_lt hn 1
      rw [Nat.mul_one] at this
      exact this
    by_cases e : z = k
    · subst e
      have a1 : fb_ct (fun t => t.testBit z && f t) (2 ^ z) = 0 := fb_ct_zero.mpr (fun n hn => by rw [tb_small hn (Nat.le_refl _)]; rfl)
      have a2 : fb_ct (fun t => !t.testBit z && f (t ||| 2 ^ z)) (2 ^ z) = fb_ct (fun n => (2 ^ z + n).testBit z && f (2 ^ z + n)) (2 ^ z) := fb_ct_cong (fun n hn => by
        rw [tb_small hn (Nat.le_refl _), up_bit hn, Nat.or_comm, ← hor n hn]; simp)
      have a3 : fb_ct (fun k => !(2 ^ z + k).testBit z && f (2 ^ z + k ||| 2 ^ z)) (2 ^ z) = 0 := fb_ct_zero.mpr (fun n hn => by rw [up_bit hn]; simp)
      rw [a1, a2, a3]; omega
    · have hzk : z < k := by omega
      have hb : ∀ n, n < 2 ^ k → (2 ^ k + n).testBit z = n.testBit z := fun n hn => by rw [up_bit hn]; simp [e]
      rw [ih f hzk]
      have b1 : fb_ct (fun n => (2 ^ k + n).testBit z && f (2 ^ k + n)) (2 ^ k) = fb_ct (fun t => t.testBit z && (fun n => f (2 ^ k + n)) t) (2 ^ k) := fb_ct_cong (fun n hn => by rw [hb n hn])
      rw [b1, ih (fun n => f (2 ^ k + n)) hzk]
      congr 1
      refine fb_ct_cong (fun n hn => ?_)
      have hlt : n ||| 2 ^ z < 2 ^ k := Nat.or_lt_two_pow hn (Nat.pow_lt_pow_right (by decide) hzk)
      rw [hb n hn, hor n hn, Nat.or_assoc, ← hor _ hlt]
theorem num_of {x : Int32} (h14 : ∀ z, bt x z = true → z < 14) : ∃ m, m < 16384 ∧ x = nI m ∧ ∀ z, m.testBit z = bt x z := by
  obtain ⟨m, hm, e⟩ := wb_of32 x
  have hb : ∀ z, m.testBit z = bt x z := fun z => by
    by_cases hz : z < 32
    · rw [e, h_nI z hz]
    · rw [tb_small hm (by omega), b_big (by omega)]
  refine ⟨m, ?_, e, hb⟩
  have : m < 2 ^ 14 := Nat.lt_of_not_le (fun h => by
    obtain ⟨i, hi, h2⟩ := Nat.exists_ge_and_testBit_of_ge_two_pow h
    rw [hb] at h2
    have := h14 i h2
    omega)
  exact this
/-- going down by one set -/
theorem ct_step {m s : Nat} (F : Nat → Bool) (hs : s < 16384) (h0 : s ≠ 0) (hsm : sbs s m) : fb_ct (fun t => (t &&& m == t) && F t) s = fb_ct (fun t => (t &&& m == t) && F t) (((s - 1) &&& m) + 1) := by
  have hpr := sub_pred (a := s) (m := m) (by omega)
  exact ct_gap (by omega) (fun t t1 t2 => by
    cases h9 : (t &&& m == t)
    · rfl
    · have := sub_down 14 s m t (by omega) hsm (sB_t.mp h9) t2
      omega)
theorem tB_or (t z : Nat) : tB (t ||| 2 ^ z) = qI (tB t) z := by
  funext i
  show (t ||| 2 ^ z).testBit i = (t.testBit i || decide (i = z))
  rw [Nat.testBit_or, Nat.testBit_two_pow]
  congr 1
  by_cases h : i = z
  · simp [h]
  · have : ¬ z = i := fun h2 => h h2.symm
    simp [h, this]
section
variable {N : Nat} {uG uN uL xA : sx_C} {K L A B : Nat} {u v : Nat → Nat}
theorem cS_add {m : Nat} {Q Q1 Q2 : BS → Bool} (h : ∀ S, Q S = (Q1 S || Q2 S) ∧ (Q1 S && Q2 S) = false) : cS m Q = cS m Q1 + cS m Q2 := by
  unfold cS
  rw [← fb_ct_or (fun t _ h2 => by
    have h1 := (h (tB t)).2
    have h3 := h2.1
    have h4 := h2.2
    simp only [Bool.and_eq_true] at h3 h4
    rw [h3.2, h4.2] at h1
    cases h1)]
  refine fb_ct_cong (fun t _ => ?_)
  rw [(h (tB t)).1]
  cases (t &&& m == t) <;> simp
/-- how many sets a line turns -/
def pvS (u v : Nat → Nat) (L A B : Nat) (J : Int32) (m z : Nat) : Nat := cS m (fun S => !S z && (!lkS u v L A B J S && lkS u v L A B J (qI S z)))
theorem pv_eq {J G : Int32} {m z : Nat} (hz : bt (opn L J G) z = true) (hm : ∀ z, m.testBit z = bt (opn L J G) z) (h14 : ∀ z, bt (opn L J G) z = true → z < 14) : 2 * cS m (fun S => S z && lkS u v L A B J S) = ttN u v L A B J (opn L J G) 0 + pvS u v L A B J m z := by
  rw [ttN_cS hm h14]
  have e1 : cS m (fun S => S z && lkS u v L A B J S) = cS m (fun S => !S z && lkS u v L A B J (qI S z)) := by
    unfold cS
    have a1 : fb_ct (fun t => (t &&& m == t) && ((tB t) z && lkS u v L A B J (tB t))) 16384 = fb_ct (fun t => t.testBit z && ((t &&& m == t) && lkS u v L A B J (tB t))) (2 ^ 14) := fb_ct_cong (fun t _ => by
      show ((t &&& m == t) && (t.testBit z && _)) = _
      cases (t &&& m == t) <;> cases t.testBit z <;> rfl)
    rw [a1, ct_bit z 14 _ (h14 z hz)]
    refine fb_ct_cong (fun t _ => ?_)
    show _ = ((t &&& m == t) && (!t.testBit z && lkS u v L A B J (qI (tB t) z)))
    rw [tB_or]
    have : (t ||| 2 ^ z) &&& m == (t ||| 2 ^ z) ↔ t &&& m == t := by
      have hmz : m.testBit z = true := by rw [hm]; exact hz
      rw [sB_t, sB_t, sbs_iff, sbs_iff]
      constructor
      · intro h i hi
        exact h i (by rw [Nat.testBit_or, hi]; rfl)
      · intro h i hi
        rw [Nat.testBit_or, Nat.testBit_two_pow] at hi
        by_cases hiz : z = i
        · rw [← hiz]; exact hmz
        · exact h i (by simpa [hiz] using hi)
    have this := sB_eq this
    rw [this]
    cases (t &&& m == t) <;> cases t.testBit z <;> rfl
  have e2 : cS m (gvS u v L A B J (opn L J G) 0) = cS m (fun S => S z && lkS u v L A B J S) + cS m (fun S => !S z && lkS u v L A B J S) := cS_add (fun S => by
    show lkS u v L A B J S = _ ∧ _
    cases S z <;> cases lkS u v L A B J S <;> simp)
  have e3 : cS m (fun S => !S z && lkS u v L A B J (qI S z)) = cS m (fun S => !S z && lkS u v L A B J S) + pvS u v L A B J m z := cS_add (fun S => by
    have hmo : lkS u v L A B J S = true → lkS u v L A B J (qI S z) = true := lkS_mono (qI_s _ _)
    cases h3 : lkS u v L A B J S
    · cases S z <;> cases lkS u v L A B J (qI S z) <;> simp
    · rw [hmo h3]
      cases S z <;> simp)
  omega
theorem turnedBy_ok (hf : 2000 ≤ N) (hN : cNet uN K L A B u v) {J G : Int32} (h : stOK u v L A B J G uL) {z m : Nat} (hz : bt (opn L J G) z = true) (hm : ∀ z, m.testBit z = bt (opn L J G) z) (h14 : ∀ z, bt (opn L J G) z = true → z < 14) : f_X4_turnedBy N uL (nI z) = some (nI (pvS u v L A B J m z)) := by
  have hL : L ≤ 14 := (cN_8 hN).2.2.2
  unfold f_X4_turnedBy
  have ht : f_X4_total N uL 0 = some (nI (ttN u v L A B J (opn L J G) 0)) := total_ok2 hf hN h (who := 0) (by decide)
  rw [having_ok hf hL h hz hm h14]
  simp only [Option.bind_some, ht]
  rw [show (2 : Int32) = nI 2 from rfl, nmul, pv_eq hz hm h14, Nat.add_comm, nsub]
theorem pivotsOf_ok (hf : 200000 ≤ N) (hM : mNet xA K L A B u v) (hL : L ≤ 14) {z m : Nat} (hz : bt (opn L (gi xA 7) (gi xA 8)) z = true) (hm14 : m < 16384) (hO : opn L (gi xA 7) (gi xA 8) = nI m) (hm : ∀ z, m.testBit z = bt (opn L (gi xA 7) (gi xA 8)) z) (xD : sx_C) : ∃ xD', f_X12_pivotsOf N xA (nI z) xD = some (nI (pvS u v L A B (gi xA 7) m z), xD') := by
  have hzL := opn_lt (by omega : L < 31) hz
  have hz32 : z < 32 := by omega
  have hmb : ∀ y, bt (opn L (gi xA 7) (gi xA 8) &&& (sp_shl 1 (nI z) ^^^ (-1))) y = (m.testBit y && !decide (y = z)) := fun y => by
    by_cases hy : y < 32
    · rw [b_and, h_not _ hy, h_bit hz32 hy, hm]
    · rw [b_big (by omega), hm, b_big (by omega)]; rfl
  obtain ⟨m', hm'14, hm'e, hm'⟩ := num_of (x := opn L (gi xA 7) (gi xA 8) &&& (sp_shl 1 (nI z) ^^^ (-1))) (fun y hy => by
    rw [hmb, hm] at hy
    simp at hy
    have := opn_lt (by omega : L < 31) hy.1
    omega)
  have hm'' : ∀ y, m'.testBit y = (m.testBit y && !decide (y = z)) := fun y => by rw [hm', hmb]
  have hsub : ∀ t, (t &&& m' == t) = ((t &&& m == t) && !t.testBit z) := fun t => sB_eq (by
    rw [sB_t, sbs_iff]
    constructor
    · intro h
      have h1 : sbs t m := sbs_iff.mpr (fun i hi => by
        have := h i hi
        rw [hm''] at this
        simp at this
        exact this.1)
      rw [sB_t.mpr h1, Bool.true_and]
      cases hb : t.testBit z
      · rfl
      · have := h z hb
        rw [hm''] at this
        simp at this
    · intro h i hi
      simp only [Bool.and_eq_true, Bool.not_eq_true'] at h
      have h1 := sbs_iff.mp (sB_t.mp h.1) i hi
      rw [hm'', h1, Bool.true_and]
      by_cases hiz : i = z
      · rw [hiz] at hi; rw [h.2] at hi; cases hi
      · simp [hiz])
  obtain ⟨F, hF⟩ : ∃ F : Nat → Bool, F = fun t => !lkS u v L A B (gi xA 7) (tB t) && lkS u v L A B (gi xA 7) (qI (tB t) z) := ⟨_, rfl⟩
  have loop : ∀ fu s a xD, s < fu → sbs s m' → ∃ xD', f_X12_pivotsOf_16 N xA fu (nI z) (nI m') (nI a) (nI s) xD = some (nI (a + fb_ct (fun t => (t &&& m' == t) && F t) (s + 1)), xD') := by
    intro fu
    induction fu with
    | zero => intro s a xD h; omega
    | succ fu ih =>
      intro s a xD hs hsm
      have hsle := sbs_le hsm
      have hsm2 : sbs s m := by
        have := sB_t.mpr hsm
        rw [hsub] at this
        simp only [Bool.and_eq_true] at this
        exact sB_t.mp this.1
      unfold f_X12_pivotsOf_16
      have fin : ∀ (x : Nat) xD, x = (if F s = true then 1 else 0) → ∃ xD', f_X12_pivotsOf_54 N (f_X12_pivotsOf_16 N xA fu) xA (nI z) (nI m') (nI s) (nI a) (nI x) xD = some (nI (a + fb_ct (fun t => (t &&& m' == t) && F t) (s + 1)), xD') := by
        intro x xD hx
        unfold f_X12_pivotsOf_54
        have hsuc : fb_ct (fun t => (t &&& m' == t) && F t) (s + 1) = fb_ct (fun t => (t &&& m' == t) && F t) s + x := by
          rw [fb_ct_succ, sB_t.mpr hsm, Bool.true_and, hx]
        rw [nadd]
        by_cases h0 : s = 0
        · rw [if_pos ((nz (by omega)).mpr h0)]
          rw [h0] at hsuc ⊢
          have e0 : fb_ct (fun t => (t &&& m' == t) && F t) 0 = 0 := rfl
          rw [hsuc, e0, Nat.zero_add]
          exact ⟨xD, rfl⟩
        · rw [if_neg (fun h9 => h0 ((nz (by omega)).mp h9)), int_down (by omega)]
          have hpr := sub_pred (a := s) (m := m') (by omega)
          obtain ⟨xD', e⟩ := ih ((s - 1) &&& m') (a + x) xD (by omega) (sbs_and _ _)
          refine ⟨xD', ?_⟩
          rw [e, hsuc, ct_step F (by omega) h0 hsm]
          congr 3
          omega
      obtain ⟨xD1, i1⟩ := so0_ok (by omega : 20 ≤ N) hM hm14 hL hm hsm2 xD
      simp only [i1, Option.bind_some]
      cases hl : lkS u v L A B (gi xA 7) (tB s)
      · rw [if_neg (by decide)]
        obtain ⟨xD2, i2⟩ := hangs_ok hM (by omega : 20 ≤ N) (((gi xA 7) ||| nI s) ||| sp_shl 1 (nI z)) xD1
        have e2 : bL (((gi xA 7) ||| nI s) ||| sp_shl 1 (nI z)) L = qU (bL (gi xA 7) L) (qI (tB s) z) := by
          rw [bL_set hzL (by omega), bL_or (O := 0) (by omega) (fun y hy => by
            have := sbs_iff.mp hsm2 y hy
            rw [hm] at this
            exact opn_lt (by omega : L < 31) this)]
          funext y
          show ((bL (gi xA 7) L y || tB s y) || decide (y = z)) = (bL (gi xA 7) L y || (tB s y || decide (y = z)))
          rw [Bool.or_assoc]
        rw [e2] at i2
        have i2 : f_X12_hangs N xA (((gi xA 7) ||| nI s) ||| sp_shl 1 (nI z)) xD1 = some (lkS u v L A B (gi xA 7) (qI (tB s) z), xD2) := i2
        simp only [i2, Option.bind_some]
        cases hl2 : lkS u v L A B (gi xA 7) (qI (tB s) z)
        · rw [if_neg (by decide)]
          exact fin 0 xD2 (by rw [hF]; simp [hl, hl2])
        · rw [if_pos rfl]
          exact fin 1 xD2 (by rw [hF]; simp [hl, hl2])
      · rw [if_pos rfl]
        exact fin 0 xD1 (by rw [hF]; simp [hl])
  unfold f_X12_pivotsOf
  simp only [mOpenNow_ok hM, Option.bind_some]
  rw [hm'e]
  obtain ⟨xD', e⟩ := loop N m' 0 xD (by omega) (by unfold sbs; exact Nat.and_self m')
  refine ⟨xD', ?_⟩
  have e : f_X12_pivotsOf_16 N xA N (nI z) (nI m') 0 (nI m') xD = some (nI (0 + fb_ct (fun t => (t &&& m' == t) && F t) (m' + 1)), xD') := e
  rw [e, Nat.zero_add]
  have : fb_ct (fun t => (t &&& m' == t) && F t) (m' + 1) = pvS u v L A B (gi xA 7) m z := by
    have g : fb_ct (fun t => (t &&& m' == t) && F t) (m' + 1) = fb_ct (fun t => (t &&& m' == t) && F t) 16384 := (ct_gap (by omega) (fun t t1 t2 => by
      cases h : (t &&& m' == t)
      · rfl
      · have := sbs_le (sB_t.mp h); omega)).symm
    rw [g]
    unfold pvS cS
    refine fb_ct_cong (fun t _ => ?_)
    rw [hsub, hF, Bool.and_assoc]
    rfl
  rw [this]
end
theorem lo_pivots {N : Nat} (hf : 200000 ≤ N) : LO_pivots N (sI LKd) := by
  rintro uG uN uD uR uF uP uL uTT uA uM uH xA xB xC xD xE xF xG xH xI xJ xK xL x ⟨K, L, A, B, u, v, hC, hR⟩
  have hI : ∀ uL' xB' xD', LKd L A B u v uL' → sI LKd uG uN uD uR uF uP uL' uTT uA uM uH xA xB' xC xD' xE xF xG xH xI xJ xK xL := fun _ _ _ h => ⟨K, L, A, B, u, v, hC, sRest_L hR h⟩
  obtain ⟨hN, hM, hF, ⟨e7, e8, e11⟩, -, hJ, hG, hdis⟩ := id hC
  have hL : L ≤ 14 := (cN_8 hN).2.2.2
  unfold f_X11_pivots f_X12_pivots
  rcases line_cases hN hM x with ⟨h1, h2⟩ | ⟨i, hi, rfl, h1, h2⟩
  · simp only [h1, wrong_no h2, Option.bind_some]
    rw [if_neg (by decide), if_neg (by decide)]
    exact ⟨_, rfl, _, rfl, rfl, hI _ _ _ hR.2.2.2⟩
  · simp only [h1, wrong_ok hM hi, cisOpen_ok hN (by omega : i < 32), Option.bind_some]
    rw [e7, e8, if_pos trivial]
    cases ho : bt (opn L (gi uG 12) (gi uG 13)) i
    · rw [if_neg (by decide), if_neg (by decide), if_neg (by decide)]
      exact ⟨_, rfl, _, rfl, rfl, hI _ _ _ hR.2.2.2⟩
    · obtain ⟨uL', l1, l2, l3⟩ := lookAt_ok (by omega : 2000 ≤ N) hN hR.2.2.2 (gi uG 12) (gi uG 13)
      obtain ⟨m, hm14, hO, hm, h14⟩ := opn_num hL (gi uG 12) (gi uG 13)
      obtain ⟨xD', e⟩ := pivotsOf_ok (xA := xA) hf hM hL (z := i) (by rw [e7, e8]; exact ho) hm14 (by rw [e7, e8]; exact hO) (by rw [e7, e8]; exact hm) xD
      rw [e7] at e
      simp only [l1, turnedBy_ok (by omega : 2000 ≤ N) hN l3 ho hm h14, Option.bind_some, e]
      rw [if_pos trivial, if_pos trivial, if_pos (by decide)]
      exact ⟨_, rfl, _, rfl, rfl, hI _ _ _ l2⟩
