/-! ===== isLucky, bitOf, having; luckyWith ===== -/
theorem rank_lt {O : Int32} {z : Nat} (hz : bt O z = true) : fb_ct (bt O) z < qc (bt O) := by
  have hz32 : z < 32 := by
    by_cases h : z < 32
    · exact h
    · rw [b_big (by omega)] at hz; cases hz
  have h1 := fb_ct_mono (bt O) (show z + 1 ≤ 32 by omega)
  rw [fb_ct_succ, hz] at h1
  simp at h1
  exact h1
theorem withBit_lo : ∀ r, r < 5 → ∀ b, b < 32 → ∀ w : Nat, w < 1 → ∃ M, f_X4_withBit (nI (2 ^ r)) (nI w) = some M ∧ bt M b = b.testBit r := by
  intro r hr b hb w hw
  have h : ∀ r, r < 5 → ∀ b, b < 32 → (f_X4_withBit (nI (2 ^ r)) (nI 0)).map (fun M => bt M b) = some (b.testBit r) := by decide +kernel
  have := h r hr b hb
  have e : w = 0 := by omega
  subst e
  cases hM : f_X4_withBit (nI (2 ^ r)) (nI 0) with
  | none => rw [hM] at this; cases this
  | some M => rw [hM] at this; exact ⟨M, rfl, by injection this⟩
theorem withBit_any : ∀ r, r < 5 → ∀ x : Int32, f_X4_withBit (nI (2 ^ r)) x = f_X4_withBit (nI (2 ^ r)) 0 := by
  intro r hr x
  rcases (show r = 0 ∨ r = 1 ∨ r = 2 ∨ r = 3 ∨ r = 4 by omega) with e | e | e | e | e <;> subst e <;> rfl
theorem shl5 (w : Nat) (hw : w < 512) : sp_shl (nI w) 5 = nI (32 * w) := by
  apply b_ext
  intro i hi
  rw [show (5 : Int32) = nI 5 from rfl, h_shl _ (by omega) hi, h_nI i hi]
  have hb : (32 * w).testBit i = (decide (5 ≤ i) && w.testBit (i - 5)) := by
    have := Nat.testBit_two_pow_mul (a := w) (i := 5) (j := i)
    rw [show 2 ^ 5 = 32 from rfl] at this
    rw [this]
  rw [hb, h_nI (i - 5) (by omega)]
theorem withBit_ok {r w : Nat} (hr : r < 14) (hw : w < 512) : ∃ M, f_X4_withBit (nI (2 ^ r)) (nI w) = some M ∧ ∀ b, b < 32 → bt M b = (32 * w + b).testBit r := by
  have hbit : ∀ b, b < 32 → (32 * w + b).testBit r = if r < 5 then b.testBit r else w.testBit (r - 5) := fun b hb => Nat.testBit_two_pow_mul_add w (b := b) (i := 5) hb r
  by_cases h5 : r < 5
  · have h0 : ∃ M, f_X4_withBit (nI (2 ^ r)) 0 = some M := by
      obtain ⟨M, h, -⟩ := withBit_lo r h5 0 (by decide) 0 (by decide)
      exact ⟨M, h⟩
    obtain ⟨M, hM⟩ := h0
    refine ⟨M, by rw [withBit_any r h5]; exact hM, fun b hb => ?_⟩
    obtain ⟨M2, h, h2⟩ := withBit_lo r h5 b hb 0 (by decide)
    have : M = M2 := by
      have h : f_X4_withBit (nI (2 ^ r)) 0 = some M2 := h
      rw [hM] at h; injection h
    rw [this, h2, hbit b hb, if_pos h5]
  · have ne : ∀ k, k < 5 → ¬ nI (2 ^ r) = nI (2 ^ k) := by
      intro k hk h
      have h1 : 2 ^ r ≤ 2 ^ 13 := Nat.pow_le_pow_right (by decide) (by omega)
      have h2 : 2 ^ k ≤ 2 ^ 4 := Nat.pow_le_pow_right (by decide) (by omega)
      have h3 : 2 ^ 5 ≤ 2 ^ r := Nat.pow_le_pow_right (by decide) (by omega)
      have := (neq (by omega) (by omega)).mp h
      omega
    unfold f_X4_withBit
    rw [if_neg (show ¬ nI (2 ^ r) = 1 from ne 0 (by decide)), if_neg (show ¬ nI (2 ^ r) = 2 from ne 1 (by decide)), if_neg (show ¬ nI (2 ^ r) = 4 from ne 2 (by decide)), if_neg (show ¬ nI (2 ^ r) = 8 from ne 3 (by decide)), if_neg (show ¬ nI (2 ^ r) = 16 from ne 4 (by decide)), shl5 w hw]
    have hh : (nI (32 * w) &&& nI (2 ^ r) = 0 ↔ (32 * w).testBit r = false) := fa_bit (by omega)
    have hb0 : (32 * w).testBit r = w.testBit (r - 5) := by
      have := hbit 0 (by decide)
      rw [Nat.add_zero, if_neg h5] at this
      exact this
    cases hwb : w.testBit (r - 5)
    · rw [if_pos (hh.mpr (by rw [hb0, hwb]))]
      refine ⟨_, rfl, fun b hb => ?_⟩
      rw [hbit b hb, if_neg h5, hwb]
      have := h_nI (n := 0) b hb
      rw [Nat.zero_testBit] at this
      exact this
    · rw [if_neg (fun h => by have := hh.mp h; rw [hb0, hwb] at this; cases this)]
      refine ⟨_, rfl, fun b hb => ?_⟩
      rw [hbit b hb, if_neg h5, hwb]
      have : ∀ b, b < 32 → bt (-1) b = true := by decide
      exact this b hb
section
variable {N : Nat} {uG uN uL xA : sx_C} {K L A B : Nat} {u v : Nat → Nat}
theorem isLucky_ok {n : Nat} (hn : n < 16384) : f_X4_isLucky uL (nI n) = some (wdb uL n) := by
  unfold f_X4_isLucky wdb
  rw [ushr5 (by omega), if_neg (show ¬ (512 : Int32) ≤ nI (n / 32) from fun h => by have := (nle (a := 512) (by omega) (by omega)).mp h; omega), rd_ok (by omega) (by decide), and31]
  simp only [Option.bind_some]
  rw [has_ok _ (by omega), Option.bind_some]
  cases bt (ga uL 1 (n / 32)) (n % 32) <;> rfl
theorem bitOf_ok (hf : 2000 ≤ N) (hL : L ≤ 14) {J G : Int32} (h : stOK u v L A B J G uL) {z : Nat} (hz : bt (opn L J G) z = true) : f_X4_bitOf N uL (nI z) = some (nI (2 ^ fb_ct (bt (opn L J G)) z)) := by
  have hc14 := qc_opn14 hL J G
  have h8 := h.1
  have h3 := h.2.1
  obtain ⟨O, hO⟩ : ∃ O, O = opn L J G := ⟨_, rfl⟩
  rw [← hO] at h8 h3 hc14 hz ⊢
  have hr := rank_lt hz
  have hO32 : ∀ z, bt O z = true → z < 32 := fun z h9 => by
    by_cases h : z < 32
    · exact h
    · rw [b_big (by omega)] at h9; cases h9
  have loop : ∀ n i, qc (bt O) - i < n → i ≤ qc (bt O) → f_X4_bitOf_4 N uL n (nI z) (nI (if fb_ct (bt O) z < i then 2 ^ fb_ct (bt O) z else 0)) (nI i) = some (nI (2 ^ fb_ct (bt O) z)) := by
    intro n
    induction n with
    | zero => intro i hn; omega
    | succ n ih =>
      intro i hn hi
      unfold f_X4_bitOf_4 f_X4_bitOf_32
      rw [h8]
      by_cases hc : qc (bt O) ≤ i
      · rw [if_pos ((nle (by omega) (by omega)).mpr hc), if_pos (by omega)]
      · rw [if_neg (fun h9 => hc ((nle (by omega) (by omega)).mp h9)), if_neg (show ¬ (14 : Int32) ≤ nI i from fun h => by have := (nle (a := 14) (by omega) (by omega)).mp h; omega), rd_ok (by omega) (by decide)]
        simp only [Option.bind_some]
        obtain ⟨y, hy, hy2, hy3⟩ := fb_ct_kth (p := bt O) (n := 32) (show i < fb_ct (bt O) 32 by have : fb_ct (bt O) 32 = qc (bt O) := rfl; omega)
        rw [show nI i + 1 = nI (i + 1) from nadd i 1, ← hy3, h3 y hy2, hy3]
        have hz32 := hO32 z hz
        by_cases hyz : y = z
        · subst hyz
          rw [if_pos rfl]
          have := ih (i + 1) (by omega) (by omega)
          rw [if_pos (by omega)] at this
          rw [shl1_dec i (by omega)]
          rw [hy3] at this ⊢
          exact this
        · rw [if_neg (fun h9 => hyz ((neq (by omega) (by omega)).mp h9))]
          have := ih (i + 1) (by omega) (by omega)
          have e : (fb_ct (bt O) z < i + 1) ↔ (fb_ct (bt O) z < i) := by
            constructor
            · intro h9
              by_cases h10 : fb_ct (bt O) z = i
              · exact absurd (fb_ct_kth_one hy2 hz (by omega)) hyz
              · omega
            · intro h9; omega
          simp only [e] at this
          exact this
  unfold f_X4_bitOf
  have := loop N 0 (by omega) (by omega)
  rw [if_neg (by omega)] at this
  exact this
theorem having_ok (hf : 2000 ≤ N) (hL : L ≤ 14) {J G : Int32} (h : stOK u v L A B J G uL) {z m : Nat} (hz : bt (opn L J G) z = true) (hm : ∀ z, m.testBit z = bt (opn L J G) z) (h14 : ∀ z, bt (opn L J G) z = true → z < 14) : f_X4_having N uL (nI z) = some (nI (cS m (fun S => S z && lkS u v L A B J S))) := by
  have hc14 := qc_opn14 hL J G
  unfold f_X4_having
  rw [bitOf_ok hf hL h hz]
  obtain ⟨e, e1, e2, e3, e4⟩ := wordsUsed_ok (uL := uL) hc14 h.1
  simp only [e1, Option.bind_some]
  have hr := rank_lt hz
  obtain ⟨r, hr2⟩ : ∃ r, r = fb_ct (bt (opn L J G)) z := ⟨_, rfl⟩
  rw [← hr2] at hr ⊢
  have loop : ∀ n w, e - w < n → w ≤ e → f_X4_having_17 N uL n (nI (2 ^ r)) (nI (fb_ct (fun n => n.testBit r && wdb uL n) (32 * w))) (nI e) (nI w) = some (nI (fb_ct (fun n => n.testBit r && wdb uL n) (32 * e))) := by
    intro n
    induction n with
    | zero => intro w hn; omega
    | succ n ih =>
      intro w hn hw
      unfold f_X4_having_17
      by_cases hc : e ≤ w
      · rw [if_pos ((nle (by omega) (by omega)).mpr hc)]
        have : w = e := by omega
        rw [this]
      · rw [if_neg (fun h9 => hc ((nle (by omega) (by omega)).mp h9)), rd_ok (by omega) (by decide)]
        obtain ⟨M, m1, m2⟩ := withBit_ok (r := r) (w := w) (by omega) (by omega)
        simp only [m1, Option.bind_some, bitCount_ok]
        rw [nadd, show nI w + 1 = nI (w + 1) from nadd w 1]
        have e5 : qc (bt (ga uL 1 w &&& M)) = fb_ct (fun k => (32 * w + k).testBit r && wdb uL (32 * w + k)) 32 := fb_ct_cong (fun b hb => by
          rw [b_and, m2 b hb]
          unfold wdb
          rw [show (32 * w + b) / 32 = w by omega, show (32 * w + b) % 32 = b by omega, Bool.and_comm])
        have e6 := fb_ct_split (fun n => n.testBit r && wdb uL n) (32 * w) 32
        rw [show 32 * w + 32 = 32 * (w + 1) by omega] at e6
        have e6 : fb_ct (fun n => n.testBit r && wdb uL n) (32 * (w + 1)) = fb_ct (fun n => n.testBit r && wdb uL n) (32 * w) + fb_ct (fun k => (32 * w + k).testBit r && wdb uL (32 * w + k)) 32 := e6
        rw [e5, ← e6]
        exact ih (w + 1) (by omega) (by omega)
  have := loop N 0 (by omega) (by omega)
  have e0 : fb_ct (fun n => n.testBit r && wdb uL n) (32 * 0) = 0 := rfl
  rw [e0] at this
  have this : f_X4_having_17 N uL N (nI (2 ^ r)) 0 (nI e) 0 = some (nI (fb_ct (fun n => n.testBit r && wdb uL n) (32 * e))) := this
  rw [this, ← cS_n hm h14]
  have hwd := h.2.2.1
  have g1 : fb_ct (fun n => n.testBit r && wdb uL n) (32 * e) = fb_ct (fun n => n.testBit r && wdb uL n) (2 ^ qc (bt (opn L J G))) := ct_gap e4 (fun t t1 t2 => by
    rw [hwd t (by omega)]
    have : ¬ t < 2 ^ qc (bt (opn L J G)) := by omega
    simp [this])
  have hp14 : 2 ^ qc (bt (opn L J G)) ≤ 16384 := by
    have : 2 ^ qc (bt (opn L J G)) ≤ 2 ^ 14 := Nat.pow_le_pow_right (by decide) hc14
    omega
  rw [g1]
  congr 2
  refine fb_ct_cong (fun n hn => ?_)
  rw [hwd n (by omega), decide_eq_true hn, Bool.true_and]
  show _ = ((bt (opn L J G) z && n.testBit (fb_ct (bt (opn L J G)) z)) && _)
  rw [hz, ← hr2, Bool.true_and]
end
theorem lo_luckyWith {N : Nat} (hf : 200000 ≤ N) : LO_luckyWith N (sI LKd) := by
  rintro uG uN uD uR uF uP uL uTT uA uM uH xA xB xC xD xE xF xG xH xI xJ xK xL x ⟨K, L, A, B, u, v, hC, hR⟩
  have hI : ∀ uL' xB' xD' xE' xF', LKd L A B u v uL' → sI LKd uG uN uD uR uF uP uL' uTT uA uM uH xA xB' xC xD' xE' xF' xG xH xI xJ xK xL := fun _ _ _ _ _ h => ⟨K, L, A, B, u, v, hC, sRest_L hR h⟩
  obtain ⟨hN, hM, hF, ⟨e7, e8, e11⟩, -, hJ, hG, hdis⟩ := id hC
  have hL : L ≤ 14 := (cN_8 hN).2.2.2
  unfold f_X11_luckyWith f_X12_luckyWith
  rcases line_cases hN hM x with ⟨h1, h2⟩ | ⟨i, hi, rfl, h1, h2⟩
  · simp only [h1, wrong_no h2, Option.bind_some]
    rw [if_neg (by decide), if_neg (by decide)]
    exact ⟨_, rfl, _, rfl, rfl, hI _ _ _ _ _ hR.2.2.2⟩
  · simp only [h1, wrong_ok hM hi, cisOpen_ok hN (by omega : i < 32), Option.bind_some]
    rw [e7, e8, if_pos trivial]
    cases ho : bt (opn L (gi uG 12) (gi uG 13)) i
    · rw [if_neg (by decide), if_neg (by decide), if_neg (by decide)]
      exact ⟨_, rfl, _, rfl, rfl, hI _ _ _ _ _ hR.2.2.2⟩
    · obtain ⟨uL', l1, l2, l3⟩ := lookAt_ok (by omega : 2000 ≤ N) hN hR.2.2.2 (gi uG 12) (gi uG 13)
      obtain ⟨m, hm14, hO, hm, h14⟩ := opn_num hL (gi uG 12) (gi uG 13)
      have hi32 : i < 32 := by omega
      obtain ⟨xD', xE', xF', e⟩ := many_ok (xA := xA) hf hM (who := 0) (by decide) hm14 hL (by rw [e7, e8]; exact hO) (by rw [e7, e8]; exact hm) (by rw [e7, e8]; exact hdis) (kk := -1) (li := nI i) (q := fun S => S i) (fun t ht => by
        have := sbs_le ht
        have h9 := (shr_ok (nI t) hi32).1
        rw [bt_nI (by omega)] at h9
        rw [decide_eq_false (nI_ne_neg (i := i) (by omega)).1]
        cases hb : tB t i
        · have hh : ¬ sp_shr (nI t) (nI i) &&& 1 = 1 := fun h => by
            have := h9.mp h
            rw [hb] at this; cases this
          rw [decide_eq_false hh]; simp
        · rw [decide_eq_true (h9.mpr hb)]; simp) xD xE xF
      rw [e7, e8] at e
      have e : f_X12_manySo N xA 0 (-1) (nI i) xD xE xF = some (nI (cS m fun S => S i && gvS u v L A B (gi uG 12) (opn L (gi uG 12) (gi uG 13)) 0 S), xD', xE', xF') := e
      simp only [l1, having_ok (by omega : 2000 ≤ N) hL l3 ho hm h14, Option.bind_some, e]
      rw [if_pos trivial, if_pos trivial, if_pos (by decide)]
      exact ⟨_, rfl, _, rfl, rfl, hI _ _ _ _ _ l2⟩
