/-! ===== needed, alike ===== -/
theorem pS_xor (O : Int32) (n k : Nat) (z : Nat) : pS O (n ^^^ k) z = (bt O z && (n.testBit (fb_ct (bt O) z) ^^ k.testBit (fb_ct (bt O) z))) := by
  unfold pS
  rw [Nat.testBit_xor]
theorem rank_inj {O : Int32} {y z : Nat} (hy : bt O y = true) (hz : bt O z = true) : (fb_ct (bt O) z = fb_ct (bt O) y) ↔ y = z := ⟨fun h => fb_ct_kth_one hy hz h.symm, fun h => by rw [h]⟩
theorem pS_one {O : Int32} {z : Nat} (hz : bt O z = true) : qD (bt O) (pS O (2 ^ fb_ct (bt O) z)) = qE (bt O) z := by
  funext y
  show (bt O y && !(bt O y && (2 ^ fb_ct (bt O) z).testBit (fb_ct (bt O) y))) = (bt O y && !decide (y = z))
  cases hy : bt O y
  · rfl
  · rw [Nat.testBit_two_pow]
    have := rank_inj hy hz
    by_cases e : y = z
    · simp [e]
    · have : ¬ fb_ct (bt O) z = fb_ct (bt O) y := fun h => e (this.mp h)
      simp [e, this]
theorem pS_top {O : Int32} : pS O (2 ^ qc (bt O) - 1) = bt O := by
  have := pS_comp (O := O) (n := 0) (Nat.two_pow_pos _)
  rw [Nat.sub_zero] at this
  rw [this, pS_0]
  funext y
  show (bt O y && !q0 y) = bt O y
  have : q0 y = false := rfl
  rw [this]; simp
theorem nI_xor (a b : Nat) : nI a ^^^ nI b = nI (a ^^^ b) := by
  apply b_ext
  intro i hi
  have hx : bt (nI a ^^^ nI b) i = (bt (nI a) i ^^ bt (nI b) i) := by unfold bt; rw [Int32.toBitVec_xor, BitVec.getLsbD_xor]
  rw [hx, h_nI i hi, h_nI i hi, h_nI i hi, Nat.testBit_xor]
section
variable {N : Nat} {uG uN uL xA : sx_C} {K L A B : Nat} {u v : Nat → Nat}
theorem inAll_ok (hf : 2000 ≤ N) (hL : L ≤ 14) {J G : Int32} (h : stOK u v L A B J G uL) : ∃ R, f_X4_inAll N uL = some R ∧ ∀ z, bt R z = (bt (opn L J G) z && (lkS u v L A B J (bt (opn L J G)) && !lkS u v L A B J (qE (bt (opn L J G)) z))) := by
  have hc14 := qc_opn14 hL J G
  have h14 := two14 hc14
  have h8 := h.1
  have hwd := h.2.2.1
  have hln := fun n hn => linesOf_ok (n := n) (by omega : 2000 ≤ N) hL h hn
  have hal := lall_ok hc14 h8
  obtain ⟨O, hO⟩ : ∃ O, O = opn L J G := ⟨_, rfl⟩
  rw [← hO] at h8 hc14 h14 hwd hln hal ⊢
  have hp := Nat.two_pow_pos (qc (bt O))
  have hpi : ∀ i, i < qc (bt O) → 2 ^ i < 2 ^ qc (bt O) := fun i hi => Nat.pow_lt_pow_right (by decide) hi
  obtain ⟨q, hq⟩ : ∃ q : Nat → Bool, q = fun j => wdb uL (2 ^ qc (bt O) - 1) && !wdb uL (2 ^ qc (bt O) - 1 - 2 ^ j) := ⟨_, rfl⟩
  have loop : ∀ fu i n, qc (bt O) - i < fu → i ≤ qc (bt O) → n < 16384 → (∀ j, n.testBit j = (decide (j < i) && q j)) → ∃ R n', f_X4_inAll_4 N uL fu (nI n) (nI i) = some R ∧ bt R = pS O n' ∧ ∀ j, n'.testBit j = (decide (j < qc (bt O)) && q j) := by
    intro fu
    induction fu with
    | zero => intro i n h; omega
    | succ fu ih =>
      intro i n hfu hi hn hb
      unfold f_X4_inAll_4 f_X4_inAll_46
      rw [h8, show nI i + 1 = nI (i + 1) from nadd i 1]
      by_cases hc : qc (bt O) ≤ i
      · rw [if_pos ((nle (by omega) (by omega)).mpr hc)]
        obtain ⟨R, r1, r2⟩ := hln n hn
        rw [r1]
        refine ⟨R, n, rfl, r2, ?_⟩
        have : i = qc (bt O) := by omega
        rw [← this]; exact hb
      · have hpi' := hpi i (by omega)
        have hpos := Nat.two_pow_pos i
        have i1 : f_X4_isLucky uL (nI (2 ^ qc (bt O) - 1)) = some (wdb uL (2 ^ qc (bt O) - 1)) := isLucky_ok (by omega)
        have i2 : f_X4_isLucky uL (nI (2 ^ qc (bt O) - 1 - 2 ^ i)) = some (wdb uL (2 ^ qc (bt O) - 1 - 2 ^ i)) := isLucky_ok (by omega)
        rw [if_neg (fun h9 => hc ((nle (by omega) (by omega)).mp h9))]
        simp only [hal, Option.bind_some, i1]
        rw [shl1_dec i (by omega), comp_nI hc14 hpi']
        simp only [i2, Option.bind_some]
        have no : q i = false → ∃ R n', f_X4_inAll_4 N uL fu (nI n) (nI (i + 1)) = some R ∧ bt R = pS O n' ∧ ∀ j, n'.testBit j = (decide (j < qc (bt O)) && q j) := fun h9 => ih (i + 1) n (by omega) (by omega) hn (fun j => by
          rw [hb]
          by_cases e : j = i
          · rw [e, h9]; simp
          · have : (j < i + 1) ↔ (j < i) := by omega
            simp only [this])
        cases hw1 : wdb uL (2 ^ qc (bt O) - 1)
        · rw [if_neg (by decide)]
          exact no (by rw [hq]; show (wdb uL (2 ^ qc (bt O) - 1) && _) = false; rw [hw1]; rfl)
        · rw [if_pos rfl]
          cases hw2 : wdb uL (2 ^ qc (bt O) - 1 - 2 ^ i)
          · rw [if_neg (by decide), fa_or]
            refine ih (i + 1) _ (by omega) (by omega) ?_ (fun j => ?_)
            · have : n ||| 2 ^ i < 2 ^ 14 := Nat.or_lt_two_pow hn (by omega)
              exact this
            · rw [Nat.testBit_or, Nat.testBit_two_pow, hb]
              by_cases e : j = i
              · have : q j = true := by rw [e, hq]; show (wdb uL (2 ^ qc (bt O) - 1) && !wdb uL (2 ^ qc (bt O) - 1 - 2 ^ i)) = true; rw [hw1, hw2]; rfl
                simp [e]
                rw [e] at this; exact this
              · have h1 : (j < i + 1) ↔ (j < i) := by omega
                have h2 : ¬ i = j := fun h => e h.symm
                simp [h1, h2]
          · rw [if_pos rfl]
            exact no (by rw [hq]; show (_ && !wdb uL (2 ^ qc (bt O) - 1 - 2 ^ i)) = false; rw [hw2]; simp)
  obtain ⟨R, n', r1, r2, r3⟩ := loop N 0 0 (by omega) (by omega) (by omega) (fun j => by rw [Nat.zero_testBit]; simp)
  refine ⟨R, r1, fun z => ?_⟩
  rw [r2]
  unfold pS
  cases ho : bt O z
  · rfl
  · have hr := rank_lt ho
    have hpr := hpi _ hr
    have hpos := Nat.two_pow_pos (fb_ct (bt O) z)
    rw [r3, decide_eq_true hr, hq]
    show (true && (true && (wdb uL (2 ^ qc (bt O) - 1) && !wdb uL (2 ^ qc (bt O) - 1 - 2 ^ fb_ct (bt O) z)))) = _
    rw [hwd _ (by omega), hwd _ (by omega), decide_eq_true (by omega : 2 ^ qc (bt O) - 1 < 2 ^ qc (bt O)), decide_eq_true (by omega : 2 ^ qc (bt O) - 1 - 2 ^ fb_ct (bt O) z < 2 ^ qc (bt O)), pS_top, pS_comp hpr, pS_one ho]
    simp
theorem mneeded_ok (hf : 200000 ≤ N) (hM : mNet xA K L A B u v) (hL : L ≤ 14) {m : Nat} (hm14 : m < 16384) (hm : ∀ z, m.testBit z = bt (opn L (gi xA 7) (gi xA 8)) z) (xB : sx_C) : ∀ fu s x y xD, s < fu → sbs s m → (y = 0 ∨ y = 1) → ∃ R xD', f_X12_needed_17 N xA fu (nI m) x y (nI s) xB xD = some (R, xB, xD') ∧ ((y = 0 ∧ (∀ t, t ≤ s → sbs t m → lkS u v L A B (gi xA 7) (tB t) = false) ∧ R = 0) ∨ (¬ (y = 0 ∧ ∀ t, t ≤ s → sbs t m → lkS u v L A B (gi xA 7) (tB t) = false) ∧ ∀ z, bt R z = true ↔ (bt x z = true ∧ ∀ t, t ≤ s → sbs t m → lkS u v L A B (gi xA 7) (tB t) = true → t.testBit z = true))) := by
  intro fu
  induction fu with
  | zero => intro s x y xD h; omega
  | succ fu ih =>
    intro s x y xD hs hsm hy
    have hsle := sbs_le hsm
    obtain ⟨xD1, i1⟩ := so0_ok (by omega : 20 ≤ N) hM hm14 hL hm hsm xD
    unfold f_X12_needed_17
    simp only [i1, Option.bind_some]
    have hdn : s ≠ 0 → ∀ t, sbs t m → (t ≤ s ↔ t = s ∨ t ≤ (s - 1) &&& m) := fun h0 t ht => by
      have hpr := sub_pred (a := s) (m := m) (by omega)
      constructor
      · intro h
        by_cases e : t = s
        · exact Or.inl e
        · exact Or.inr (sub_down 14 s m t (by omega) hsm ht (by omega))
      · intro h; omega
    cases hl : lkS u v L A B (gi xA 7) (tB s)
    · rw [if_neg (by decide)]
      unfold f_X12_needed_38
      by_cases h0 : s = 0
      · rw [if_pos ((nz (by omega)).mpr h0)]
        have hall : ∀ t, t ≤ s → sbs t m → lkS u v L A B (gi xA 7) (tB t) = false := fun t h1 h2 => by
          have : t = s := by omega
          rw [this]; exact hl
        rcases hy with hy | hy
        · rw [if_pos hy]
          exact ⟨_, _, rfl, Or.inl ⟨hy, hall, rfl⟩⟩
        · rw [if_neg (by rw [hy]; decide)]
          refine ⟨_, _, rfl, Or.inr ⟨fun h => by rw [hy] at h; exact absurd h.1 (by decide), fun z => ⟨fun h => ⟨h, fun t h1 h2 h3 => ?_⟩, fun h => h.1⟩⟩⟩
          rw [hall t h1 h2] at h3; cases h3
      · rw [if_neg (fun h9 => h0 ((nz (by omega)).mp h9)), int_down (by omega)]
        have hpr := sub_pred (a := s) (m := m) (by omega)
        obtain ⟨R, xD', e1, e2⟩ := ih ((s - 1) &&& m) x y xD1 (by omega) (sbs_and _ _) hy
        refine ⟨R, xD', e1, ?_⟩
        have hiff : (∀ t, t ≤ s → sbs t m → lkS u v L A B (gi xA 7) (tB t) = false) ↔ (∀ t, t ≤ (s - 1) &&& m → sbs t m → lkS u v L A B (gi xA 7) (tB t) = false) := ⟨fun h t h1 h2 => h t (by omega) h2, fun h t h1 h2 => by
          rcases (hdn h0 t h2).mp h1 with e | e
          · rw [e]; exact hl
          · exact h t e h2⟩
        rcases e2 with ⟨a, b, c⟩ | ⟨a, b⟩
        · exact Or.inl ⟨a, hiff.mpr b, c⟩
        · refine Or.inr ⟨fun h => a ⟨h.1, hiff.mp h.2⟩, fun z => ?_⟩
          rw [b]
          refine ⟨fun h => ⟨h.1, fun t h1 h2 h3 => ?_⟩, fun h => ⟨h.1, fun t h1 h2 h3 => h.2 t (by omega) h2 h3⟩⟩
          rcases (hdn h0 t h2).mp h1 with e | e
          · rw [e, hl] at h3; cases h3
          · exact h.2 t e h2 h3
    · rw [if_pos rfl]
      unfold f_X12_needed_38
      have hand : ∀ z, bt (x &&& nI s) z = true ↔ (bt x z = true ∧ s.testBit z = true) := fun z => by
        rw [b_and, bt_nI (by omega)]
        simp only [Bool.and_eq_true]
        rfl
      by_cases h0 : s = 0
      · rw [if_pos ((nz (by omega)).mpr h0), if_neg (by decide)]
        refine ⟨_, _, rfl, Or.inr ⟨fun h => (by have := h.2 s (Nat.le_refl _) hsm; rw [hl] at this; cases this), fun z => ?_⟩⟩
        rw [hand]
        refine ⟨fun h => ⟨h.1, fun t h1 h2 h3 => ?_⟩, fun h => ⟨h.1, h.2 s (Nat.le_refl _) hsm hl⟩⟩
        have : t = s := by omega
        rw [this]; exact h.2
      · rw [if_neg (fun h9 => h0 ((nz (by omega)).mp h9)), int_down (by omega)]
        have hpr := sub_pred (a := s) (m := m) (by omega)
        obtain ⟨R, xD', e1, e2⟩ := ih ((s - 1) &&& m) (x &&& nI s) 1 xD1 (by omega) (sbs_and _ _) (Or.inr rfl)
        refine ⟨R, xD', e1, Or.inr ⟨fun h => (by have := h.2 s (Nat.le_refl _) hsm; rw [hl] at this; cases this), fun z => ?_⟩⟩
        rcases e2 with ⟨a, -⟩ | ⟨a, b⟩
        · exact absurd a (by decide)
        · rw [b, hand]
          refine ⟨fun h => ⟨h.1.1, fun t h1 h2 h3 => ?_⟩, fun h => ⟨⟨h.1, h.2 s (Nat.le_refl _) hsm hl⟩, fun t h1 h2 h3 => h.2 t (by omega) h2 h3⟩⟩
          rcases (hdn h0 t h2).mp h1 with e | e
          · rw [e]; exact h.1.2
          · exact h.2 t e h2 h3
end
theorem lo_needed {N : Nat} (hf : 200000 ≤ N) : LO_needed N (sI LKd) := by
  rintro uG uN uD uR uF uP uL uTT uA uM uH xA xB xC xD xE xF xG xH xI xJ xK xL ⟨K, L, A, B, u, v, hC, hR⟩
  have hI : ∀ uL' xB' xD', LKd L A B u v uL' → sI LKd uG uN uD uR uF uP uL' uTT uA uM uH xA xB' xC xD' xE xF xG xH xI xJ xK xL := fun _ _ _ h => ⟨K, L, A, B, u, v, hC, sRest_L hR h⟩
  obtain ⟨hN, hM, hF, ⟨e7, e8, e11⟩, -, hJ, hG, hdis⟩ := id hC
  have hL : L ≤ 14 := (cN_8 hN).2.2.2
  unfold f_X11_needed f_X12_needed
  obtain ⟨uL', l1, l2, l3⟩ := lookAt_ok (by omega : 2000 ≤ N) hN hR.2.2.2 (gi uG 12) (gi uG 13)
  obtain ⟨m, hm14, hO, hm, h14⟩ := opn_num hL (gi uG 12) (gi uG 13)
  obtain ⟨R, r1, r2⟩ := inAll_ok (by omega : 2000 ≤ N) hL l3
  have htm : tB m = bt (opn L (gi uG 12) (gi uG 13)) := by funext z; exact hm z
  have hmm : sbs m m := by unfold sbs; exact Nat.and_self m
  obtain ⟨R2, xD', s1, s2⟩ := mneeded_ok hf hM hL hm14 (by rw [e7, e8]; exact hm) (si xB 0 0) N m (nI m) 0 xD (by omega) hmm (Or.inl rfl)
  simp only [l1, r1, mOpenNow_ok hM, Option.bind_some]
  rw [e7] at s2
  rw [e7, e8, hO, s1]
  refine ⟨_, rfl, _, rfl, ?_, hI _ _ _ l2⟩
  show R = R2
  have hsub : ∀ t, sbs t m → qS (tB t) (bt (opn L (gi uG 12) (gi uG 13))) := fun t ht z hz => by
    rw [← hm]; exact sbs_iff.mp ht z hz
  apply b_ext
  intro z hz
  rw [r2]
  rcases s2 with ⟨a, b, c⟩ | ⟨a, b⟩
  · have h0 := b m (Nat.le_refl _) hmm
    rw [htm] at h0
    have := h_nI (n := 0) z hz
    rw [Nat.zero_testBit] at this
    rw [c, h0]
    show _ = bt (nI 0) z
    rw [this]; simp
  · have htop : lkS u v L A B (gi uG 12) (bt (opn L (gi uG 12) (gi uG 13))) = true := by
      cases h9 : lkS u v L A B (gi uG 12) (bt (opn L (gi uG 12) (gi uG 13)))
      · exact absurd ⟨rfl, fun t h1 h2 => by
          cases h3 : lkS u v L A B (gi uG 12) (tB t)
          · rfl
          · rw [lkS_mono (hsub t h2) h3] at h9; cases h9⟩ a
      · rfl
    rw [htop, Bool.true_and]
    refine sB_eq ?_
    rw [b, bt_nI hm14, htm]
    simp only [Bool.and_eq_true, Bool.not_eq_true']
    refine ⟨fun h => ⟨h.1, fun t h1 h2 h3 => ?_⟩, fun h => ⟨h.1, ?_⟩⟩
    · cases h4 : t.testBit z
      · have : lkS u v L A B (gi uG 12) (qE (bt (opn L (gi uG 12) (gi uG 13))) z) = true := lkS_mono (S := tB t) (fun y hy => by
          have h5 := hsub t h2 y hy
          show (bt _ y && !decide (y = z)) = true
          rw [h5]
          by_cases e : y = z
          · have h6 : t.testBit y = true := hy
            rw [e, h4] at h6; cases h6
          · simp [e]) h3
        rw [h.2] at this; cases this
      · rfl
    · cases h4 : lkS u v L A B (gi uG 12) (qE (bt (opn L (gi uG 12) (gi uG 13))) z)
      · rfl
      · obtain ⟨t, t1, -, t3⟩ := num_of (x := opn L (gi uG 12) (gi uG 13) &&& (sp_shl 1 (nI z) ^^^ (-1))) (fun y hy => by
          rw [b_and] at hy
          simp only [Bool.and_eq_true] at hy
          exact h14 y hy.1)
        have htb : tB t = qE (bt (opn L (gi uG 12) (gi uG 13))) z := by
          funext y
          show t.testBit y = (bt _ y && !decide (y = z))
          rw [t3]
          by_cases hy : y < 32
          · rw [b_and, h_not _ hy, h_bit hz hy]
          · rw [b_big (by omega), b_big (by omega)]; rfl
        have hts : sbs t m := sbs_iff.mpr (fun i hi => by
          have hi : tB t i = true := hi
          rw [htb] at hi
          rw [hm]
          exact qE_s _ _ i hi)
        have := h.2 t (sbs_le hts) hts (by rw [htb]; exact h4)
        have this : tB t z = true := this
        rw [htb] at this
        unfold qE at this
        simp at this
