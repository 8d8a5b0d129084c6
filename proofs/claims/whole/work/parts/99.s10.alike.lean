/-! ===== alike ===== -/
theorem sp_b_eq (a b : Bool) : sp_b a = sp_b b ↔ a = b := by cases a <;> cases b <;> decide
section
variable {N : Nat} {uG uN uL xA : sx_C} {K L A B : Nat} {u v : Nat → Nat}
theorem areAlike_ok (hf : 200000 ≤ N) (hL : L ≤ 14) {J G : Int32} (h : stOK u v L A B J G uL) {i j : Nat} (hi : bt (opn L J G) i = true) (hj : bt (opn L J G) j = true) (hij : i ≠ j) : ∃ b, f_X4_areAlike N uL (nI i) (nI j) = some b ∧ (b = true ↔ ∀ n, n < 2 ^ qc (bt (opn L J G)) → pS (opn L J G) n i = true → pS (opn L J G) n j = false → lkS u v L A B J (pS (opn L J G) n) = lkS u v L A B J (qI (qE (pS (opn L J G) n) i) j)) := by
  have hc14 := qc_opn14 hL J G
  have h14 := two14 hc14
  have h8 := h.1
  have hwd := h.2.2.1
  have hb1 := bitOf_ok (by omega : 2000 ≤ N) hL h hi
  have hb2 := bitOf_ok (by omega : 2000 ≤ N) hL h hj
  obtain ⟨O, hO⟩ : ∃ O, O = opn L J G := ⟨_, rfl⟩
  rw [← hO] at h8 hc14 h14 hwd hb1 hb2 hi hj ⊢
  obtain ⟨ri, hri⟩ : ∃ r, r = fb_ct (bt O) i := ⟨_, rfl⟩
  obtain ⟨rj, hrj⟩ : ∃ r, r = fb_ct (bt O) j := ⟨_, rfl⟩
  have hi9 := rank_lt hi
  have hj9 := rank_lt hj
  rw [← hri] at hb1 hi9
  rw [← hrj] at hb2 hj9
  have hrne : ri ≠ rj := fun e => hij ((rank_inj hi hj).mp (by rw [← hri, ← hrj, e]))
  have hpi : 2 ^ ri < 2 ^ qc (bt O) := Nat.pow_lt_pow_right (by decide) hi9
  have hpj : 2 ^ rj < 2 ^ qc (bt O) := Nat.pow_lt_pow_right (by decide) hj9
  obtain ⟨W, hW⟩ : ∃ W, W = 2 ^ ri ||| 2 ^ rj := ⟨_, rfl⟩
  have hWb : ∀ k, W.testBit k = (decide (ri = k) || decide (rj = k)) := fun k => by rw [hW, Nat.testBit_or, Nat.testBit_two_pow, Nat.testBit_two_pow]
  have hWlt : W < 2 ^ qc (bt O) := by rw [hW]; exact Nat.or_lt_two_pow hpi hpj
  have hcond : ∀ n, n < 2 ^ qc (bt O) → ((nI n &&& nI W = nI (2 ^ ri)) ↔ (n.testBit ri = true ∧ n.testBit rj = false)) := fun n hn => by
    have hle : n &&& W ≤ n := Nat.and_le_left
    rw [fa_and, neq (by omega) (by omega)]
    constructor
    · intro e
      have a := congrArg (fun x => x.testBit ri) e
      have b := congrArg (fun x => x.testBit rj) e
      simp only [Nat.testBit_and, hWb, Nat.testBit_two_pow] at a b
      have h2 : ¬ ri = rj := hrne
      simp [h2] at a b
      exact ⟨a, b⟩
    · rintro ⟨a, b⟩
      apply Nat.eq_of_testBit_eq
      intro k
      rw [Nat.testBit_and, hWb, Nat.testBit_two_pow]
      by_cases e1 : ri = k
      · rw [← e1, a]; simp
      · by_cases e2 : rj = k
        · rw [← e2, b]; simp [hrne]
        · simp [e1, e2]
  have hflip : ∀ n, n.testBit ri = true → n.testBit rj = false → pS O (n ^^^ W) = qI (qE (pS O n) i) j := fun n a b => by
    funext y
    rw [pS_xor, hWb]
    show _ = (((bt O y && n.testBit (fb_ct (bt O) y)) && !decide (y = i)) || decide (y = j))
    cases ho : bt O y
    · have : ¬ y = j := fun e => by rw [e, hj] at ho; cases ho
      simp [this]
    · have e1 : (ri = fb_ct (bt O) y) ↔ y = i := by rw [hri]; exact rank_inj ho hi
      have e2 : (rj = fb_ct (bt O) y) ↔ y = j := by rw [hrj]; exact rank_inj ho hj
      by_cases f1 : y = i
      · have g1 := e1.mpr f1
        have f2 : ¬ y = j := fun e => hij (by rw [← f1, e])
        have g2 : ¬ rj = fb_ct (bt O) y := fun h => f2 (e2.mp h)
        rw [← g1, a, decide_eq_true f1, decide_eq_false f2]
        simp
      · by_cases f2 : y = j
        · have g2 := e2.mpr f2
          rw [← g2, b, decide_eq_true f2]
          simp
        · have g1 : ¬ ri = fb_ct (bt O) y := fun h => f1 (e1.mp h)
          have g2 : ¬ rj = fb_ct (bt O) y := fun h => f2 (e2.mp h)
          simp [f1, f2, g1, g2]
  have hmem : ∀ n, (pS O n i = true ↔ n.testBit ri = true) ∧ (pS O n j = false ↔ n.testBit rj = false) := fun n => by
    unfold pS
    rw [hi, hj, ← hri, ← hrj]
    simp
  have loop : ∀ fu n, 2 ^ qc (bt O) - n < fu → n ≤ 2 ^ qc (bt O) → (∀ k, k < n → pS O k i = true → pS O k j = false → lkS u v L A B J (pS O k) = lkS u v L A B J (qI (qE (pS O k) i) j)) → ∃ b, f_X4_areAlike_26 N uL fu (nI (2 ^ ri)) (nI W) (nI (2 ^ qc (bt O))) (nI n) = some b ∧ (b = true ↔ ∀ n, n < 2 ^ qc (bt O) → pS O n i = true → pS O n j = false → lkS u v L A B J (pS O n) = lkS u v L A B J (qI (qE (pS O n) i) j)) := by
    intro fu
    induction fu with
    | zero => intro n hn; omega
    | succ fu ih =>
      intro n hfu hn hk
      unfold f_X4_areAlike_26 f_X4_areAlike_62
      by_cases hc : 2 ^ qc (bt O) ≤ n
      · rw [if_pos ((nle (by omega) (by omega)).mpr hc)]
        refine ⟨true, rfl, fun _ k h1 h2 h3 => hk k (by omega) h2 h3, fun _ => rfl⟩
      · rw [if_neg (fun h9 => hc ((nle (by omega) (by omega)).mp h9)), show nI n + 1 = nI (n + 1) from nadd n 1]
        by_cases hcn : nI n &&& nI W = nI (2 ^ ri)
        · rw [if_pos hcn, nI_xor]
          obtain ⟨a, b⟩ := (hcond n (by omega)).mp hcn
          have hx : n ^^^ W < 2 ^ qc (bt O) := Nat.xor_lt_two_pow (by omega) hWlt
          rw [isLucky_ok (by omega), isLucky_ok (by omega), Option.bind_some, Option.bind_some, hwd n (by omega), hwd _ (by omega), decide_eq_true hx, decide_eq_true (by omega : n < 2 ^ qc (bt O)), hflip n a b, Bool.true_and, Bool.true_and]
          by_cases he : lkS u v L A B J (pS O n) = lkS u v L A B J (qI (qE (pS O n) i) j)
          · rw [if_pos ((sp_b_eq _ _).mpr he)]
            exact ih (n + 1) (by omega) (by omega) (fun k h1 h2 h3 => by
              by_cases e : k = n
              · rw [e]; exact he
              · exact hk k (by omega) h2 h3)
          · rw [if_neg (fun h9 => he ((sp_b_eq _ _).mp h9))]
            refine ⟨false, rfl, fun h => (by cases h), fun h => ?_⟩
            exact absurd (h n (by omega) ((hmem n).1.mpr a) ((hmem n).2.mpr b)) he
        · rw [if_neg hcn]
          exact ih (n + 1) (by omega) (by omega) (fun k h1 h2 h3 => by
            by_cases e : k = n
            · subst e
              exact absurd ((hcond k (by omega)).mpr ⟨(hmem k).1.mp h2, (hmem k).2.mp h3⟩) hcn
            · exact hk k (by omega) h2 h3)
  unfold f_X4_areAlike
  rw [hb1, hb2]
  simp only [Option.bind_some]
  rw [fa_or, ← hW, h8, shl1_dec _ (by omega)]
  exact loop N 0 (by omega) (by omega) (fun k h9 => by omega)
theorem malike_ok (hf : 200000 ≤ N) (hM : mNet xA K L A B u v) (hL : L ≤ 14) {i j m' : Nat} (hi : i < L) (hj : j < L) (hm14 : m' < 16384) (hmL : ∀ z, m'.testBit z = true → z < L) (xB : sx_C) : ∀ fu s xD, s < fu → sbs s m' → ∃ b xD', f_X12_alike_62 N xA fu (nI i) (nI j) (nI m') (nI s) xB xD = some ((if b = true then 1 else 0), xB, xD') ∧ (b = true ↔ ∀ t, t ≤ s → sbs t m' → lkS u v L A B (gi xA 7) (qI (tB t) i) = lkS u v L A B (gi xA 7) (qI (tB t) j)) := by
  have hang : ∀ t y xD, sbs t m' → y < L → ∃ xD', f_X12_hangs N xA (((gi xA 7) ||| nI t) ||| sp_shl 1 (nI y)) xD = some (lkS u v L A B (gi xA 7) (qI (tB t) y), xD') := fun t y xD ht hy => by
    obtain ⟨xD2, i2⟩ := hangs_ok hM (by omega : 20 ≤ N) (((gi xA 7) ||| nI t) ||| sp_shl 1 (nI y)) xD
    have htle := sbs_le ht
    have e2 : bL (((gi xA 7) ||| nI t) ||| sp_shl 1 (nI y)) L = qU (bL (gi xA 7) L) (qI (tB t) y) := by
      rw [bL_set hy (by omega), bL_or (O := 0) (by omega) (fun z hz => hmL z (sbs_iff.mp ht z hz))]
      funext z
      show ((bL (gi xA 7) L z || tB t z) || decide (z = y)) = (bL (gi xA 7) L z || (tB t z || decide (z = y)))
      rw [Bool.or_assoc]
    rw [e2] at i2
    exact ⟨xD2, i2⟩
  intro fu
  induction fu with
  | zero => intro s xD h; omega
  | succ fu ih =>
    intro s xD hs hsm
    have hsle := sbs_le hsm
    obtain ⟨xD1, i1⟩ := hang s i xD hsm hi
    obtain ⟨xD2, i2⟩ := hang s j xD1 hsm hj
    unfold f_X12_alike_62
    simp only [i1, i2, Option.bind_some]
    by_cases he : lkS u v L A B (gi xA 7) (qI (tB s) i) = lkS u v L A B (gi xA 7) (qI (tB s) j)
    · rw [if_pos ((sp_b_eq _ _).mpr he)]
      by_cases h0 : s = 0
      · rw [if_pos ((nz (by omega)).mpr h0)]
        refine ⟨true, xD2, rfl, fun _ t h1 h2 => ?_, fun _ => rfl⟩
        have : t = s := by omega
        rw [this]; exact he
      · rw [if_neg (fun h9 => h0 ((nz (by omega)).mp h9)), int_down (by omega)]
        have hpr := sub_pred (a := s) (m := m') (by omega)
        obtain ⟨b, xD', e1, e2⟩ := ih ((s - 1) &&& m') xD2 (by omega) (sbs_and _ _)
        refine ⟨b, xD', e1, ?_⟩
        rw [e2]
        refine ⟨fun h t h1 h2 => ?_, fun h t h1 h2 => h t (by omega) h2⟩
        by_cases e : t = s
        · rw [e]; exact he
        · exact h t (sub_down 14 s m' t (by omega) hsm h2 (by omega)) h2
    · rw [if_neg (fun h9 => he ((sp_b_eq _ _).mp h9))]
      refine ⟨false, xD2, rfl, fun h => (by cases h), fun h => absurd (h s (Nat.le_refl _) hsm) he⟩
end
theorem lo_alike {N : Nat} (hf : 200000 ≤ N) : LO_alike N (sI LKd) := by
  rintro uG uN uD uR uF uP uL uTT uA uM uH xA xB xC xD xE xF xG xH xI xJ xK xL x y ⟨K, L, A, B, u, v, hC, hR⟩
  have hI : ∀ uL' xB' xD', LKd L A B u v uL' → sI LKd uG uN uD uR uF uP uL' uTT uA uM uH xA xB' xC xD' xE xF xG xH xI xJ xK xL := fun _ _ _ h => ⟨K, L, A, B, u, v, hC, sRest_L hR h⟩
  obtain ⟨hN, hM, hF, ⟨e7, e8, e11⟩, -, hJ, hG, hdis⟩ := id hC
  have hL : L ≤ 14 := (cN_8 hN).2.2.2
  unfold f_X11_alike f_X12_alike
  rcases line_cases hN hM x with ⟨h1, h2⟩ | ⟨i, hi, rfl, h1, h2⟩
  · simp only [h1, h2, Option.bind_some]
    rw [if_neg (by decide), if_neg (by decide)]
    exact ⟨_, rfl, _, rfl, rfl, hI _ _ _ hR.2.2.2⟩
  rcases line_cases hN hM y with ⟨h3, h4⟩ | ⟨j, hj, rfl, h3, h4⟩
  · simp only [h1, h2, h3, h4, Option.bind_some]
    rw [if_pos trivial, if_pos trivial, if_neg (by decide), if_neg (by decide)]
    exact ⟨_, rfl, _, rfl, rfl, hI _ _ _ hR.2.2.2⟩
  have hi32 : i < 32 := by omega
  have hj32 : j < 32 := by omega
  simp only [h1, h2, h3, h4, cisOpen_ok hN hi32, cisOpen_ok hN hj32, misOpen_ok hM hi32, misOpen_ok hM hj32, Option.bind_some, mOpenNow_ok hM]
  rw [e7, e8, if_pos trivial, if_pos trivial, if_pos trivial, if_pos trivial]
  cases hoi : bt (opn L (gi uG 12) (gi uG 13)) i
  · rw [if_neg (by decide), if_neg (by decide)]
    exact ⟨_, rfl, _, rfl, rfl, hI _ _ _ hR.2.2.2⟩
  cases hoj : bt (opn L (gi uG 12) (gi uG 13)) j
  · rw [if_pos rfl, if_pos rfl, if_neg (by decide), if_neg (by decide)]
    exact ⟨_, rfl, _, rfl, rfl, hI _ _ _ hR.2.2.2⟩
  rw [if_pos rfl, if_pos rfl, if_pos rfl, if_pos rfl]
  obtain ⟨uL', l1, l2, l3⟩ := lookAt_ok (by omega : 2000 ≤ N) hN hR.2.2.2 (gi uG 12) (gi uG 13)
  obtain ⟨m, hm14, hO, hm, h14⟩ := opn_num hL (gi uG 12) (gi uG 13)
  have hmb : ∀ z, bt ((opn L (gi uG 12) (gi uG 13) &&& (sp_shl 1 (nI i) ^^^ (-1))) &&& (sp_shl 1 (nI j) ^^^ (-1))) z = ((bt (opn L (gi uG 12) (gi uG 13)) z && !decide (z = i)) && !decide (z = j)) := fun z => by
    by_cases hz : z < 32
    · rw [b_and, b_and, h_not _ hz, h_not _ hz, h_bit hi32 hz, h_bit hj32 hz]
    · rw [b_big (by omega), b_big (by omega)]; rfl
  obtain ⟨m', hm'14, hm'e, hm'⟩ := num_of (x := (opn L (gi uG 12) (gi uG 13) &&& (sp_shl 1 (nI i) ^^^ (-1))) &&& (sp_shl 1 (nI j) ^^^ (-1))) (fun z hz => by
    rw [hmb] at hz
    simp only [Bool.and_eq_true] at hz
    exact h14 z hz.1.1)
  have hm'' : ∀ z, m'.testBit z = ((bt (opn L (gi uG 12) (gi uG 13)) z && !decide (z = i)) && !decide (z = j)) := fun z => by rw [hm', hmb]
  obtain ⟨b, xD', s1, s2⟩ := malike_ok hf hM hL hi hj hm'14 (fun z hz => by
    rw [hm''] at hz
    simp only [Bool.and_eq_true] at hz
    exact opn_lt (by omega : L < 31) hz.1.1) (si xB 0 0) N m' xD (by omega) (by unfold sbs; exact Nat.and_self m')
  rw [e7] at s2
  rw [hm'e, s1]
  simp only [l1, Option.bind_some]
  by_cases hij : nI i = nI j
  · have e : i = j := (neq (by omega) (by omega)).mp hij
    rw [if_pos hij]
    have : b = true := s2.mpr (fun t _ _ => by rw [e])
    rw [this]
    exact ⟨_, rfl, _, rfl, rfl, hI _ _ _ l2⟩
  · have hne : i ≠ j := fun e => hij (by rw [e])
    rw [if_neg hij]
    obtain ⟨b1, c1, c2⟩ := areAlike_ok hf hL l3 hoi hoj hne
    have hb : b1 = b := by
      refine sB_eq ?_
      rw [c2, s2]
      constructor
      · intro h t h5 h6
        have ht : ∀ z, t.testBit z = true → bt (opn L (gi uG 12) (gi uG 13)) z = true ∧ z ≠ i ∧ z ≠ j := fun z hz => by
          have := sbs_iff.mp h6 z hz
          rw [hm''] at this
          simpa [and_assoc] using this
        have hti : t.testBit i = false := by
          cases h9 : t.testBit i
          · rfl
          · exact absurd rfl (ht i h9).2.1
        have htj : t.testBit j = false := by
          cases h9 : t.testBit j
          · rfl
          · exact absurd rfl (ht j h9).2.2
        have hT : sbs (t ||| 2 ^ i) m := sbs_iff.mpr (fun z hz => by
          rw [Nat.testBit_or, Nat.testBit_two_pow] at hz
          rw [hm]
          by_cases e : i = z
          · rw [← e]; exact hoi
          · exact (ht z (by simpa [e] using hz)).1)
        obtain ⟨n, n1, n2⟩ := pS_all hm hT
        rw [tB_or] at n2
        have a := h n n1 (by rw [← n2]; show (_ || decide (i = i)) = true; simp) (by
          rw [← n2]
          show (t.testBit j || decide (j = i)) = false
          rw [htj]
          have : ¬ j = i := fun e => hne e.symm
          simp [this])
        rw [← n2] at a
        have e2 : qI (qE (qI (tB t) i) i) j = qI (tB t) j := by
          funext z
          show (((t.testBit z || decide (z = i)) && !decide (z = i)) || decide (z = j)) = (t.testBit z || decide (z = j))
          by_cases e : z = i
          · rw [e, hti]; simp
          · simp [e]
        rw [e2] at a
        exact a
      · intro h n n1 n2 n3
        obtain ⟨t, t1, t2⟩ := pS_num h14 n
        obtain ⟨t', p1, -, p3⟩ := num_of (x := nI t &&& (sp_shl 1 (nI i) ^^^ (-1))) (fun z hz => by
          rw [b_and, bt_nI (by omega)] at hz
          simp only [Bool.and_eq_true] at hz
          have h9 : tB t z = true := hz.1
          rw [t2] at h9
          unfold pS at h9
          simp only [Bool.and_eq_true] at h9
          exact h14 z h9.1)
        have htb : tB t' = qE (pS (opn L (gi uG 12) (gi uG 13)) n) i := by
          funext z
          show t'.testBit z = (pS _ n z && !decide (z = i))
          rw [p3, ← t2]
          by_cases hz : z < 32
          · rw [b_and, h_not _ hz, h_bit hi32 hz, bt_nI (by omega)]
          · rw [b_big (by omega), t2]
            unfold pS
            rw [b_big (by omega)]; rfl
        have hts : sbs t' m' := sbs_iff.mpr (fun z hz => by
          have hz : tB t' z = true := hz
          rw [htb] at hz
          have hz : (pS (opn L (gi uG 12) (gi uG 13)) n z && !decide (z = i)) = true := hz
          simp only [Bool.and_eq_true] at hz
          have h9 := hz.1
          have hzj : ¬ z = j := fun e => by rw [e, n3] at h9; cases h9
          unfold pS at h9
          simp only [Bool.and_eq_true] at h9
          rw [hm'', h9.1, hz.2]
          simp [hzj])
        have a := h t' (sbs_le hts) hts
        rw [htb, qIE n2] at a
        exact a
    rw [c1, Option.bind_some, hb]
    cases b
    · exact ⟨_, rfl, _, rfl, rfl, hI _ _ _ l2⟩
    · exact ⟨_, rfl, _, rfl, rfl, hI _ _ _ l2⟩
