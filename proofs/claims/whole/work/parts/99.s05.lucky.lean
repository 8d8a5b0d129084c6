/-! ===== lucky, walls ===== -/
section
variable {N : Nat} {uG uN uL xA : sx_C} {K L A B : Nat} {u v : Nat → Nat}
theorem opn_num (hL : L ≤ 14) (J G : Int32) : ∃ m, m < 16384 ∧ opn L J G = nI m ∧ (∀ z, m.testBit z = bt (opn L J G) z) ∧ ∀ z, bt (opn L J G) z = true → z < 14 := by
  have h14 : ∀ z, bt (opn L J G) z = true → z < 14 := fun z hz => by
    have := opn_lt (by omega : L < 31) hz; omega
  obtain ⟨m, hm, e⟩ := wb_of32 (opn L J G)
  have hb : ∀ z, m.testBit z = bt (opn L J G) z := fun z => by
    by_cases hz : z < 32
    · rw [e, h_nI z hz]
    · rw [tb_small hm (by omega), b_big (by omega)]
  refine ⟨m, ?_, e, hb, h14⟩
  have : m < 2 ^ 14 := Nat.lt_of_not_le (fun h => by
    obtain ⟨i, hi, h2⟩ := Nat.exists_ge_and_testBit_of_ge_two_pow h
    rw [hb] at h2
    have := h14 i h2
    omega)
  exact this
theorem bt_nI {t : Nat} (ht : t < 16384) : bt (nI t) = tB t := by
  funext z
  by_cases hz : z < 32
  · exact h_nI z hz
  · rw [b_big (by omega)]
    exact (tb_small (k := 14) ht (by omega)).symm
theorem bL_or {J O : Int32} {t : Nat} (ht : t < 16384) (htL : ∀ z, t.testBit z = true → z < L) : bL (J ||| nI t) L = qU (bL J L) (tB t) := by
  funext z
  show (bt (J ||| nI t) z && decide (z < L)) = ((bt J z && decide (z < L)) || t.testBit z)
  rw [b_or, bt_nI ht]
  show ((bt J z || t.testBit z) && decide (z < L)) = _
  cases h : t.testBit z
  · simp
  · have := htL z h
    simp [this]
theorem so0_ok (hf : 20 ≤ N) (hM : mNet xA K L A B u v) {m t : Nat} (hm14 : m < 16384) (hL : L ≤ 14) (hm : ∀ z, m.testBit z = bt (opn L (gi xA 7) (gi xA 8)) z) (ht : sbs t m) (xD : sx_C) : ∃ xD', f_X12_hangs N xA ((gi xA 7) ||| nI t) xD = some (lkS u v L A B (gi xA 7) (tB t), xD') := by
  obtain ⟨xD', h⟩ := hangs_ok hM hf ((gi xA 7) ||| nI t) xD
  have htl := sbs_le ht
  rw [bL_or (O := 0) (by omega) (fun z hz => by
    have := sbs_iff.mp ht z hz
    rw [hm] at this
    exact opn_lt (by omega : L < 31) this)] at h
  exact ⟨xD', h⟩
theorem so_ok (hf : 20 ≤ N) (hM : mNet xA K L A B u v) {m t who : Nat} (hw : who < 2) (hm14 : m < 16384) (hL : L ≤ 14) (hm : ∀ z, m.testBit z = bt (opn L (gi xA 7) (gi xA 8)) z) (hdis : ∀ z, ¬ (bt (gi xA 7) z = true ∧ bt (gi xA 8) z = true)) (ht : sbs t m) (xE xD xF : sx_C) : ∃ xD' xF', f_X12_isSo N xA xE (nI who) (nI t) xD xF = some (gvS u v L A B (gi xA 7) (opn L (gi xA 7) (gi xA 8)) who (tB t), xD', xF') := by
  unfold f_X12_isSo
  rcases (show who = 0 ∨ who = 1 by omega) with e | e
  · obtain ⟨xD', h⟩ := so0_ok hf hM hm14 hL hm ht xD
    rw [e, if_pos (show nI 0 = 0 from rfl), h]
    exact ⟨xD', xF, rfl⟩
  · rw [e, if_neg (by decide), if_pos (show nI 1 = 1 from rfl), mall_ok hM]
    have htl := sbs_le ht
    obtain ⟨xD', h⟩ := hangs_ok hM hf ((alL L &&& ((gi xA 8) ^^^ (-1))) &&& (nI t ^^^ (-1))) xD
    have e2 : bL ((alL L &&& ((gi xA 8) ^^^ (-1))) &&& (nI t ^^^ (-1))) L = qU (bL (gi xA 7) L) (qD (bt (opn L (gi xA 7) (gi xA 8))) (tB t)) := by
      funext z
      show (bt ((alL L &&& ((gi xA 8) ^^^ (-1))) &&& (nI t ^^^ (-1))) z && decide (z < L)) = ((bt (gi xA 7) z && decide (z < L)) || (bt (opn L (gi xA 7) (gi xA 8)) z && !t.testBit z))
      by_cases hz : z < L
      · have h32 : z < 32 := by omega
        have hs := sbs_iff.mp ht z
        rw [hm, opn_bit (by omega) _ _ h32] at hs
        rw [b_and, b_and, h_not _ h32, h_not _ h32, h_nI z h32, alL_bit (by omega) h32, opn_bit (by omega) _ _ h32]
        have hd := hdis z
        simp only [decide_eq_true hz, Bool.true_and, Bool.and_true] at hs ⊢
        cases h1 : bt (gi xA 7) z <;> cases h2 : bt (gi xA 8) z <;> cases h3 : t.testBit z <;> simp [h1, h2, h3] at hs hd ⊢
      · rw [opn_off (by omega) (by omega)]
        simp [hz]
    rw [e2] at h
    simp only [h, Option.bind_some]
    refine ⟨xD', xF, ?_⟩
    show _ = some (!lkS u v L A B (gi xA 7) (qD (bt (opn L (gi xA 7) (gi xA 8))) (tB t)), xD', xF)
    unfold lkS
    by_cases h9 : la u v (qU (bL (gi xA 7) L) (qD (bt (opn L (gi xA 7) (gi xA 8))) (tB t))) A = la u v (qU (bL (gi xA 7) L) (qD (bt (opn L (gi xA 7) (gi xA 8))) (tB t))) B
    · rw [if_pos (decide_eq_true h9), decide_eq_true h9]; rfl
    · rw [if_neg (fun h => h9 (of_decide_eq_true h)), decide_eq_false h9]; rfl
theorem many_ok (hf : 200000 ≤ N) (hM : mNet xA K L A B u v) {m who : Nat} (hw : who < 2) (hm14 : m < 16384) (hL : L ≤ 14) (hO : opn L (gi xA 7) (gi xA 8) = nI m) (hm : ∀ z, m.testBit z = bt (opn L (gi xA 7) (gi xA 8)) z) (hdis : ∀ z, ¬ (bt (gi xA 7) z = true ∧ bt (gi xA 8) z = true)) {kk li : Int32} {q : BS → Bool} (hq : ∀ t, sbs t m → q (tB t) = ((decide (kk = -1) || decide (nI (qc (bt (nI t))) = kk)) && (decide (li = -1) || decide (((sp_shr (nI t) li) &&& 1) = 1)))) (xD xE xF : sx_C) : ∃ xD' xE' xF', f_X12_manySo N xA (nI who) kk li xD xE xF = some (nI (cS m (fun S => q S && gvS u v L A B (gi xA 7) (opn L (gi xA 7) (gi xA 8)) who S)), xD', xE', xF') := by
  obtain ⟨xD1, xE1, p1, -⟩ := laysPlaces_ok hM (by omega : 20 ≤ N) (gi xA 7) xD xE
  unfold f_X12_manySo
  simp only [p1, Option.bind_some, mOpenNow_ok hM]
  have := manySo_ok hf hM hm14 hO (how := nI who) (P := fun t => gvS u v L A B (gi xA 7) (opn L (gi xA 7) (gi xA 8)) who (tB t)) (xE := xE1) (fun t ht xD xF => so_ok (by omega) hM hw hm14 hL hm hdis ht xE1 xD xF) (q := fun t => q (tB t)) hq N m 0 xD1 xF (by omega) (by unfold sbs; exact Nat.and_self m)
  obtain ⟨xD', xF', e⟩ := this
  rw [← hO] at e
  refine ⟨xD', xE1, xF', ?_⟩
  have e0 : f_X12_manySo_21 N xA N (nI who) kk li (opn L (gi xA 7) (gi xA 8)) 0 (opn L (gi xA 7) (gi xA 8)) xD1 xE1 xF = f_X12_manySo_21 N xA N (nI who) kk li (opn L (gi xA 7) (gi xA 8)) (nI 0) (opn L (gi xA 7) (gi xA 8)) xD1 xE1 xF := rfl
  rw [e0, e, Nat.zero_add]
  have : fb_ct (fun t => (t &&& m == t) && (q (tB t) && gvS u v L A B (gi xA 7) (opn L (gi xA 7) (gi xA 8)) who (tB t))) (m + 1) = cS m (fun S => q S && gvS u v L A B (gi xA 7) (opn L (gi xA 7) (gi xA 8)) who S) := (ct_gap (by omega) (fun t t1 t2 => by
    cases h : (t &&& m == t)
    · rfl
    · have := sbs_le (sB_t.mp h); omega)).symm
  rw [this]
theorem ttN_cS {J G : Int32} {m who : Nat} (hm : ∀ z, m.testBit z = bt (opn L J G) z) (h14 : ∀ z, bt (opn L J G) z = true → z < 14) : ttN u v L A B J (opn L J G) who = cS m (gvS u v L A B J (opn L J G) who) := cS_n hm h14 _
theorem szN_cS {J G : Int32} {m who k : Nat} (hm : ∀ z, m.testBit z = bt (opn L J G) z) (h14 : ∀ z, bt (opn L J G) z = true → z < 14) : szN u v L A B J (opn L J G) who k = cS m (fun S => (qc S == k) && gvS u v L A B J (opn L J G) who S) := by
  rw [← cS_n hm h14]
  unfold szN
  refine fb_ct_cong (fun n hn => ?_)
  rw [pS_qc h14 hn, Bool.and_comm]
theorem k_cases (x : Int32) {c : Nat} (hc : c ≤ 14) : (x < -1) ∨ (¬ x < -1 ∧ ¬ x ≤ nI c) ∨ (x = -1) ∨ ∃ k, k ≤ c ∧ x = nI k := by
  rcases int_cases x (c + 1) (by omega) with ⟨h, -⟩ | ⟨h, h2, -⟩ | ⟨i, hi, h⟩
  · by_cases h1 : x < -1
    · exact Or.inl h1
    · refine Or.inr (Or.inr (Or.inl ?_))
      have a := Int32.lt_iff_toInt_lt.mp h
      have b : ¬ x.toInt < (-1 : Int32).toInt := fun h9 => h1 (Int32.lt_iff_toInt_lt.mpr h9)
      have c0 : (0 : Int32).toInt = 0 := rfl
      have c1 : (-1 : Int32).toInt = -1 := by decide
      exact Int32.toInt_inj.mp (by omega)
  · have a : ¬ x.toInt < (0 : Int32).toInt := fun h9 => h (Int32.lt_iff_toInt_lt.mpr h9)
    have c0 : (0 : Int32).toInt = 0 := rfl
    have c1 : (-1 : Int32).toInt = -1 := by decide
    refine Or.inr (Or.inl ⟨fun h9 => ?_, fun h9 => ?_⟩)
    · have := Int32.lt_iff_toInt_lt.mp h9; omega
    · have h10 := Int32.le_trans h2 h9
      have := (nle (by omega) (by omega)).mp h10
      omega
  · exact Or.inr (Or.inr (Or.inr ⟨i, by omega, h⟩))
end
theorem sRest_L {LK : sLK} {L A B : Nat} {u v : Nat → Nat} {uG uN uL uL' uH xA : sx_C} (h : sRest LK L A B u v uG uN uL uH xA) (h2 : LK L A B u v uL') : sRest LK L A B u v uG uN uL' uH xA := ⟨h.1, h.2.1, h.2.2.1, h2⟩
theorem k_neg1 (c : Nat) (hc : c ≤ 14) : (-1 : Int32) ≤ nI c := by
  rw [Int32.le_iff_toInt_le]
  have : ∀ c, c < 15 → (-1 : Int32).toInt ≤ (nI c).toInt := by decide
  exact this c (by omega)
theorem lo_sets {N : Nat} (hf : 200000 ≤ N) {who : Nat} (hw : who < 2) {K L A B : Nat} {u v : Nat → Nat} {uG uN uF uL uH xA : sx_C} (hC : sCore K L A B u v uG uN uF xA) (hR : sRest LKd L A B u v uG uN uL uH xA) (x : Int32) (xD xE xF : sx_C) : ∃ r uL', f_X11_setsOf N uG uN (nI who) x uL = some (r, uL') ∧ LKd L A B u v uL' ∧ ((x < -1 ∧ r = -2) ∨ (¬ x < -1 ∧ ¬ x ≤ nI (qc (bt (opn L (gi xA 7) (gi xA 8)))) ∧ r = -2) ∨ (¬ x < -1 ∧ x ≤ nI (qc (bt (opn L (gi xA 7) (gi xA 8)))) ∧ ∃ xD' xE' xF', f_X12_manySo N xA (nI who) x (-1) xD xE xF = some (r, xD', xE', xF'))) := by
  obtain ⟨hN, hM, hF, ⟨e7, e8, e11⟩, -, hJ, hG, hdis⟩ := id hC
  have hL : L ≤ 14 := (cN_8 hN).2.2.2
  obtain ⟨uL', l1, l2, l3⟩ := lookAt_ok (by omega : 2000 ≤ N) hN hR.2.2.2 (gi uG 12) (gi uG 13)
  have hc14 := qc_opn14 hL (gi uG 12) (gi uG 13)
  obtain ⟨m, hm14, hO, hm, h14⟩ := opn_num hL (gi uG 12) (gi uG 13)
  have h8 := l3.1
  unfold f_X11_setsOf
  simp only [l1, Option.bind_some]
  rw [h8, e7, e8]
  have hmany := fun {kk li : Int32} {q : BS → Bool} (hq : ∀ t, sbs t m → q (tB t) = ((decide (kk = -1) || decide (nI (qc (bt (nI t))) = kk)) && (decide (li = -1) || decide (((sp_shr (nI t) li) &&& 1) = 1)))) => many_ok (xA := xA) hf hM hw hm14 hL (by rw [e7, e8]; exact hO) (by rw [e7, e8]; exact hm) (by rw [e7, e8]; exact hdis) hq xD xE xF
  simp only [e7, e8] at hmany
  rcases k_cases x hc14 with h | ⟨h, h2⟩ | h | ⟨k, hk, h⟩
  · rw [if_pos h]; exact ⟨_, _, rfl, l2, Or.inl ⟨h, rfl⟩⟩
  · rw [if_neg h, if_neg h2]; exact ⟨_, _, rfl, l2, Or.inr (Or.inl ⟨h, h2, rfl⟩)⟩
  · subst h
    rw [if_neg (by decide), if_pos (k_neg1 _ hc14), if_pos rfl, total_ok2 (by omega) hN l3 hw, Option.bind_some]
    refine ⟨_, _, rfl, l2, Or.inr (Or.inr ⟨by decide, k_neg1 _ hc14, ?_⟩)⟩
    obtain ⟨xD', xE', xF', e⟩ := hmany (kk := -1) (li := -1) (q := fun _ => true) (fun t _ => by simp)
    refine ⟨xD', xE', xF', ?_⟩
    rw [e, ttN_cS hm h14]
    have : (fun S => true && gvS u v L A B (gi uG 12) (opn L (gi uG 12) (gi uG 13)) who S) = gvS u v L A B (gi uG 12) (opn L (gi uG 12) (gi uG 13)) who := by funext S; rfl
    rw [this]
  · subst h
    have hk0 := nI_ne_neg (i := k) (by omega)
    have hkl : ¬ nI k < -1 := fun h => hk0.2.2 (Int32.lt_trans h (by decide))
    rw [if_neg hkl, if_pos ((nle (by omega) (by omega)).mpr hk), if_neg hk0.1, sized_ok (by omega) hN l3 hw hk, Option.bind_some]
    refine ⟨_, _, rfl, l2, Or.inr (Or.inr ⟨hkl, (nle (by omega) (by omega)).mpr hk, ?_⟩)⟩
    obtain ⟨xD', xE', xF', e⟩ := hmany (kk := nI k) (li := -1) (q := fun S => qc S == k) (fun t ht => by
      have := sbs_le ht
      have h32 := qc_le32 (tB t)
      rw [bt_nI (by omega), decide_eq_false hk0.1]
      have : (qc (tB t) == k) = decide (nI (qc (tB t)) = nI k) := by
        by_cases h9 : qc (tB t) = k
        · rw [h9]; simp
        · rw [decide_eq_false (fun h => h9 ((neq (by omega) (by omega)).mp h))]; simp [h9]
      rw [this]; simp)
    refine ⟨xD', xE', xF', ?_⟩
    rw [e, szN_cS hm h14]
theorem lo_lucky {N : Nat} (hf : 200000 ≤ N) : LO_lucky N (sI LKd) := by
  rintro uG uN uD uR uF uP uL uTT uA uM uH xA xB xC xD xE xF xG xH xI xJ xK xL x ⟨K, L, A, B, u, v, hC, hR⟩
  have hI : ∀ uL' xB' xD' xE' xF', LKd L A B u v uL' → sI LKd uG uN uD uR uF uP uL' uTT uA uM uH xA xB' xC xD' xE' xF' xG xH xI xJ xK xL := fun _ _ _ _ _ h => ⟨K, L, A, B, u, v, hC, sRest_L hR h⟩
  obtain ⟨hN, hM, hF, ⟨e7, e8, e11⟩, -, hJ, hG, hdis⟩ := id hC
  obtain ⟨r, uL', s1, s2, s3⟩ := lo_sets hf (who := 0) (by decide) hC hR x xD xE xF
  unfold f_X11_lucky f_X12_lucky
  have s1 : f_X11_setsOf N uG uN 0 x uL = some (r, uL') := s1
  simp only [s1, Option.bind_some, mOpenNow_ok hM, bits_ok]
  rcases s3 with ⟨h, hr⟩ | ⟨h, h2, hr⟩ | ⟨h, h2, xD', xE', xF', e⟩
  · rw [if_pos h]; exact ⟨_, rfl, _, rfl, hr, hI _ _ _ _ _ s2⟩
  · rw [if_neg h, if_neg h2]; exact ⟨_, rfl, _, rfl, hr, hI _ _ _ _ _ s2⟩
  · have e : f_X12_manySo N xA 0 x (-1) xD xE xF = some (r, xD', xE', xF') := e
    rw [if_neg h, if_pos h2, e]
    exact ⟨_, rfl, _, rfl, rfl, hI _ _ _ _ _ s2⟩
theorem lo_walls {N : Nat} (hf : 200000 ≤ N) : LO_walls N (sI LKd) := by
  rintro uG uN uD uR uF uP uL uTT uA uM uH xA xB xC xD xE xF xG xH xI xJ xK xL x ⟨K, L, A, B, u, v, hC, hR⟩
  have hI : ∀ uL' xB' xD' xE' xF', LKd L A B u v uL' → sI LKd uG uN uD uR uF uP uL' uTT uA uM uH xA xB' xC xD' xE' xF' xG xH xI xJ xK xL := fun _ _ _ _ _ h => ⟨K, L, A, B, u, v, hC, sRest_L hR h⟩
  obtain ⟨hN, hM, hF, ⟨e7, e8, e11⟩, -, hJ, hG, hdis⟩ := id hC
  obtain ⟨r, uL', s1, s2, s3⟩ := lo_sets hf (who := 1) (by decide) hC hR x xD xE xF
  unfold f_X11_walls f_X12_walls
  have s1 : f_X11_setsOf N uG uN 1 x uL = some (r, uL') := s1
  simp only [s1, Option.bind_some, mOpenNow_ok hM, bits_ok]
  rcases s3 with ⟨h, hr⟩ | ⟨h, h2, hr⟩ | ⟨h, h2, xD', xE', xF', e⟩
  · rw [if_pos h]; exact ⟨_, rfl, _, rfl, hr, hI _ _ _ _ _ s2⟩
  · rw [if_neg h, if_neg h2]; exact ⟨_, rfl, _, rfl, hr, hI _ _ _ _ _ s2⟩
  · have e : f_X12_manySo N xA 1 x (-1) xD xE xF = some (r, xD', xE', xF') := e
    rw [if_neg h, if_pos h2, e]
    exact ⟨_, rfl, _, rfl, rfl, hI _ _ _ _ _ s2⟩
