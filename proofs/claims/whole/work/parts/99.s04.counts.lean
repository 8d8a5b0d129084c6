/-! ===== LuckySets: how many; lucky, walls ===== -/
def bin : Nat → Nat → Nat
  | _, 0 => 1
  | 0, _ + 1 => 0
  | n + 1, k + 1 => bin n k + bin n (k + 1)
theorem bin_cnt : ∀ c, c ≤ 14 → ∀ k, fb_ct (fun n => pcn n == k) (2 ^ c) = bin c k := by
  intro c
  induction c with
  | zero =>
    intro _ k
    show fb_ct _ 1 = _
    rw [fb_ct_succ]
    have : pcn 0 = 0 := rfl
    rw [this]
    cases k with
    | zero => rfl
    | succ k => rfl
  | succ c ih =>
    intro hc k
    rw [Nat.pow_succ, Nat.mul_two, fb_ct_split]
    have hup : ∀ n, n < 2 ^ c → pcn (2 ^ c + n) = pcn n + 1 := fun n hn => by
      unfold pcn
      have e : fb_ct (fun i => (2 ^ c + n).testBit i) 14 = fb_ct (qI (fun i => n.testBit i) c) 14 := fb_ct_cong (fun i _ => by
        show (2 ^ c + n).testBit i = (n.testBit i || decide (i = c))
        exact up_bit hn i)
      rw [e]
      exact qc_ins (by omega) (tb_small hn (Nat.le_refl _))
    have e2 : fb_ct (fun n => pcn (2 ^ c + n) == k) (2 ^ c) = fb_ct (fun n => pcn n + 1 == k) (2 ^ c) := fb_ct_cong (fun n hn => by rw [hup n hn])
    rw [e2, ih (by omega)]
    cases k with
    | zero =>
      have : fb_ct (fun n => pcn n + 1 == 0) (2 ^ c) = 0 := fb_ct_zero.mpr (fun n _ => by simp)
      rw [this]
      cases c <;> rfl
    | succ k =>
      have : fb_ct (fun n => pcn n + 1 == k + 1) (2 ^ c) = fb_ct (fun n => pcn n == k) (2 ^ c) := fb_ct_cong (fun n _ => by
        by_cases h : pcn n = k
        · simp [h]
        · have : ¬ pcn n + 1 = k + 1 := by omega
          simp [h])
      rw [this, ih (by omega)]
      show bin c (k + 1) + bin c k = bin c k + bin c (k + 1)
      omega
theorem ways_dec : ∀ n, n < 15 → ∀ k, k < 15 → f_X4_ways_4 0 16 (nI n) (nI k) 1 0 = some (nI (bin n k)) := by decide +kernel
theorem ways_fuel (N M : Nat) : ∀ f g (a b x y r : Int32), f ≤ g → f_X4_ways_4 N f a b x y = some r → f_X4_ways_4 M g a b x y = some r
  | 0, _, _, _, _, _, _, _, h => by cases h
  | f + 1, 0, _, _, _, _, _, hg, _ => by omega
  | f + 1, g + 1, a, b, x, y, r, hg, h => by
    unfold f_X4_ways_4 at h ⊢
    by_cases h1 : b ≤ y
    · rw [if_pos h1] at h ⊢; exact h
    · rw [if_neg h1] at h ⊢
      by_cases h2 : ¬ y + 1 = 0
      · rw [if_pos h2] at h ⊢; exact ways_fuel N M f g _ _ _ _ _ (by omega) h
      · rw [if_neg h2] at h; cases h
theorem ct_rev (f : Nat → Bool) : ∀ M, fb_ct f M = fb_ct (fun n => f (M - 1 - n)) M
  | 0 => rfl
  | M + 1 => by
    have h := fb_ct_split (fun n => f (M + 1 - 1 - n)) 1 M
    rw [Nat.add_comm 1 M] at h
    rw [fb_ct_succ, h]
    have e1 : fb_ct (fun n => f (M + 1 - 1 - n)) 1 = (if f M then 1 else 0) := by
      rw [fb_ct_succ]
      show 0 + _ = _
      rw [Nat.zero_add]; rfl
    have e2 : fb_ct (fun k => f (M + 1 - 1 - (1 + k))) M = fb_ct (fun n => f (M - 1 - n)) M := fb_ct_cong (fun k hk => by rw [show M + 1 - 1 - (1 + k) = M - 1 - k by omega])
    rw [e1, e2, ct_rev f M]
    omega
theorem comp_bit {c n : Nat} (hn : n < 2 ^ c) (i : Nat) : (2 ^ c - 1 - n).testBit i = (decide (i < c) && !n.testBit i) := by
  have h := Nat.testBit_two_pow_sub_succ hn i
  rw [show 2 ^ c - 1 - n = 2 ^ c - (n + 1) by omega]
  exact h
section
variable {N : Nat} {uG uN uL xA : sx_C} {K L A B : Nat} {u v : Nat → Nat}
theorem pS_comp {O : Int32} {n : Nat} (hn : n < 2 ^ qc (bt O)) : pS O (2 ^ qc (bt O) - 1 - n) = qD (bt O) (pS O n) := by
  funext z
  show (bt O z && (2 ^ qc (bt O) - 1 - n).testBit (fb_ct (bt O) z)) = (bt O z && !(bt O z && n.testBit (fb_ct (bt O) z)))
  rw [comp_bit hn]
  cases ho : bt O z
  · rfl
  · have hz32 : z < 32 := by
      by_cases h : z < 32
      · exact h
      · rw [b_big (by omega)] at ho; cases ho
    have h1 := fb_ct_mono (bt O) (show z + 1 ≤ 32 by omega)
    rw [fb_ct_succ, ho] at h1
    simp at h1
    have : fb_ct (bt O) z < qc (bt O) := h1
    simp [this]
theorem pcn_comp {c n : Nat} (hc : c ≤ 14) (hn : n < 2 ^ c) : pcn (2 ^ c - 1 - n) + pcn n = c := by
  have hp := Nat.two_pow_pos c
  rw [← pcn_bits hc hn, ← pcn_bits hc (show 2 ^ c - 1 - n < 2 ^ c by omega)]
  have := fb_ct_not (fun i => n.testBit i) c
  have e : fb_ct (fun i => (2 ^ c - 1 - n).testBit i) c = fb_ct (fun i => !n.testBit i) c := fb_ct_cong (fun i hi => by rw [comp_bit hn]; simp [hi])
  omega
/-- whether a set gives it to one -/
def gvS (u v : Nat → Nat) (L A B : Nat) (J O : Int32) (who : Nat) (S : BS) : Bool := if who = 0 then lkS u v L A B J S else !lkS u v L A B J (qD (bt O) S)
/-- how many sets of open lines are so -/
def cS (m : Nat) (Q : BS → Bool) : Nat := fb_ct (fun t => (t &&& m == t) && Q (tB t)) 16384
theorem cS_n {O : Int32} {m : Nat} (hm : ∀ z, m.testBit z = bt O z) (h14 : ∀ z, bt O z = true → z < 14) (Q : BS → Bool) : fb_ct (fun n => Q (pS O n)) (2 ^ qc (bt O)) = cS m Q := by
  have := cnt_pd hm 14 Q
  rw [ct14 h14] at this
  exact this
theorem cS_cong {m : Nat} {Q Q' : BS → Bool} (h : ∀ t, sbs t m → Q (tB t) = Q' (tB t)) : cS m Q = cS m Q' := fb_ct_cong (fun t _ => by
  cases ht : (t &&& m == t)
  · rfl
  · rw [h t (sB_t.mp ht)])
def szN (u v : Nat → Nat) (L A B : Nat) (J O : Int32) (who k : Nat) : Nat := fb_ct (fun n => gvS u v L A B J O who (pS O n) && (pcn n == k)) (2 ^ qc (bt O))
theorem sized_ok (hf : 2000 ≤ N) (hN : cNet uN K L A B u v) {J G : Int32} (h : stOK u v L A B J G uL) {who k : Nat} (hw : who < 2) (hk : k ≤ qc (bt (opn L J G))) : f_X4_sized N uL (nI who) (nI k) = some (nI (szN u v L A B J (opn L J G) who k)) := by
  have hL : L ≤ 14 := (cN_8 hN).2.2.2
  have hc14 := qc_opn14 hL J G
  obtain ⟨h8, h3, hwd, h2⟩ := h
  obtain ⟨O, hO⟩ : ∃ O, O = opn L J G := ⟨_, rfl⟩
  rw [← hO] at h8 h3 hwd hk hc14 ⊢
  have hp := Nat.two_pow_pos (qc (bt O))
  have hp14 : 2 ^ qc (bt O) ≤ 16384 := by
    have : 2 ^ qc (bt O) ≤ 2 ^ 14 := Nat.pow_le_pow_right (by decide) hc14
    omega
  have hrow : ∀ k, k ≤ 14 → ga uL 2 k = nI (szN u v L A B J O 0 k) := fun k hk2 => by
    rw [h2 k hk2]
    unfold szN
    have e1 : fb_ct (fun n => wdb uL n && (pcn n == k)) 16384 = fb_ct (fun n => wdb uL n && (pcn n == k)) (2 ^ qc (bt O)) := ct_gap hp14 (fun t t1 t2 => by
      rw [hwd t t2]
      have : ¬ t < 2 ^ qc (bt O) := by omega
      simp [this])
    rw [e1]
    have e2 : fb_ct (fun n => wdb uL n && (pcn n == k)) (2 ^ qc (bt O)) = fb_ct (fun n => gvS u v L A B J O 0 (pS O n) && (pcn n == k)) (2 ^ qc (bt O)) := fb_ct_cong (fun n hn => by
      rw [hwd n (by omega), decide_eq_true hn, Bool.true_and]
      rfl)
    rw [e2]
  unfold f_X4_sized
  rw [if_neg (nI_ne_neg (by omega)).2.2, h8, if_neg (fun h9 => by have := (nlt (by omega) (by omega)).mp h9; omega), if_pos (show nI (qc (bt O)) ≤ 14 from (nle (b := 14) (by omega) (by omega)).mpr hc14)]
  rcases (show who = 0 ∨ who = 1 by omega) with e | e
  · rw [e, if_pos (show nI 0 = 0 from rfl), rd_ok (by omega) (by decide), hrow k (by omega)]
    rfl
  · rw [e, if_neg (by decide)]
    have hws : f_X4_ways N (nI (qc (bt O))) (nI k) = some (nI (bin (qc (bt O)) k)) := ways_fuel 0 N 16 N _ _ _ _ _ (by omega) (ways_dec _ (by omega) _ (by omega))
    have hsub : nI (qc (bt O)) - nI k = nI (qc (bt O) - k) := by
      have := nsub (qc (bt O) - k) k
      rw [show qc (bt O) - k + k = qc (bt O) by omega] at this
      exact this
    rw [hws, Option.bind_some, hsub, rd_ok (by omega) (by decide), hrow _ (by omega), Option.bind_some, ← bin_cnt _ hc14]
    -- the complement
    have hrev : szN u v L A B J O 0 (qc (bt O) - k) = fb_ct (fun n => (pcn n == k) && lkS u v L A B J (qD (bt O) (pS O n))) (2 ^ qc (bt O)) := by
      unfold szN
      rw [ct_rev]
      refine fb_ct_cong (fun n hn => ?_)
      rw [pS_comp hn]
      have := pcn_comp hc14 hn
      show (lkS u v L A B J (qD (bt O) (pS O n)) && _) = _
      rw [Bool.and_comm]
      congr 1
      by_cases e9 : pcn n = k
      · have : pcn (2 ^ qc (bt O) - 1 - n) = qc (bt O) - k := by omega
        rw [beq_iff_eq.mpr e9, beq_iff_eq.mpr this]
      · have : ¬ pcn (2 ^ qc (bt O) - 1 - n) = qc (bt O) - k := by omega
        rw [beq_eq_false_iff_ne.mpr e9, beq_eq_false_iff_ne.mpr this]
    have hsplit : fb_ct (fun n => pcn n == k) (2 ^ qc (bt O)) = szN u v L A B J O 1 k + szN u v L A B J O 0 (qc (bt O) - k) := by
      rw [hrev]
      unfold szN
      rw [← fb_ct_or (fun n _ h9 => ?_)]
      · refine fb_ct_cong (fun n hn => ?_)
        show _ = ((!lkS u v L A B J (qD (bt O) (pS O n)) && (pcn n == k)) || ((pcn n == k) && lkS u v L A B J (qD (bt O) (pS O n))))
        cases lkS u v L A B J (qD (bt O) (pS O n)) <;> cases (pcn n == k) <;> rfl
      · have h10 : (!lkS u v L A B J (qD (bt O) (pS O n)) && (pcn n == k)) = true := h9.1
        have h11 := h9.2
        cases h12 : lkS u v L A B J (qD (bt O) (pS O n)) <;> rw [h12] at h10 h11 <;> simp at h10 h11
    rw [hsplit, nsub]
theorem sum_le (f : Nat → Bool) (g : Nat → Nat) (M : Nat) : ∀ c, fb_ct (fun n => f n && decide (g n < c + 1)) M = fb_ct (fun n => f n && decide (g n < c)) M + fb_ct (fun n => f n && (g n == c)) M := by
  intro c
  rw [← fb_ct_or (fun n _ h => ?_)]
  · refine fb_ct_cong (fun n _ => ?_)
    cases f n
    · rfl
    · simp only [Bool.true_and]
      by_cases h1 : g n < c
      · have : g n < c + 1 := by omega
        simp [h1, this]
      · by_cases h2 : g n = c
        · simp [h2]
        · have : ¬ g n < c + 1 := by omega
          simp [h1, h2, this]
  · obtain ⟨a, b⟩ := h
    simp at a b
    omega
/-- all of them -/
def ttN (u v : Nat → Nat) (L A B : Nat) (J O : Int32) (who : Nat) : Nat := fb_ct (fun n => gvS u v L A B J O who (pS O n)) (2 ^ qc (bt O))
theorem total_ok2 (hf : 2000 ≤ N) (hN : cNet uN K L A B u v) {J G : Int32} (h : stOK u v L A B J G uL) {who : Nat} (hw : who < 2) : f_X4_total N uL (nI who) = some (nI (ttN u v L A B J (opn L J G) who)) := by
  have hL : L ≤ 14 := (cN_8 hN).2.2.2
  have hc14 := qc_opn14 hL J G
  have h8 := h.1
  obtain ⟨O, hO⟩ : ∃ O, O = opn L J G := ⟨_, rfl⟩
  have hsz := fun k hk => sized_ok (k := k) hf hN h hw hk
  rw [← hO] at h8 hsz hc14 ⊢
  have loop : ∀ n k, qc (bt O) + 1 - k < n → k ≤ qc (bt O) + 1 → f_X4_total_4 N uL n (nI who) (nI (fb_ct (fun n => gvS u v L A B J O who (pS O n) && decide (pcn n < k)) (2 ^ qc (bt O)))) (nI k) = some (nI (ttN u v L A B J O who)) := by
    intro n
    induction n with
    | zero => intro k hn; omega
    | succ n ih =>
      intro k hn hk
      unfold f_X4_total_4
      rw [h8]
      by_cases hc : qc (bt O) < k
      · rw [if_pos ((nlt (by omega) (by omega)).mpr hc)]
        have : k = qc (bt O) + 1 := by omega
        subst this
        have e : fb_ct (fun n => gvS u v L A B J O who (pS O n) && decide (pcn n < qc (bt O) + 1)) (2 ^ qc (bt O)) = ttN u v L A B J O who := fb_ct_cong (fun n hn2 => by
          have := pcn_bits hc14 hn2
          have h9 := fb_ct_le (fun i => n.testBit i) (qc (bt O))
          have : pcn n < qc (bt O) + 1 := by omega
          simp [this])
        rw [e]
      · rw [if_neg (fun h9 => hc ((nlt (by omega) (by omega)).mp h9)), hsz k (by omega), Option.bind_some, nadd, show nI k + 1 = nI (k + 1) from nadd k 1]
        have e := sum_le (fun n => gvS u v L A B J O who (pS O n)) pcn (2 ^ qc (bt O)) k
        have e2 : szN u v L A B J O who k = fb_ct (fun n => gvS u v L A B J O who (pS O n) && (pcn n == k)) (2 ^ qc (bt O)) := rfl
        rw [e2, ← e]
        exact ih (k + 1) (by omega) (by omega)
  unfold f_X4_total
  have := loop N 0 (by omega) (by omega)
  have e0 : fb_ct (fun n => gvS u v L A B J O who (pS O n) && decide (pcn n < 0)) (2 ^ qc (bt O)) = 0 := fb_ct_zero.mpr (fun n _ => by simp)
  rw [e0] at this
  exact this
/-- the model's count -/
theorem manySo_ok (hf : 200000 ≤ N) (hM : mNet xA K L A B u v) {O : Int32} {m : Nat} (hm14 : m < 16384) (hO : O = nI m) {how : Int32} {P : Nat → Bool} {xE : sx_C} (hP : ∀ t, sbs t m → ∀ xD xF, ∃ xD' xF', f_X12_isSo N xA xE how (nI t) xD xF = some (P t, xD', xF')) {kk li : Int32} {q : Nat → Bool} (hq : ∀ t, sbs t m → q t = ((decide (kk = -1) || decide (nI (qc (bt (nI t))) = kk)) && (decide (li = -1) || decide (((sp_shr (nI t) li) &&& 1) = 1)))) :
    ∀ fu s a xD xF, s < fu → sbs s m → ∃ xD' xF', f_X12_manySo_21 N xA fu how kk li O (nI a) (nI s) xD xE xF = some (nI (a + fb_ct (fun t => (t &&& m == t) && (q t && P t)) (s + 1)), xD', xE, xF') := by
  intro fu
  induction fu with
  | zero => intro s a xD xF hs; omega
  | succ fu ih =>
    intro s a xD xF hs hsm
    have hsle := sbs_le hsm
    unfold f_X12_manySo_21
    have fin : ∀ (x : Nat) xD xF, x = (if (q s && P s) = true then 1 else 0) → ∃ xD' xF', f_X12_manySo_79 N (f_X12_manySo_21 N xA fu) xA how kk li O (nI s) (nI a) (nI x) xD xE xF = some (nI (a + fb_ct (fun t => (t &&& m == t) && (q t && P t)) (s + 1)), xD', xE, xF') := by
      intro x xD xF hx
      unfold f_X12_manySo_79
      have hsuc : fb_ct (fun t => (t &&& m == t) && (q t && P t)) (s + 1) = fb_ct (fun t => (t &&& m == t) && (q t && P t)) s + x := by
        rw [fb_ct_succ, sB_t.mpr hsm, Bool.true_and, hx]
      rw [nadd]
      by_cases h0 : s = 0
      · rw [if_pos ((nz (by omega)).mpr h0)]
        rw [h0] at hsuc ⊢
        have e0 : fb_ct (fun t => (t &&& m == t) && (q t && P t)) 0 = 0 := rfl
        rw [hsuc, e0, Nat.zero_add]
        exact ⟨xD, xF, rfl⟩
      · rw [if_neg (fun h9 => h0 ((nz (by omega)).mp h9)), hO, int_down (by omega)]
        have hpr := sub_pred (a := s) (m := m) (by omega)
        obtain ⟨xD', xF', e⟩ := ih ((s - 1) &&& m) (a + x) xD xF (by omega) (sbs_and _ _)
        rw [hO] at e
        refine ⟨xD', xF', ?_⟩
        rw [e, hsuc]
        have hgap : fb_ct (fun t => (t &&& m == t) && (q t && P t)) s = fb_ct (fun t => (t &&& m == t) && (q t && P t)) (((s - 1) &&& m) + 1) := ct_gap (by omega) (fun t t1 t2 => by
          cases h9 : (t &&& m == t)
          · rfl
          · have := sub_down 14 s m t (by omega) hsm (sB_t.mp h9) t2
            omega)
        rw [hgap]
        congr 3
        omega
    have hqs := hq s hsm
    have go : ∀ xD xF, ((decide (kk = -1) || decide (nI (qc (bt (nI s))) = kk)) = true) → ∃ xD' xF', f_X12_manySo_35 N (f_X12_manySo_21 N xA fu) xA how kk li O (nI a) (nI s) xD xE xF = some (nI (a + fb_ct (fun t => (t &&& m == t) && (q t && P t)) (s + 1)), xD', xE, xF') := by
      intro xD xF hk1
      unfold f_X12_manySo_35 f_X12_manySo_50 f_X12_manySo_54 f_X12_manySo_55 f_X12_manySo_78
      rw [hk1, Bool.true_and] at hqs
      have yes : q s = true → ∃ xD' xF', (if (1 : Int32) = 0 then f_X12_manySo_79 N (f_X12_manySo_21 N xA fu) xA how kk li O (nI s) (nI a) 0 xD xE xF else Option.bind (f_X12_isSo N xA xE how (nI s) xD xF) (fun q7 => (if (q7.1) = true then f_X12_manySo_79 N (f_X12_manySo_21 N xA fu) xA how kk li O (nI s) (nI a) 1 (q7.2.1) xE (q7.2.2) else f_X12_manySo_79 N (f_X12_manySo_21 N xA fu) xA how kk li O (nI s) (nI a) 0 (q7.2.1) xE (q7.2.2)))) = some (nI (a + fb_ct (fun t => (t &&& m == t) && (q t && P t)) (s + 1)), xD', xE, xF') := by
        intro hy
        rw [if_neg (by decide)]
        obtain ⟨xD1, xF1, i1⟩ := hP s hsm xD xF
        simp only [i1, Option.bind_some]
        cases hPs : P s
        · rw [if_neg (by decide)]
          exact fin 0 xD1 xF1 (by rw [hy, hPs]; rfl)
        · rw [if_pos rfl]
          exact fin 1 xD1 xF1 (by rw [hy, hPs]; rfl)
      by_cases h1 : li = -1
      · rw [if_pos h1]
        exact yes (by rw [hqs]; simp [h1])
      · rw [if_neg h1]
        by_cases h2 : ((sp_shr (nI s) li) &&& 1) = 1
        · rw [if_pos h2]
          exact yes (by rw [hqs]; simp [h2])
        · rw [if_neg h2, if_pos rfl]
          exact fin 0 xD xF (by
            have : q s = false := by rw [hqs]; simp [h1, h2]
            rw [this]; rfl)
    by_cases h1 : kk = -1
    · rw [if_pos h1]
      exact go xD xF (by simp [h1])
    · rw [if_neg h1, bits_ok, Option.bind_some]
      by_cases h2 : nI (qc (bt (nI s))) = kk
      · rw [if_pos h2]
        exact go xD xF (by simp [h2])
      · rw [if_neg h2]
        unfold f_X12_manySo_54 f_X12_manySo_55 f_X12_manySo_78
        rw [if_pos rfl]
        exact fin 0 xD xF (by
          have : q s = false := by rw [hqs]; simp [h1, h2]
          rw [this]; rfl)
end
