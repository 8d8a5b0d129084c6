/-! ===== positions ===== -/
def sg (f : Nat → Nat) : Nat → Nat
  | 0 => 0
  | n + 1 => sg f n + f n
theorem sg_cong {f g : Nat → Nat} : ∀ {n}, (∀ k, k < n → f k = g k) → sg f n = sg g n
  | 0, _ => rfl
  | n + 1, h => by
    show sg f n + f n = sg g n + g n
    rw [sg_cong (fun k hk => h k (by omega)), h n (by omega)]
theorem sg_add (f g : Nat → Nat) : ∀ n, sg (fun k => f k + g k) n = sg f n + sg g n
  | 0 => rfl
  | n + 1 => by
    show sg (fun k => f k + g k) n + (f n + g n) = (sg f n + f n) + (sg g n + g n)
    rw [sg_add f g n]; omega
theorem sg_zero : ∀ n, sg (fun _ => 0) n = 0
  | 0 => rfl
  | n + 1 => by show sg (fun _ => 0) n + 0 = 0; rw [sg_zero n]
theorem sg_swap (f : Nat → Nat → Nat) (b : Nat) : ∀ n, sg (fun s => sg (fun t => f s t) b) n = sg (fun t => sg (fun s => f s t) n) b
  | 0 => (sg_zero b).symm
  | n + 1 => by
    show sg (fun s => sg (fun t => f s t) b) n + sg (fun t => f n t) b = sg (fun t => sg (fun s => f s t) n + f n t) b
    rw [sg_swap f b n, ← sg_add]
theorem ct_sg (p : Nat → Bool) : ∀ n, fb_ct p n = sg (fun t => if p t = true then 1 else 0) n
  | 0 => rfl
  | n + 1 => by
    rw [fb_ct_succ, ct_sg p n]; rfl
theorem sg_ct_mul (p : Nat → Bool) (c : Nat) : ∀ n, sg (fun t => if p t = true then c else 0) n = fb_ct p n * c
  | 0 => (Nat.zero_mul c).symm
  | n + 1 => by
    show sg _ n + (if p n = true then c else 0) = _
    rw [sg_ct_mul p c n, fb_ct_succ]
    cases p n
    · simp
    · simp [Nat.add_mul]
theorem sg_last {f : Nat → Nat} {a b : Nat} (h : a ≤ b) (h2 : ∀ t, a ≤ t → t < b → f t = 0) : sg f b = sg f a := by
  induction b with
  | zero => have : a = 0 := by omega
            rw [this]
  | succ b ih =>
    by_cases e : a = b + 1
    · rw [e]
    · show sg f b + f b = _
      rw [ih (by omega) (fun t h3 h4 => h2 t h3 (by omega)), h2 b (by omega) (by omega)]
      omega
theorem ct_true : ∀ n, fb_ct (fun _ => true) n = n
  | 0 => rfl
  | n + 1 => by rw [fb_ct_succ, ct_true n]; rfl
/-- two sets apart from each other -/
def prS (m s t : Nat) : Bool := (s &&& m == s) && ((t &&& m == t) && (t &&& s == 0))
theorem prS_sym (m s t : Nat) : prS m s t = prS m t s := by
  unfold prS
  rw [Nat.and_comm t s]
  cases (s &&& m == s) <;> cases (t &&& m == t) <;> rfl
def PC (m : Nat) (R : Nat → Nat → Bool) : Nat := sg (fun s => fb_ct (fun t => prS m s t && R s t) 16384) 16384
theorem PC_cong {m : Nat} {R R' : Nat → Nat → Bool} (h : ∀ s t, prS m s t = true → R s t = R' s t) : PC m R = PC m R' := sg_cong (fun s _ => fb_ct_cong (fun t _ => by
  cases hp : prS m s t
  · rfl
  · rw [h s t hp]))
theorem PC_add {m : Nat} {R R1 R2 : Nat → Nat → Bool} (h : ∀ s t, prS m s t = true → R s t = (R1 s t || R2 s t) ∧ (R1 s t && R2 s t) = false) : PC m R = PC m R1 + PC m R2 := by
  unfold PC
  rw [← sg_add]
  refine sg_cong (fun s _ => ?_)
  rw [← fb_ct_or (fun t _ h9 => by
    have a := h9.1
    have b := h9.2
    simp only [Bool.and_eq_true] at a b
    have := (h s t a.1).2
    rw [a.2, b.2] at this
    cases this)]
  refine fb_ct_cong (fun t _ => ?_)
  cases hp : prS m s t
  · rfl
  · rw [(h s t hp).1]; rfl
theorem PC_swap {m : Nat} (P : Nat → Bool) : PC m (fun _ t => P t) = PC m (fun s _ => P s) := by
  unfold PC
  have e1 : ∀ s, fb_ct (fun t => prS m s t && P t) 16384 = sg (fun t => if (prS m s t && P t) = true then 1 else 0) 16384 := fun s => ct_sg _ _
  simp only [e1]
  rw [sg_swap]
  refine sg_cong (fun s _ => ?_)
  rw [ct_sg]
  refine sg_cong (fun t _ => ?_)
  rw [prS_sym]
section
variable {N : Nat} {uG uN uL xA : sx_C} {K L A B : Nat} {u v : Nat → Nat}
theorem sub_less {m s : Nat} (hm : m < 16384) : ∃ m', m' < 16384 ∧ nI m &&& (nI s ^^^ (-1)) = nI m' ∧ (∀ z, m'.testBit z = (m.testBit z && !s.testBit z)) ∧ ∀ t, (t &&& m' == t) = ((t &&& m == t) && (t &&& s == 0)) := by
  obtain ⟨m', a, b, c⟩ := num_of (x := nI m &&& (nI s ^^^ (-1))) (fun z hz => by
    rw [b_and, bt_nI hm] at hz
    simp only [Bool.and_eq_true] at hz
    by_cases h : z < 14
    · exact h
    · have h9 : m.testBit z = true := hz.1
      rw [tb_small (k := 14) hm (by omega)] at h9; cases h9)
  have hb : ∀ z, m'.testBit z = (m.testBit z && !s.testBit z) := fun z => by
    rw [c]
    by_cases hz : z < 32
    · rw [b_and, h_not _ hz, h_nI z hz, h_nI z hz]
    · rw [b_big (by omega), tb_small (k := 14) hm (by omega)]; rfl
  refine ⟨m', a, b, hb, fun t => sB_eq ?_⟩
  rw [sB_t, sbs_iff]
  simp only [Bool.and_eq_true, beq_iff_eq]
  constructor
  · intro h
    refine ⟨sbs_iff.mpr (fun i hi => ?_), Nat.eq_of_testBit_eq (fun i => ?_)⟩
    · have := h i hi
      rw [hb] at this
      simp at this
      exact this.1
    · rw [Nat.testBit_and, Nat.zero_testBit]
      cases hi : t.testBit i
      · rfl
      · have := h i hi
        rw [hb] at this
        simp at this
        simp [this.2]
  · rintro ⟨h1, h2⟩ i hi
    rw [hb, sbs_iff.mp h1 i hi]
    have := congrArg (fun x => x.testBit i) h2
    simp only [Nat.testBit_and, Nat.zero_testBit, hi, Bool.true_and] at this
    rw [this]; rfl
theorem ct_subs {m : Nat} (hm : m < 16384) : fb_ct (fun t => (t &&& m == t)) 16384 = 2 ^ qc (tB m) := by
  have h := cS_n (O := nI m) (m := m) (fun z => by rw [bt_nI hm]; rfl) (fun z hz => by
    rw [bt_nI hm] at hz
    by_cases h : z < 14
    · exact h
    · have hz : m.testBit z = true := hz
      rw [tb_small (k := 14) hm (by omega)] at hz; cases hz) (fun _ => true)
  rw [ct_true, bt_nI hm] at h
  rw [h]
  unfold cS
  exact fb_ct_cong (fun t _ => by simp)
theorem qc_less {m m' s : Nat} (hs : sbs s m) (hb : ∀ z, m'.testBit z = (m.testBit z && !s.testBit z)) : qc (tB m') + qc (tB s) = qc (tB m) := by
  show fb_ct _ 32 + fb_ct _ 32 = fb_ct _ 32
  rw [← fb_ct_or (fun z _ h => by
    have a : m'.testBit z = true := h.1
    have b : s.testBit z = true := h.2
    rw [hb, b] at a
    simp at a)]
  refine fb_ct_cong (fun z _ => ?_)
  show (m'.testBit z || s.testBit z) = m.testBit z
  rw [hb]
  have := sbs_iff.mp hs z
  cases h1 : s.testBit z
  · simp
  · rw [this h1]; rfl
/-- the pairs, by sizes -/
theorem PC_one {m : Nat} (hm : m < 16384) (P : BS → Bool) : PC m (fun s _ => P (tB s)) = sg (fun k => cS m (fun S => (qc S == k) && P S) * 2 ^ (qc (tB m) - k)) (qc (tB m) + 1) := by
  have h1 : PC m (fun s _ => P (tB s)) = sg (fun s => if ((s &&& m == s) && P (tB s)) = true then 2 ^ (qc (tB m) - qc (tB s)) else 0) 16384 := by
    refine sg_cong (fun s _ => ?_)
    show fb_ct (fun t => prS m s t && P (tB s)) 16384 = _
    cases hs : (s &&& m == s)
    · have : fb_ct (fun t => prS m s t && P (tB s)) 16384 = 0 := fb_ct_zero.mpr (fun t _ => by unfold prS; rw [hs]; rfl)
      rw [this]; rfl
    · cases hP : P (tB s)
      · have : fb_ct (fun t => prS m s t && false) 16384 = 0 := fb_ct_zero.mpr (fun t _ => by simp)
        rw [this]; rfl
      · obtain ⟨m', a, -, c, d⟩ := sub_less (s := s) hm
        have e : fb_ct (fun t => prS m s t && true) 16384 = fb_ct (fun t => (t &&& m' == t)) 16384 := fb_ct_cong (fun t _ => by rw [d]; unfold prS; rw [hs]; simp)
        have := qc_less (sB_t.mp hs) c
        rw [e, ct_subs a, if_pos (show (true && true) = true from rfl)]
        congr 1
        omega
  rw [h1]
  have step : ∀ j, sg (fun s => if (((s &&& m == s) && P (tB s)) && decide (qc (tB s) < j)) = true then 2 ^ (qc (tB m) - qc (tB s)) else 0) 16384 = sg (fun k => cS m (fun S => (qc S == k) && P S) * 2 ^ (qc (tB m) - k)) j := by
    intro j
    induction j with
    | zero =>
      have e0 : sg (fun s => if (((s &&& m == s) && P (tB s)) && decide (qc (tB s) < 0)) = true then 2 ^ (qc (tB m) - qc (tB s)) else 0) 16384 = sg (fun _ => 0) 16384 := sg_cong (fun s _ => by simp)
      rw [e0, sg_zero]; rfl
    | succ j ih =>
      show _ = sg _ j + cS m (fun S => (qc S == j) && P S) * 2 ^ (qc (tB m) - j)
      rw [← ih]
      have e1 : cS m (fun S => (qc S == j) && P S) * 2 ^ (qc (tB m) - j) = sg (fun t => if ((t &&& m == t) && ((qc (tB t) == j) && P (tB t))) = true then 2 ^ (qc (tB m) - j) else 0) 16384 := (sg_ct_mul _ _ _).symm
      rw [e1, ← sg_add]
      refine sg_cong (fun s _ => ?_)
      cases (s &&& m == s)
      · rfl
      · cases P (tB s)
        · simp
        · by_cases h2 : qc (tB s) < j
          · have h3 : qc (tB s) < j + 1 := by omega
            have h4 : ¬ qc (tB s) = j := by omega
            simp [h2, h3, h4]
          · by_cases h4 : qc (tB s) = j
            · simp [h4]
            · have h3 : ¬ qc (tB s) < j + 1 := by omega
              simp [h2, h3, h4]
  rw [← step]
  refine sg_cong (fun s _ => ?_)
  cases hs : (s &&& m == s)
  · rfl
  · have : qc (tB s) ≤ qc (tB m) := by
      obtain ⟨m', -, -, c, -⟩ := sub_less (s := s) hm
      have := qc_less (sB_t.mp hs) c
      omega
    have h3 : qc (tB s) < qc (tB m) + 1 := by omega
    simp [h3]
theorem bin_pow : ∀ c, c < 15 → sg (fun k => bin c k * 2 ^ (c - k)) (c + 1) = 3 ^ c := by decide +kernel
theorem PC_all {m : Nat} (hm : m < 16384) (hc : qc (tB m) ≤ 14) : PC m (fun _ _ => true) = 3 ^ qc (tB m) := by
  rw [← bin_pow _ (by omega)]
  have := PC_one hm (fun _ => true)
  rw [this]
  refine sg_cong (fun k _ => ?_)
  suffices hh : cS m (fun S => (qc S == k) && true) = bin (qc (tB m)) k by rw [hh]
  have h14 : ∀ z, bt (nI m) z = true → z < 14 := fun z hz => by
    rw [bt_nI hm] at hz
    by_cases h : z < 14
    · exact h
    · have hz : m.testBit z = true := hz
      rw [tb_small (k := 14) hm (by omega)] at hz; cases hz
  rw [← cS_n (O := nI m) (m := m) (fun z => by rw [bt_nI hm]; rfl) h14, ← bin_cnt _ hc]
  rw [show qc (bt (nI m)) = qc (tB m) by rw [bt_nI hm]]
  refine fb_ct_cong (fun n hn => ?_)
  rw [pS_qc h14 (by rw [bt_nI hm]; exact hn)]
  simp
theorem shl_nI (a d : Nat) (hd : d < 32) : sp_shl (nI a) (nI d) = nI (a * 2 ^ d) := by
  apply b_ext
  intro i hi
  rw [h_shl _ hd hi, h_nI i hi, h_nI (i - d) (by omega), Nat.testBit_mul_two_pow]
theorem posOf_ok (hf : 200000 ≤ N) (hN : cNet uN K L A B u v) {J G : Int32} (h : stOK u v L A B J G uL) {m who : Nat} (hw : who < 2) (hm14 : m < 16384) (hm : ∀ z, m.testBit z = bt (opn L J G) z) (h14 : ∀ z, bt (opn L J G) z = true → z < 14) : f_X4_positionsOf N uL (nI who) = some (nI (PC m (fun s _ => gvS u v L A B J (opn L J G) who (tB s)))) := by
  have hL : L ≤ 14 := (cN_8 hN).2.2.2
  have hc14 := qc_opn14 hL J G
  have h8 := h.1
  have hsz := fun k hk => sized_ok (k := k) (by omega : 2000 ≤ N) hN h hw hk
  have htm : tB m = bt (opn L J G) := by funext z; exact hm z
  have hpc := PC_one hm14 (fun S => gvS u v L A B J (opn L J G) who S)
  rw [htm] at hpc
  rw [hpc]
  have hcs := fun k => szN_cS (u := u) (v := v) (L := L) (A := A) (B := B) (J := J) (G := G) (who := who) (k := k) hm h14
  have loop : ∀ fu k, qc (bt (opn L J G)) + 1 - k < fu → k ≤ qc (bt (opn L J G)) + 1 → f_X4_positionsOf_4 N uL fu (nI who) (nI (sg (fun k => cS m (fun S => (qc S == k) && gvS u v L A B J (opn L J G) who S) * 2 ^ (qc (bt (opn L J G)) - k)) k)) (nI k) = some (nI (sg (fun k => cS m (fun S => (qc S == k) && gvS u v L A B J (opn L J G) who S) * 2 ^ (qc (bt (opn L J G)) - k)) (qc (bt (opn L J G)) + 1))) := by
    intro fu
    induction fu with
    | zero => intro k hk; omega
    | succ fu ih =>
      intro k hfu hk
      unfold f_X4_positionsOf_4
      rw [h8]
      by_cases hc : qc (bt (opn L J G)) < k
      · rw [if_pos ((nlt (by omega) (by omega)).mpr hc)]
        have : k = qc (bt (opn L J G)) + 1 := by omega
        rw [this]
      · rw [if_neg (fun h9 => hc ((nlt (by omega) (by omega)).mp h9)), hsz k (by omega), Option.bind_some]
        have hsub : nI (qc (bt (opn L J G))) - nI k = nI (qc (bt (opn L J G)) - k) := by
          have := nsub (qc (bt (opn L J G)) - k) k
          rw [show qc (bt (opn L J G)) - k + k = qc (bt (opn L J G)) by omega] at this
          exact this
        rw [hsub, shl_nI _ _ (by omega), nadd, show nI k + 1 = nI (k + 1) from nadd k 1, hcs]
        exact ih (k + 1) (by omega) (by omega)
  unfold f_X4_positionsOf
  exact loop N 0 (by omega) (by omega)
theorem allPos_ok (hf : 200000 ≤ N) {c : Nat} (hc : c ≤ 14) (h8 : gi uL 8 = nI c) : f_X4_allPositions N uL = some (nI (3 ^ c)) := by
  have loop : ∀ fu k, c - k < fu → k ≤ c → f_X4_allPositions_4 N uL fu (nI (3 ^ k)) (nI k) = some (nI (3 ^ c)) := by
    intro fu
    induction fu with
    | zero => intro k hk; omega
    | succ fu ih =>
      intro k hfu hk
      unfold f_X4_allPositions_4
      rw [h8]
      by_cases h9 : c ≤ k
      · rw [if_pos ((nle (by omega) (by omega)).mpr h9)]
        have : k = c := by omega
        rw [this]
      · rw [if_neg (fun h10 => h9 ((nle (by omega) (by omega)).mp h10)), show nI k + 1 = nI (k + 1) from nadd k 1, show nI (3 ^ k) * 3 = nI (3 ^ k * 3) from nmul _ 3, ← Nat.pow_succ]
        exact ih (k + 1) (by omega) (by omega)
  exact loop N 0 (by omega) (by omega)
/-- who has it, the lines s joined and t gone -/
def hS (u v : Nat → Nat) (L A B : Nat) (J O : Int32) (s t : Nat) : Nat := if lkS u v L A B J (tB s) = true then 0 else if lkS u v L A B J (qD (bt O) (tB t)) = true then 2 else 1
theorem has2_ok (hf : 20 ≤ N) (hM : mNet xA K L A B u v) {m s t : Nat} (hm14 : m < 16384) (hL : L ≤ 14) (hm : ∀ z, m.testBit z = bt (opn L (gi xA 7) (gi xA 8)) z) (hdis : ∀ z, ¬ (bt (gi xA 7) z = true ∧ bt (gi xA 8) z = true)) (hs : sbs s m) (ht : sbs t m) (xD : sx_C) : ∃ xD', f_X12_has N xA ((gi xA 7) ||| nI s) ((gi xA 8) ||| nI t) xD = some (nI (hS u v L A B (gi xA 7) (opn L (gi xA 7) (gi xA 8)) s t), xD') := by
  obtain ⟨xD', h⟩ := mhas_ok hM hf ((gi xA 7) ||| nI s) ((gi xA 8) ||| nI t) xD
  refine ⟨xD', ?_⟩
  rw [h]
  have hsl := sbs_le hs
  have htl := sbs_le ht
  have e1 : bL ((gi xA 7) ||| nI s) L = qU (bL (gi xA 7) L) (tB s) := bL_or (O := 0) (by omega) (fun z hz => by
    have := sbs_iff.mp hs z hz
    rw [hm] at this
    exact opn_lt (by omega : L < 31) this)
  have e2 : bL (alL L &&& (((gi xA 8) ||| nI t) ^^^ (-1))) L = qU (bL (gi xA 7) L) (qD (bt (opn L (gi xA 7) (gi xA 8))) (tB t)) := by
    funext z
    show (bt (alL L &&& (((gi xA 8) ||| nI t) ^^^ (-1))) z && decide (z < L)) = ((bt (gi xA 7) z && decide (z < L)) || (bt (opn L (gi xA 7) (gi xA 8)) z && !t.testBit z))
    by_cases hz : z < L
    · have h32 : z < 32 := by omega
      have hs := sbs_iff.mp ht z
      rw [hm, opn_bit (by omega) _ _ h32] at hs
      rw [b_and, h_not _ h32, b_or, h_nI z h32, alL_bit (by omega) h32, opn_bit (by omega) _ _ h32]
      have hd := hdis z
      simp only [decide_eq_true hz, Bool.true_and, Bool.and_true] at hs ⊢
      cases h1 : bt (gi xA 7) z <;> cases h2 : bt (gi xA 8) z <;> cases h3 : t.testBit z <;> simp [h1, h2, h3] at hs hd ⊢
    · rw [opn_off (by omega) (by omega)]
      simp [hz]
  unfold hld hS
  rw [e1, e2]
  unfold lkS
  simp only [decide_eq_true_eq]
  split
  · rfl
  · split
    · rfl
    · rfl
theorem mpos_ok (hf : 200000 ≤ N) (hM : mNet xA K L A B u v) (hL : L ≤ 14) {m w : Nat} (hw : w < 4) (hm14 : m < 16384) (hm : ∀ z, m.testBit z = bt (opn L (gi xA 7) (gi xA 8)) z) (hdis : ∀ z, ¬ (bt (gi xA 7) z = true ∧ bt (gi xA 8) z = true)) {Q : Nat → Nat → Bool} (hQ : Q = fun s t => decide (w = 3) || decide (hS u v L A B (gi xA 7) (opn L (gi xA 7) (gi xA 8)) s t = w)) (xB : sx_C) :
    ∀ fu s a xD, s < fu → sbs s m → ∃ xD', f_X12_positions_38 N xA fu (nI w) (nI m) (nI a) (nI s) xB xD = some (nI (a + sg (fun s => fb_ct (fun t => prS m s t && Q s t) 16384) (s + 1)), xB, xD') := by
  have hH : ∀ s t, hS u v L A B (gi xA 7) (opn L (gi xA 7) (gi xA 8)) s t < 3 := fun s t => by
    unfold hS
    split
    · omega
    · split <;> omega
  intro fu
  induction fu with
  | zero => intro s a xD h; omega
  | succ fu ih =>
    intro s a xD hs hsm
    have hsle := sbs_le hsm
    unfold f_X12_positions_38
    obtain ⟨m', p1, p2, p3, p4⟩ := sub_less (s := s) hm14
    rw [p2]
    have hsB := sB_t.mpr hsm
    have hQs : ∀ t, (prS m s t && Q s t) = ((t &&& m' == t) && Q s t) := fun t => by
      rw [p4]; unfold prS; rw [hsB, Bool.true_and]
    have inner : ∀ g t b xD, t < g → sbs t m' → ∃ xD', f_X12_positions_50 N (f_X12_positions_38 N xA fu) xA g (nI w) (nI m) (nI b) (nI s) (nI m') (nI t) xB xD = (if nI s = 0 then some (nI (b + fb_ct (fun t => (t &&& m' == t) && Q s t) (t + 1)), xB, xD') else f_X12_positions_38 N xA fu (nI w) (nI m) (nI (b + fb_ct (fun t => (t &&& m' == t) && Q s t) (t + 1))) ((nI s - 1) &&& nI m) xB xD') := by
      intro g
      induction g with
      | zero => intro t b xD h; omega
      | succ g ihg =>
        intro t b xD hg htm
        have htle := sbs_le htm
        have htm2 : sbs t m := by
          have := sB_t.mpr htm
          rw [p4] at this
          simp only [Bool.and_eq_true] at this
          exact sB_t.mp this.1
        have fin : ∀ (x : Nat) xD, x = (if Q s t = true then 1 else 0) → ∃ xD', f_X12_positions_83 N (f_X12_positions_38 N xA fu) (f_X12_positions_50 N (f_X12_positions_38 N xA fu) xA g) xA (nI w) (nI m) (nI s) (nI m') (nI t) (nI b) (nI x) xB xD = (if nI s = 0 then some (nI (b + fb_ct (fun t => (t &&& m' == t) && Q s t) (t + 1)), xB, xD') else f_X12_positions_38 N xA fu (nI w) (nI m) (nI (b + fb_ct (fun t => (t &&& m' == t) && Q s t) (t + 1))) ((nI s - 1) &&& nI m) xB xD') := by
          intro x xD hx
          unfold f_X12_positions_83
          have hsuc : fb_ct (fun t => (t &&& m' == t) && Q s t) (t + 1) = fb_ct (fun t => (t &&& m' == t) && Q s t) t + x := by
            rw [fb_ct_succ, sB_t.mpr htm, Bool.true_and, hx]
          rw [nadd]
          by_cases h0 : t = 0
          · rw [if_pos ((nz (by omega)).mpr h0)]
            rw [h0] at hsuc ⊢
            have e0 : fb_ct (fun t => (t &&& m' == t) && Q s t) 0 = 0 := rfl
            rw [hsuc, e0, Nat.zero_add]
            exact ⟨xD, rfl⟩
          · rw [if_neg (fun h9 => h0 ((nz (by omega)).mp h9)), int_down (by omega)]
            have hpr := sub_pred (a := t) (m := m') (by omega)
            obtain ⟨xD', e⟩ := ihg ((t - 1) &&& m') (b + x) xD (by omega) (sbs_and _ _)
            refine ⟨xD', ?_⟩
            rw [e, hsuc, ct_step (Q s) (by omega) h0 htm, show b + x + fb_ct (fun t => (t &&& m' == t) && Q s t) ((t - 1 &&& m') + 1) = b + (fb_ct (fun t => (t &&& m' == t) && Q s t) ((t - 1 &&& m') + 1) + x) by omega]
        unfold f_X12_positions_50 f_X12_positions_78
        by_cases h3 : w = 3
        · rw [h3, if_pos (show nI 3 = 3 from rfl)]
          have := fin 1 xD (by rw [hQ]; simp [h3])
          rw [h3] at this
          exact this
        · rw [if_neg (show ¬ nI w = 3 from fun h9 => h3 ((neq (b := 3) (by omega) (by omega)).mp h9))]
          obtain ⟨xD1, q1⟩ := has2_ok (by omega : 20 ≤ N) hM hm14 hL hm hdis hsm htm2 xD
          simp only [q1, Option.bind_some]
          have hh := hH s t
          by_cases h4 : hS u v L A B (gi xA 7) (opn L (gi xA 7) (gi xA 8)) s t = w
          · rw [if_pos (by rw [h4])]
            exact fin 1 xD1 (by rw [hQ]; simp [h4])
          · rw [if_neg (fun h9 => h4 ((neq (by omega) (by omega)).mp h9))]
            exact fin 0 xD1 (by rw [hQ]; simp [h3, h4])
    obtain ⟨xD1, e1⟩ := inner N m' a xD (by omega) (by unfold sbs; exact Nat.and_self m')
    have hfull : fb_ct (fun t => (t &&& m' == t) && Q s t) (m' + 1) = fb_ct (fun t => prS m s t && Q s t) 16384 := by
      have g : fb_ct (fun t => (t &&& m' == t) && Q s t) (m' + 1) = fb_ct (fun t => (t &&& m' == t) && Q s t) 16384 := (ct_gap (by omega) (fun t t1 t2 => by
        cases h : (t &&& m' == t)
        · rfl
        · have := sbs_le (sB_t.mp h); omega)).symm
      rw [g]
      exact fb_ct_cong (fun t _ => (hQs t).symm)
    rw [hfull] at e1
    rw [e1]
    have hsuc : sg (fun s => fb_ct (fun t => prS m s t && Q s t) 16384) (s + 1) = sg (fun s => fb_ct (fun t => prS m s t && Q s t) 16384) s + fb_ct (fun t => prS m s t && Q s t) 16384 := rfl
    by_cases h0 : s = 0
    · rw [if_pos ((nz (by omega)).mpr h0)]
      rw [h0] at hsuc ⊢
      have e0 : sg (fun s => fb_ct (fun t => prS m s t && Q s t) 16384) 0 = 0 := rfl
      rw [hsuc, e0, Nat.zero_add]
      exact ⟨xD1, rfl⟩
    · rw [if_neg (fun h9 => h0 ((nz (by omega)).mp h9)), int_down (by omega)]
      have hpr := sub_pred (a := s) (m := m) (by omega)
      obtain ⟨xD', e⟩ := ih ((s - 1) &&& m) (a + fb_ct (fun t => prS m s t && Q s t) 16384) xD1 (by omega) (sbs_and _ _)
      refine ⟨xD', ?_⟩
      have hgap : sg (fun s => fb_ct (fun t => prS m s t && Q s t) 16384) s = sg (fun s => fb_ct (fun t => prS m s t && Q s t) 16384) (((s - 1) &&& m) + 1) := sg_last (by omega) (fun t t1 t2 => fb_ct_zero.mpr (fun y _ => by
        cases h9 : (t &&& m == t)
        · unfold prS; rw [h9]; rfl
        · have := sub_down 14 s m t (by omega) hsm (sB_t.mp h9) t2
          omega))
      rw [e, hsuc, hgap]
      congr 3
      omega
end
theorem lo_positions {N : Nat} (hf : 200000 ≤ N) : LO_positions N (sI LKd) := by
  rintro uG uN uD uR uF uP uL uTT uA uM uH xA xB xC xD xE xF xG xH xI xJ xK xL x ⟨K, L, A, B, u, v, hC, hR⟩
  have hI : ∀ uL' xB' xD', LKd L A B u v uL' → sI LKd uG uN uD uR uF uP uL' uTT uA uM uH xA xB' xC xD' xE xF xG xH xI xJ xK xL := fun _ _ _ h => ⟨K, L, A, B, u, v, hC, sRest_L hR h⟩
  obtain ⟨hN, hM, hF, ⟨e7, e8, e11⟩, -, hJ, hG, hdis⟩ := id hC
  have hL : L ≤ 14 := (cN_8 hN).2.2.2
  have hc14 := qc_opn14 hL (gi uG 12) (gi uG 13)
  unfold f_X11_positions f_X12_positions
  rcases int_cases x 4 (by decide) with ⟨h, -⟩ | ⟨h, h2, -⟩ | ⟨w, hw, rfl⟩
  · rw [if_pos h, if_pos h]; exact ⟨_, rfl, _, rfl, rfl, hI _ _ _ hR.2.2.2⟩
  · have h3 : ¬ x ≤ 3 := fun h3 => by
      have a := Int32.le_iff_toInt_le.mp h3
      have b := Int32.le_iff_toInt_le.mp h2
      have c1 : (3 : Int32).toInt = 3 := by decide
      have c2 : (nI 4).toInt = 4 := by decide
      omega
    rw [if_neg h, if_neg h, if_neg h3, if_neg h3]; exact ⟨_, rfl, _, rfl, rfl, hI _ _ _ hR.2.2.2⟩
  · rw [if_neg (nI_ne_neg (by omega)).2.2, if_neg (nI_ne_neg (by omega)).2.2, if_pos (show nI w ≤ 3 from (nle (b := 3) (by omega) (by omega)).mpr (by omega)), if_pos (show nI w ≤ 3 from (nle (b := 3) (by omega) (by omega)).mpr (by omega))]
    simp only [small_ok hN, mOpenNow_ok hM, bits_ok, Option.bind_some]
    rw [e7, e8]
    by_cases h10 : qc (bt (opn L (gi uG 12) (gi uG 13))) ≤ 10
    · rw [if_pos (decide_eq_true h10), if_pos (show nI (qc (bt (opn L (gi uG 12) (gi uG 13)))) ≤ 10 from (nle (b := 10) (by omega) (by omega)).mpr h10)]
      obtain ⟨uL', l1, l2, l3⟩ := lookAt_ok (by omega : 2000 ≤ N) hN hR.2.2.2 (gi uG 12) (gi uG 13)
      obtain ⟨m, hm14, hO, hm, h14⟩ := opn_num hL (gi uG 12) (gi uG 13)
      have htm : tB m = bt (opn L (gi uG 12) (gi uG 13)) := by funext z; exact hm z
      obtain ⟨xD', q1⟩ := mpos_ok (xA := xA) hf hM hL hw hm14 (by rw [e7, e8]; exact hm) (by rw [e7, e8]; exact hdis) rfl (si xB 0 0) N m 0 xD (by omega) (by unfold sbs; exact Nat.and_self m)
      rw [e7, e8, Nat.zero_add] at q1
      have hfull : ∀ Q : Nat → Nat → Bool, sg (fun s => fb_ct (fun t => prS m s t && Q s t) 16384) (m + 1) = PC m Q := fun Q => (sg_last (by omega) (fun t t1 t2 => fb_ct_zero.mpr (fun y _ => by
        cases h9 : (t &&& m == t)
        · unfold prS; rw [h9]; rfl
        · have := sbs_le (sB_t.mp h9); omega))).symm
      have q1 : f_X12_positions_38 N xA N (nI w) (nI m) 0 (nI m) (si xB 0 0) xD = some (nI (PC m (fun s t => decide (w = 3) || decide (hS u v L A B (gi uG 12) (opn L (gi uG 12) (gi uG 13)) s t = w))), si xB 0 0, xD') := by
        rw [← hfull]; exact q1
      have p0 : f_X4_positionsOf N uL' 0 = some (nI (PC m (fun s _ => gvS u v L A B (gi uG 12) (opn L (gi uG 12) (gi uG 13)) 0 (tB s)))) := posOf_ok hf hN l3 (who := 0) (by decide) hm14 hm h14
      have p1 : f_X4_positionsOf N uL' 1 = some (nI (PC m (fun s _ => gvS u v L A B (gi uG 12) (opn L (gi uG 12) (gi uG 13)) 1 (tB s)))) := posOf_ok hf hN l3 (who := 1) (by decide) hm14 hm h14
      have p3 := allPos_ok (uL := uL') hf hc14 l3.1
      have pall := PC_all hm14 (by rw [htm]; exact hc14)
      rw [htm] at pall
      -- a joined set lies in what is not gone
      have hmono : ∀ s t, prS m s t = true → lkS u v L A B (gi uG 12) (tB s) = true → lkS u v L A B (gi uG 12) (qD (bt (opn L (gi uG 12) (gi uG 13))) (tB t)) = true := fun s t hp h9 => by
        unfold prS at hp
        simp only [Bool.and_eq_true, beq_iff_eq] at hp
        refine lkS_mono (fun z hz => ?_) h9
        have hz : s.testBit z = true := hz
        show (bt _ z && !t.testBit z) = true
        have a := sbs_iff.mp hp.1 z hz
        rw [hm] at a
        have b := congrArg (fun x => x.testBit z) hp.2.2
        simp only [Nat.testBit_and, Nat.zero_testBit, hz, Bool.and_true] at b
        rw [a, b]; rfl
      have r0 : PC m (fun s t => decide (hS u v L A B (gi uG 12) (opn L (gi uG 12) (gi uG 13)) s t = 0)) = PC m (fun s _ => gvS u v L A B (gi uG 12) (opn L (gi uG 12) (gi uG 13)) 0 (tB s)) := PC_cong (fun s t _ => by
        show _ = lkS u v L A B (gi uG 12) (tB s)
        unfold hS
        cases lkS u v L A B (gi uG 12) (tB s) <;> cases lkS u v L A B (gi uG 12) (qD (bt (opn L (gi uG 12) (gi uG 13))) (tB t)) <;> rfl)
      have r1 : PC m (fun s t => decide (hS u v L A B (gi uG 12) (opn L (gi uG 12) (gi uG 13)) s t = 1)) = PC m (fun s _ => gvS u v L A B (gi uG 12) (opn L (gi uG 12) (gi uG 13)) 1 (tB s)) := by
        rw [← PC_swap]
        exact PC_cong (fun s t hp => by
          show _ = !lkS u v L A B (gi uG 12) (qD (bt (opn L (gi uG 12) (gi uG 13))) (tB t))
          have := hmono s t hp
          unfold hS
          cases h1 : lkS u v L A B (gi uG 12) (tB s)
          · cases lkS u v L A B (gi uG 12) (qD (bt (opn L (gi uG 12) (gi uG 13))) (tB t)) <;> rfl
          · rw [this h1]; rfl)
      have rsum : PC m (fun _ _ => true) = (PC m (fun s t => decide (hS u v L A B (gi uG 12) (opn L (gi uG 12) (gi uG 13)) s t = 2)) + PC m (fun s t => decide (hS u v L A B (gi uG 12) (opn L (gi uG 12) (gi uG 13)) s t = 1))) + PC m (fun s t => decide (hS u v L A B (gi uG 12) (opn L (gi uG 12) (gi uG 13)) s t = 0)) := by
        rw [← PC_add (R := fun s t => decide (hS u v L A B (gi uG 12) (opn L (gi uG 12) (gi uG 13)) s t = 2) || decide (hS u v L A B (gi uG 12) (opn L (gi uG 12) (gi uG 13)) s t = 1)) (fun s t _ => ⟨rfl, by
          by_cases h9 : hS u v L A B (gi uG 12) (opn L (gi uG 12) (gi uG 13)) s t = 2
          · rw [h9]; rfl
          · simp [h9]⟩)]
        refine PC_add (fun s t _ => ?_)
        unfold hS
        cases lkS u v L A B (gi uG 12) (tB s) <;> cases lkS u v L A B (gi uG 12) (qD (bt (opn L (gi uG 12) (gi uG 13))) (tB t)) <;> exact ⟨rfl, rfl⟩
      rw [hO, q1]
      simp only [l1, Option.bind_some]
      have hdec : ∀ k, k < 3 → PC m (fun s t => decide (k = 3) || decide (hS u v L A B (gi uG 12) (opn L (gi uG 12) (gi uG 13)) s t = k)) = PC m (fun s t => decide (hS u v L A B (gi uG 12) (opn L (gi uG 12) (gi uG 13)) s t = k)) := fun k hk => PC_cong (fun s t _ => by
        have : ¬ k = 3 := by omega
        simp [this])
      rcases (show w = 0 ∨ w = 1 ∨ w = 2 ∨ w = 3 by omega) with e | e | e | e
      · subst e
        rw [if_pos (show nI 0 = 0 from rfl), p0]
        refine ⟨_, rfl, _, rfl, ?_, hI _ _ _ l2⟩
        show nI _ = nI _
        rw [hdec 0 (by decide), r0]
      · subst e
        rw [if_neg (by decide), if_pos (show nI 1 = 1 from rfl), p1]
        refine ⟨_, rfl, _, rfl, ?_, hI _ _ _ l2⟩
        show nI _ = nI _
        rw [hdec 1 (by decide), r1]
      · subst e
        rw [if_neg (by decide), if_neg (by decide), if_pos (show nI 2 = 2 from rfl)]
        unfold f_X4_positionsOfNobody
        simp only [p3, p0, p1, Option.bind_some]
        refine ⟨_, rfl, _, rfl, ?_, hI _ _ _ l2⟩
        show (nI _ - nI _) - nI _ = nI _
        rw [hdec 2 (by decide), ← pall, rsum, r0, r1, nsub, nsub]
      · subst e
        rw [if_neg (by decide), if_neg (by decide), if_neg (by decide), p3]
        refine ⟨_, rfl, _, rfl, ?_, hI _ _ _ l2⟩
        show nI _ = nI _
        rw [← pall]
        congr 1
    · rw [if_neg (fun h3 => h10 (of_decide_eq_true h3)), if_neg (show ¬ nI (qc (bt (opn L (gi uG 12) (gi uG 13)))) ≤ 10 from fun h3 => h10 ((nle (b := 10) (by omega) (by omega)).mp h3))]
      exact ⟨_, rfl, _, rfl, rfl, hI _ _ _ hR.2.2.2⟩
