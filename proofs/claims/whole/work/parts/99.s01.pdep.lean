/-! ===== sets of open lines, numbered anew ===== -/
def tB (t : Nat) : BS := fun i => t.testBit i
def pS (O : Int32) (n : Nat) : BS := fun z => bt O z && n.testBit (fb_ct (bt O) z)
theorem pS_0 (O : Int32) : pS O 0 = q0 := by
  funext z
  unfold pS q0
  rw [Nat.zero_testBit]; simp
theorem tB_0 : tB 0 = q0 := by
  funext z
  unfold tB q0
  exact Nat.zero_testBit z
theorem one_bit (d : Nat) : (1 : Nat).testBit d = decide (d = 0) := by
  cases d with
  | zero => rfl
  | succ d => rw [Nat.testBit_succ]; simp
theorem up_bit {k r : Nat} (hk : k < 2 ^ r) (i : Nat) : (2 ^ r + k).testBit i = (k.testBit i || decide (i = r)) := by
  have h := Nat.testBit_two_pow_mul_add 1 (b := k) (i := r) hk i
  rw [Nat.mul_one] at h
  rw [h]
  by_cases h1 : i < r
  · rw [if_pos h1]
    have : ¬ i = r := by omega
    simp [this]
  · rw [if_neg h1, one_bit, tb_small hk (by omega)]
    by_cases e : i = r
    · simp [e]
    · have : ¬ i - r = 0 := by omega
      simp [e, this]
theorem pS_up {O : Int32} {z : Nat} (hz : bt O z = true) {k : Nat} (hk : k < 2 ^ fb_ct (bt O) z) : pS O (2 ^ fb_ct (bt O) z + k) = qI (pS O k) z := by
  funext i
  show (bt O i && (2 ^ fb_ct (bt O) z + k).testBit (fb_ct (bt O) i)) = ((bt O i && k.testBit (fb_ct (bt O) i)) || decide (i = z))
  rw [up_bit hk]
  cases ho : bt O i
  · have : ¬ i = z := fun e => by rw [e, hz] at ho; cases ho
    simp [this]
  · by_cases e : i = z
    · rw [e]; simp
    · have : ¬ fb_ct (bt O) i = fb_ct (bt O) z := fun e2 => e (fb_ct_kth_one ho hz e2)
      simp [e, this]
theorem sB_t {x m : Nat} : (x &&& m == x) = true ↔ sbs x m := by unfold sbs; exact beq_iff_eq
theorem sB_eq {a b : Bool} (h : a = true ↔ b = true) : a = b := by cases a <;> cases b <;> simp_all
theorem cnt_pd {O : Int32} {m : Nat} (hm : ∀ z, m.testBit z = bt O z) : ∀ z (Q : BS → Bool), fb_ct (fun n => Q (pS O n)) (2 ^ fb_ct (bt O) z) = fb_ct (fun t => (t &&& m == t) && Q (tB t)) (2 ^ z)
  | 0, Q => by
    show fb_ct _ 1 = fb_ct _ 1
    rw [fb_ct_succ, fb_ct_succ, pS_0, tB_0]
    show 0 + _ = 0 + _
    simp
  | z + 1, Q => by
    rw [fb_ct_succ, Nat.pow_succ 2 z, Nat.mul_two, fb_ct_split]
    have hs : ∀ k, k < 2 ^ z → ((2 ^ z + k) &&& m == 2 ^ z + k) = (bt O z && (k &&& m == k)) := fun k hk => by
      refine sB_eq ?_
      rw [sB_t, Bool.and_eq_true, sB_t]
      constructor
      · intro h
        refine ⟨?_, sbs_iff.mpr (fun i hi => sbs_iff.mp h i (by rw [up_bit hk, hi]; rfl))⟩
        have := sbs_iff.mp h z (by rw [up_bit hk]; simp)
        rw [hm] at this; exact this
      · rintro ⟨ho, h⟩
        refine sbs_iff.mpr (fun i hi => ?_)
        rw [up_bit hk] at hi
        by_cases e : i = z
        · rw [e, hm]; exact ho
        · exact sbs_iff.mp h i (by simpa [e] using hi)
    have hu : ∀ k, k < 2 ^ z → tB (2 ^ z + k) = qI (tB k) z := fun k hk => by
      funext i
      show (2 ^ z + k).testBit i = (k.testBit i || decide (i = z))
      exact up_bit hk i
    cases ho : bt O z
    · simp only [Bool.false_eq_true, ↓reduceIte, Nat.add_zero]
      have hz : fb_ct (fun k => ((2 ^ z + k) &&& m == 2 ^ z + k) && Q (tB (2 ^ z + k))) (2 ^ z) = 0 := fb_ct_zero.mpr (fun k hk => by rw [hs k hk, ho]; rfl)
      rw [cnt_pd hm z Q, hz]
      rfl
    · simp only [↓reduceIte]
      rw [Nat.pow_succ, Nat.mul_two, fb_ct_split, cnt_pd hm z Q]
      congr 1
      have e1 : fb_ct (fun k => Q (pS O (2 ^ fb_ct (bt O) z + k))) (2 ^ fb_ct (bt O) z) = fb_ct (fun k => (fun S => Q (qI S z)) (pS O k)) (2 ^ fb_ct (bt O) z) := fb_ct_cong (fun k hk => by rw [pS_up ho hk])
      rw [e1, cnt_pd hm z (fun S => Q (qI S z))]
      exact fb_ct_cong (fun k hk => by rw [hs k hk, ho, hu k hk]; rfl)
/-- how many lines: as many as bits -/
theorem pS_ct (O : Int32) (n : Nat) : ∀ z, fb_ct (pS O n) z = fb_ct (fun i => n.testBit i) (fb_ct (bt O) z)
  | 0 => rfl
  | z + 1 => by
    rw [fb_ct_succ, fb_ct_succ, pS_ct O n z]
    show fb_ct (fun i => n.testBit i) (fb_ct (bt O) z) + (if (bt O z && n.testBit (fb_ct (bt O) z)) = true then 1 else 0) = _
    cases ho : bt O z
    · simp
    · simp only [Bool.true_and, ↓reduceIte]
      rw [fb_ct_succ]
def pcn (n : Nat) : Nat := fb_ct (fun i => n.testBit i) 14
theorem pcn_bits {n c : Nat} (hc : c ≤ 14) (hn : n < 2 ^ c) : fb_ct (fun i => n.testBit i) c = pcn n := (ct_gap hc (fun t t1 t2 => tb_small hn t1)).symm
theorem pS_qc {O : Int32} (h14 : ∀ z, bt O z = true → z < 14) {n : Nat} (hn : n < 2 ^ qc (bt O)) : qc (pS O n) = pcn n := by
  have h1 := pS_ct O n 32
  have hc : fb_ct (bt O) 32 ≤ 14 := by
    have : fb_ct (bt O) 32 = fb_ct (bt O) 14 := (ct14 h14).symm
    rw [this]; exact fb_ct_le _ 14
  show fb_ct (pS O n) 32 = _
  rw [h1]
  exact pcn_bits hc hn
/-- the lines as one number; the order stays -/
theorem pS_num {O : Int32} (h14 : ∀ z, bt O z = true → z < 14) (n : Nat) : ∃ t, t < 2 ^ 14 ∧ tB t = pS O n := by
  refine ⟨dV 1 (fun z => if pS O n z = true then 1 else 0) 14, ?_, ?_⟩
  · exact dV_lt (fun j => by split <;> decide) 14
  · funext z
    unfold tB
    rw [dV_bit (by decide) (fun j => by split <;> decide), Nat.div_one, Nat.mod_one]
    cases h : pS O n z
    · rw [if_neg (by decide)]; simp
    · rw [if_pos rfl]
      have : z < 14 := h14 z (by unfold pS at h; simp at h; exact h.1)
      simp [this]
theorem pS_lt {O : Int32} {n n' t t' : Nat} (hn' : n' < 2 ^ qc (bt O)) (h : n < n') (ht : tB t = pS O n) (ht' : tB t' = pS O n') : t < t' := by
  obtain ⟨p, p1, p2, p3, p4⟩ := top_bit (qc (bt O)) n n' hn' h
  obtain ⟨z, -, z2, z3⟩ := fb_ct_kth (p := bt O) (k := p) (n := 32) p1
  have e : ∀ x k i, tB x = pS O k → x.testBit i = (bt O i && k.testBit (fb_ct (bt O) i)) := fun x k i hx => congrFun hx i
  refine lt_of_bit z ?_ ?_ (fun j hj => ?_)
  · rw [e t n z ht, z3, p3]; simp
  · rw [e t' n' z ht', z2, z3, p2]; rfl
  · rw [e t n j ht, e t' n' j ht']
    cases ho : bt O j
    · rfl
    · rw [p4]
      have h1 := fb_ct_mono (bt O) (show z + 1 ≤ j by omega)
      rw [fb_ct_succ, z2, z3] at h1
      simp at h1
      omega
/-- each set of open lines is one of them -/
theorem pS_all {O : Int32} {m : Nat} (hm : ∀ z, m.testBit z = bt O z) {t : Nat} (ht : sbs t m) : ∃ n, n < 2 ^ qc (bt O) ∧ tB t = pS O n := by
  have hrank : ∀ j, j < qc (bt O) → ∃ z, bt O z = true ∧ fb_ct (bt O) z = j := fun j hj => by
    obtain ⟨z, -, z2, z3⟩ := fb_ct_kth (p := bt O) (k := j) (n := 32) hj
    exact ⟨z, z2, z3⟩
  have hex : ∀ j, ∃ b : Nat, b < 2 ∧ (∀ z, bt O z = true → fb_ct (bt O) z = j → (b = 1 ↔ t.testBit z = true)) := fun j => by
    by_cases h : ∃ z, bt O z = true ∧ fb_ct (bt O) z = j ∧ t.testBit z = true
    · obtain ⟨z, z1, z2, z3⟩ := h
      exact ⟨1, by omega, fun y y1 y2 => by rw [fb_ct_kth_one y1 z1 (by rw [y2, z2])]; simp [z3]⟩
    · exact ⟨0, by omega, fun y y1 y2 => ⟨fun h9 => by omega, fun h9 => absurd ⟨y, y1, y2, h9⟩ h⟩⟩
  obtain ⟨b, hb⟩ := Classical.axiomOfChoice hex
  have hb2 : ∀ j, b j < 2 ^ 1 := fun j => (hb j).1
  refine ⟨dV 1 b (qc (bt O)), ?_, ?_⟩
  · have := dV_lt hb2 (qc (bt O))
    rwa [Nat.one_mul] at this
  · funext z
    show t.testBit z = (bt O z && (dV 1 b (qc (bt O))).testBit (fb_ct (bt O) z))
    cases ho : bt O z
    · cases h : t.testBit z
      · rfl
      · have := sbs_iff.mp ht z h
        rw [hm, ho] at this; cases this
    · rw [dV_bit (by decide) hb2, Nat.div_one, Nat.mod_one, Bool.true_and, Nat.one_mul]
      have hlt : fb_ct (bt O) z < qc (bt O) := by
        have hz32 : z < 32 := by
          by_cases h : z < 32
          · exact h
          · rw [b_big (by omega)] at ho; cases ho
        have h1 := fb_ct_mono (bt O) (show z + 1 ≤ 32 by omega)
        rw [fb_ct_succ, ho] at h1
        simp at h1
        exact h1
      have h2 := (hb (fb_ct (bt O) z)).2 z ho rfl
      have h3 := (hb (fb_ct (bt O) z)).1
      rw [decide_eq_true hlt, Bool.true_and]
      cases h : t.testBit z
      · have : b (fb_ct (bt O) z) = 0 := by
          by_cases h9 : b (fb_ct (bt O) z) = 1
          · rw [h2.mp h9] at h; cases h
          · omega
        rw [this]; rfl
      · rw [h2.mpr h]; rfl
