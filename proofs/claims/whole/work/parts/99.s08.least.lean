/-! ===== linesOf, givesIt, least; wall, road ===== -/
section
variable {N : Nat} {uG uN uL xA : sx_C} {K L A B : Nat} {u v : Nat → Nat}
theorem linesOf_ok (hf : 2000 ≤ N) (hL : L ≤ 14) {J G : Int32} (h : stOK u v L A B J G uL) {n : Nat} (hn : n < 16384) : ∃ R, f_X4_linesOf N uL (nI n) = some R ∧ bt R = pS (opn L J G) n := by
  have hc14 := qc_opn14 hL J G
  have h8 := h.1
  have h3 := h.2.1
  obtain ⟨O, hO⟩ : ∃ O, O = opn L J G := ⟨_, rfl⟩
  rw [← hO] at h8 h3 hc14 ⊢
  have loop : ∀ fu i x, qc (bt O) - i < fu → i ≤ qc (bt O) → (∀ z, bt x z = (pS O n z && decide (fb_ct (bt O) z < i))) → ∃ R, f_X4_linesOf_4 N uL fu (nI n) x (nI i) = some R ∧ bt R = pS O n := by
    intro fu
    induction fu with
    | zero => intro i x hn; omega
    | succ fu ih =>
      intro i x hfu hi hx
      unfold f_X4_linesOf_4 f_X4_linesOf_37
      rw [h8]
      by_cases hc : qc (bt O) ≤ i
      · rw [if_pos ((nle (by omega) (by omega)).mpr hc)]
        refine ⟨x, rfl, ?_⟩
        funext z
        rw [hx]
        cases ho : bt O z
        · have : pS O n z = false := by unfold pS; rw [ho]; rfl
          rw [this]; rfl
        · have := rank_lt ho
          have h9 : fb_ct (bt O) z < i := by omega
          simp [h9]
      · rw [if_neg (fun h9 => hc ((nle (by omega) (by omega)).mp h9)), if_neg (show ¬ (14 : Int32) ≤ nI i from fun h => by have := (nle (a := 14) (by omega) (by omega)).mp h; omega), has_ok _ (by omega), rd_ok (by omega) (by decide)]
        simp only [Option.bind_some]
        obtain ⟨y, hy, hy2, hy3⟩ := fb_ct_kth (p := bt O) (n := 32) (show i < fb_ct (bt O) 32 by have : fb_ct (bt O) 32 = qc (bt O) := rfl; omega)
        have hgy : ga uL 3 i = nI y := by rw [← hy3]; exact h3 y hy2
        rw [show nI i + 1 = nI (i + 1) from nadd i 1, hgy, bt_nI hn]
        have hrk : ∀ z, bt O z = true → (decide (fb_ct (bt O) z < i + 1) = (decide (fb_ct (bt O) z < i) || decide (z = y))) := fun z hz => by
          by_cases e : z = y
          · subst e
            have : fb_ct (bt O) z < i + 1 := by omega
            simp [this]
          · have h9 : ¬ fb_ct (bt O) z = i := fun h9 => e (fb_ct_kth_one hz hy2 (by omega))
            by_cases h10 : fb_ct (bt O) z < i
            · have : fb_ct (bt O) z < i + 1 := by omega
              simp [h10, this]
            · have : ¬ fb_ct (bt O) z < i + 1 := by omega
              simp [h10, this, e]
        cases hb : tB n i
        · rw [if_neg (by decide)]
          refine ih (i + 1) x (by omega) (by omega) (fun z => ?_)
          rw [hx]
          unfold pS
          cases ho : bt O z
          · rfl
          · rw [hrk z ho]
            by_cases e : z = y
            · subst e
              have : n.testBit (fb_ct (bt O) z) = false := by rw [hy3]; exact hb
              rw [this]; simp
            · simp [e]
        · rw [if_pos rfl]
          refine ih (i + 1) _ (by omega) (by omega) (fun z => ?_)
          by_cases hz : z < 32
          · rw [b_or, hx, h_bit hy hz]
            unfold pS
            cases ho : bt O z
            · have : ¬ z = y := fun e => by rw [e, hy2] at ho; cases ho
              simp [this]
            · rw [hrk z ho]
              by_cases e : z = y
              · subst e
                have : n.testBit (fb_ct (bt O) z) = true := by rw [hy3]; exact hb
                rw [this]; simp
              · simp [e]
          · unfold pS
            rw [b_big (by omega), b_big (by omega)]; rfl
  unfold f_X4_linesOf
  exact loop N 0 0 (by omega) (by omega) (fun z => by
    have : bt 0 z = false := by
      by_cases hz : z < 32
      · have := h_nI (n := 0) z hz
        rw [Nat.zero_testBit] at this
        exact this
      · exact b_big (by omega)
    rw [this]; simp)
theorem lall_ok {c : Nat} (hc : c ≤ 14) (h8 : gi uL 8 = nI c) : f_X4_all uL = some (nI (2 ^ c - 1)) := by
  unfold f_X4_all
  rw [h8, shl1_dec c (by omega)]
  have := nsub (2 ^ c - 1) 1
  rw [Nat.sub_add_cancel (Nat.two_pow_pos c)] at this
  have this : nI (2 ^ c) - 1 = nI (2 ^ c - 1) := this
  rw [this]
theorem comp_nI {c n : Nat} (hc : c ≤ 14) (hn : n < 2 ^ c) : nI (2 ^ c - 1) &&& (nI n ^^^ (-1)) = nI (2 ^ c - 1 - n) := by
  apply b_ext
  intro i hi
  rw [b_and, h_not _ hi, h_nI i hi, h_nI i hi, h_nI i hi, comp_bit hn, Nat.testBit_two_pow_sub_one]
theorem two14 {c : Nat} (hc : c ≤ 14) : 2 ^ c ≤ 16384 := by
  have : 2 ^ c ≤ 2 ^ 14 := Nat.pow_le_pow_right (by decide) hc
  omega
theorem givesIt_ok (hL : L ≤ 14) {J G : Int32} (h : stOK u v L A B J G uL) {n who : Nat} (hw : who < 2) (hn : n < 2 ^ qc (bt (opn L J G))) : f_X4_givesIt uL (nI who) (nI n) = some (gvS u v L A B J (opn L J G) who (pS (opn L J G) n)) := by
  have hc14 := qc_opn14 hL J G
  have h14 := two14 hc14
  have hwd := h.2.2.1
  unfold f_X4_givesIt
  rcases (show who = 0 ∨ who = 1 by omega) with e | e
  · rw [e, if_pos (show nI 0 = 0 from rfl), isLucky_ok (by omega), Option.bind_some, hwd n (by omega), decide_eq_true hn]
    rfl
  · rw [e, if_neg (by decide), lall_ok hc14 h.1]
    simp only [Option.bind_some]
    have hp := Nat.two_pow_pos (qc (bt (opn L J G)))
    rw [comp_nI hc14 hn, isLucky_ok (by omega), Option.bind_some, hwd _ (by omega), decide_eq_true (by omega : 2 ^ qc (bt (opn L J G)) - 1 - n < 2 ^ qc (bt (opn L J G))), Bool.true_and, pS_comp hn]
    show _ = some (!lkS u v L A B J (qD (bt (opn L J G)) (pS (opn L J G) n)))
    cases lkS u v L A B J (qD (bt (opn L J G)) (pS (opn L J G) n)) <;> rfl
theorem qc_pcn {n : Nat} (hn : n < 16384) : qc (bt (nI n)) = pcn n := by
  rw [bt_nI hn]
  exact (ct_gap (a := 14) (b := 32) (by omega) (fun t t1 t2 => tb_small (k := 14) hn t1))
/-- the least of the smallest sets, by the class's numbers -/
theorem least_ok (hf : 200000 ≤ N) (hN : cNet uN K L A B u v) {J G : Int32} (h : stOK u v L A B J G uL) {who : Nat} (hw : who < 2) (hex : ∃ n, n < 2 ^ qc (bt (opn L J G)) ∧ gvS u v L A B J (opn L J G) who (pS (opn L J G) n) = true) : ∃ R n, f_X4_least N uL (nI who) = some R ∧ n < 2 ^ qc (bt (opn L J G)) ∧ bt R = pS (opn L J G) n ∧ gvS u v L A B J (opn L J G) who (pS (opn L J G) n) = true ∧ ∀ n', n' < 2 ^ qc (bt (opn L J G)) → gvS u v L A B J (opn L J G) who (pS (opn L J G) n') = true → pcn n < pcn n' ∨ (pcn n = pcn n' ∧ n ≤ n') := by
  have hL : L ≤ 14 := (cN_8 hN).2.2.2
  have hc14 := qc_opn14 hL J G
  have h14 := two14 hc14
  have h8 := h.1
  have hsz := fun k hk => sized_ok (k := k) (by omega : 2000 ≤ N) hN h hw hk
  have hgv := fun n hn => givesIt_ok (n := n) hL h hw hn
  have hln := fun n hn => linesOf_ok (n := n) (by omega : 2000 ≤ N) hL h hn
  obtain ⟨O, hO⟩ : ∃ O, O = opn L J G := ⟨_, rfl⟩
  rw [← hO] at h8 hc14 h14 hsz hgv hln hex ⊢
  have hpc : ∀ n, n < 2 ^ qc (bt O) → pcn n ≤ qc (bt O) := fun n hn => by
    have := pcn_bits hc14 hn
    have h9 := fb_ct_le (fun i => n.testBit i) (qc (bt O))
    omega
  have inner : ∀ k, k ≤ qc (bt O) → (∀ n', n' < 2 ^ qc (bt O) → gvS u v L A B J O who (pS O n') = true → k ≤ pcn n') → (∃ n', n' < 2 ^ qc (bt O) ∧ gvS u v L A B J O who (pS O n') = true ∧ pcn n' = k) → ∀ fu i, 2 ^ qc (bt O) - i < fu → i ≤ 2 ^ qc (bt O) → (∀ n', n' < i → gvS u v L A B J O who (pS O n') = true → ¬ pcn n' = k) → ∃ R n, f_X4_leastOf_10 N uL fu (nI who) (nI k) (nI (2 ^ qc (bt O))) (nI i) = some R ∧ n < 2 ^ qc (bt O) ∧ bt R = pS O n ∧ gvS u v L A B J O who (pS O n) = true ∧ ∀ n', n' < 2 ^ qc (bt O) → gvS u v L A B J O who (pS O n') = true → pcn n < pcn n' ∨ (pcn n = pcn n' ∧ n ≤ n') := by
    intro k hk hlow hexk fu
    induction fu with
    | zero => intro i hn; omega
    | succ fu ih =>
      intro i hfu hi hno
      unfold f_X4_leastOf_10 f_X4_leastOf_42
      by_cases hc : 2 ^ qc (bt O) ≤ i
      · obtain ⟨n', a1, a2, a3⟩ := hexk
        exact absurd a3 (hno n' (by omega) a2)
      · rw [if_neg (fun h9 => hc ((nle (by omega) (by omega)).mp h9)), bitCount_ok, Option.bind_some, qc_pcn (by omega), show nI i + 1 = nI (i + 1) from nadd i 1]
        have hpi := hpc i (by omega)
        by_cases hk2 : pcn i = k
        · rw [if_pos (by rw [hk2]), hgv i (by omega), Option.bind_some]
          cases hg : gvS u v L A B J O who (pS O i)
          · rw [if_neg (by decide)]
            exact ih (i + 1) (by omega) (by omega) (fun n' h1 h2 => by
              by_cases e : n' = i
              · rw [e, hg] at h2; cases h2
              · exact hno n' (by omega) h2)
          · obtain ⟨R, r1, r2⟩ := hln i (by omega)
            rw [if_pos rfl, r1]
            refine ⟨R, i, rfl, by omega, r2, hg, fun n' h1 h2 => ?_⟩
            have a := hlow n' h1 h2
            by_cases e : pcn n' = k
            · have : ¬ n' < i := fun h9 => hno n' h9 h2 e
              omega
            · omega
        · rw [if_neg (fun h9 => hk2 ((neq (by omega) (by omega)).mp h9))]
          exact ih (i + 1) (by omega) (by omega) (fun n' h1 h2 => by
            by_cases e : n' = i
            · rw [e]; exact hk2
            · exact hno n' (by omega) h2)
  have outer : ∀ fu k, qc (bt O) + 1 - k < fu → k ≤ qc (bt O) + 1 → (∀ n', n' < 2 ^ qc (bt O) → gvS u v L A B J O who (pS O n') = true → k ≤ pcn n') → ∃ R n, f_X4_least_2 N uL fu (nI who) (nI k) = some R ∧ n < 2 ^ qc (bt O) ∧ bt R = pS O n ∧ gvS u v L A B J O who (pS O n) = true ∧ ∀ n', n' < 2 ^ qc (bt O) → gvS u v L A B J O who (pS O n') = true → pcn n < pcn n' ∨ (pcn n = pcn n' ∧ n ≤ n') := by
    intro fu
    induction fu with
    | zero => intro k hn; omega
    | succ fu ih =>
      intro k hfu hk hlow
      unfold f_X4_least_2
      rw [h8]
      by_cases hc : qc (bt O) < k
      · obtain ⟨n', a1, a2⟩ := hex
        have := hlow n' a1 a2
        have := hpc n' a1
        omega
      · rw [if_neg (fun h9 => hc ((nlt (by omega) (by omega)).mp h9)), hsz k (by omega), Option.bind_some]
        have hszle : szN u v L A B J O who k ≤ 16384 := by
          have : szN u v L A B J O who k ≤ 2 ^ qc (bt O) := fb_ct_le _ _
          omega
        by_cases h0 : szN u v L A B J O who k = 0
        · rw [if_pos (show nI (szN u v L A B J O who k) ≤ 0 from (nle (b := 0) (by omega) (by omega)).mpr (by omega)), show nI k + 1 = nI (k + 1) from nadd k 1]
          refine ih (k + 1) (by omega) (by omega) (fun n' h1 h2 => ?_)
          have a := hlow n' h1 h2
          have b := fb_ct_zero.mp h0 n' h1
          rw [h2, Bool.true_and] at b
          have : ¬ pcn n' = k := beq_eq_false_iff_ne.mp b
          omega
        · rw [if_neg (show ¬ nI (szN u v L A B J O who k) ≤ 0 from fun h9 => h0 (by have := (nle (b := 0) (by omega) (by omega)).mp h9; omega))]
          have hexk : ∃ n', n' < 2 ^ qc (bt O) ∧ gvS u v L A B J O who (pS O n') = true ∧ pcn n' = k := by
            obtain ⟨i, hi, hi2, -⟩ := fb_ct_kth (p := fun n => gvS u v L A B J O who (pS O n) && (pcn n == k)) (k := 0) (n := 2 ^ qc (bt O)) (Nat.pos_of_ne_zero h0)
            simp only [Bool.and_eq_true, beq_iff_eq] at hi2
            exact ⟨i, hi, hi2⟩
          unfold f_X4_leastOf
          rw [h8, shl1_dec _ (by omega)]
          obtain ⟨R, n, r1, r2⟩ := inner k (by omega) hlow hexk N 0 (by omega) (by omega) (fun n' h9 => by omega)
          have r1 : f_X4_leastOf_10 N uL N (nI who) (nI k) (nI (2 ^ qc (bt O))) 0 = some R := r1
          rw [r1]
          exact ⟨R, n, rfl, r2⟩
  unfold f_X4_least
  exact outer N 0 (by omega) (by omega) (fun _ _ _ => by omega)
/-- the model's scan for the least -/
def bstS (m : Nat) (P : Nat → Bool) (lo t0 : Nat) : Prop := sbs t0 m ∧ P t0 = true ∧ ∀ t, sbs t m → P t = true → lo ≤ t → qc (tB t0) < qc (tB t) ∨ (qc (tB t0) = qc (tB t) ∧ t0 ≤ t)
def stS (m : Nat) (P : Nat → Bool) (lo : Nat) (x : Int32) : Prop := (x = -1 ∧ ∀ t, sbs t m → lo ≤ t → P t = false) ∨ ∃ t0, x = nI t0 ∧ bstS m P lo t0
theorem leastSo_ok (hf : 200000 ≤ N) (hM : mNet xA K L A B u v) {m : Nat} (hm14 : m < 16384) {P : Nat → Bool} {how : Int32} {xE : sx_C} (hP : ∀ t, sbs t m → ∀ xD xF, ∃ xD' xF', f_X12_isSo N xA xE how (nI t) xD xF = some (P t, xD', xF')) :
    ∀ fu s x xD xF, s < fu → sbs s m → stS m P (s + 1) x → ∃ R xD' xF', f_X12_leastSo_10 N xA xE fu how (nI m) x (nI s) xD xF = some (R, xD', xF') ∧ stS m P 0 R := by
  intro fu
  induction fu with
  | zero => intro s x xD xF h; omega
  | succ fu ih =>
    intro s x xD xF hs hsm hst
    have hsle := sbs_le hsm
    have fin : ∀ x xD xF, stS m P s x → ∃ R xD' xF', f_X12_leastSo_40 N (f_X12_leastSo_10 N xA xE fu) xA xE how (nI m) x (nI s) xD xF = some (R, xD', xF') ∧ stS m P 0 R := by
      intro x xD xF hx
      unfold f_X12_leastSo_40
      by_cases h0 : s = 0
      · rw [if_pos ((nz (by omega)).mpr h0)]
        rw [h0] at hx
        exact ⟨x, xD, xF, rfl, hx⟩
      · rw [if_neg (fun h9 => h0 ((nz (by omega)).mp h9)), int_down (by omega)]
        have hpr := sub_pred (a := s) (m := m) (by omega)
        have hup : ∀ t, sbs t m → ((s - 1) &&& m) + 1 ≤ t → s ≤ t := fun t h1 h2 => by
          by_cases h3 : t < s
          · have := sub_down 14 s m t (by omega) hsm h1 h3
            omega
          · omega
        refine ih ((s - 1) &&& m) x xD xF (by omega) (sbs_and _ _) ?_
        rcases hx with ⟨a, b⟩ | ⟨t0, a, b, c, d⟩
        · exact Or.inl ⟨a, fun t h1 h2 => b t h1 (hup t h1 h2)⟩
        · exact Or.inr ⟨t0, a, b, c, fun t h1 h2 h3 => d t h1 h2 (hup t h1 h3)⟩
    have test : ∀ xD xF, (∀ t0, x = nI t0 → bstS m P (s + 1) t0 → qc (tB s) ≤ qc (tB t0)) → ∃ R xD' xF', f_X12_leastSo_27 N (f_X12_leastSo_10 N xA xE fu) xA xE how (nI m) x (nI s) xD xF = some (R, xD', xF') ∧ stS m P 0 R := by
      intro xD xF hle
      unfold f_X12_leastSo_27
      obtain ⟨xD1, xF1, i1⟩ := hP s hsm xD xF
      simp only [i1, Option.bind_some]
      cases hPs : P s
      · rw [if_neg (by decide)]
        refine fin x xD1 xF1 ?_
        rcases hst with ⟨a, b⟩ | ⟨t0, a, b, c, d⟩
        · refine Or.inl ⟨a, fun t h1 h2 => ?_⟩
          by_cases e : t = s
          · rw [e]; exact hPs
          · exact b t h1 (by omega)
        · refine Or.inr ⟨t0, a, b, c, fun t h1 h2 h3 => ?_⟩
          by_cases e : t = s
          · rw [e, hPs] at h2; cases h2
          · exact d t h1 h2 (by omega)
      · rw [if_pos rfl]
        refine fin (nI s) xD1 xF1 (Or.inr ⟨s, rfl, hsm, hPs, fun t h1 h2 h3 => ?_⟩)
        by_cases e : t = s
        · rw [e]; omega
        · rcases hst with ⟨a, b⟩ | ⟨t0, a, b⟩
          · rw [b t h1 (by omega)] at h2; cases h2
          · have h4 := hle t0 a b
            have := b.2.2 t h1 h2 (by omega)
            omega
    unfold f_X12_leastSo_10
    by_cases h1 : x = -1
    · rw [if_pos h1]
      refine test xD xF (fun t0 a b => ?_)
      have := sbs_le b.1
      rw [h1] at a
      exact absurd a.symm (nI_ne_neg (by omega)).1
    · rw [if_neg h1]
      rcases hst with ⟨a, b⟩ | ⟨t0, a, b⟩
      · exact absurd a h1
      · have ht0 := sbs_le b.1
        have q1 := qc_le32 (tB s)
        have q2 := qc_le32 (tB t0)
        rw [bits_ok, Option.bind_some, bits_ok, Option.bind_some, bt_nI (by omega), a, bt_nI (by omega)]
        by_cases h2 : qc (tB t0) < qc (tB s)
        · rw [if_pos ((nlt (by omega) (by omega)).mpr h2)]
          refine fin _ xD xF (Or.inr ⟨t0, rfl, b.1, b.2.1, fun t h3 h4 h5 => ?_⟩)
          by_cases e : t = s
          · rw [e]; exact Or.inl h2
          · exact b.2.2 t h3 h4 (by omega)
        · rw [if_neg (fun h9 => h2 ((nlt (by omega) (by omega)).mp h9))]
          have := test xD xF (fun t1 a1 _ => by
            have h6 : t1 = t0 := by
              rename_i hb1
              have := sbs_le hb1.1
              rw [a] at a1
              exact ((neq (by omega) (by omega)).mp a1).symm
            rw [h6]; omega)
          rw [a] at this
          exact this
end
theorem least_both {N : Nat} (hf : 200000 ≤ N) {who : Nat} (hw : who < 2) {K L A B : Nat} {u v : Nat → Nat} {uG uN uF uL uH xA : sx_C} (hC : sCore K L A B u v uG uN uF xA) {uL' : sx_C} (l3 : stOK u v L A B (gi uG 12) (gi uG 13) uL') (hex : gvS u v L A B (gi uG 12) (opn L (gi uG 12) (gi uG 13)) who (bt (opn L (gi uG 12) (gi uG 13))) = true) (xE xD xF : sx_C) : ∃ R xD' xF', f_X4_least N uL' (nI who) = some R ∧ f_X12_leastSo N xA xE (nI who) xD xF = some (R, xD', xF') := by
  obtain ⟨hN, hM, hF, ⟨e7, e8, e11⟩, -, hJ, hG, hdis⟩ := id hC
  have hL : L ≤ 14 := (cN_8 hN).2.2.2
  have hc14 := qc_opn14 hL (gi uG 12) (gi uG 13)
  have h214 := two14 hc14
  obtain ⟨m, hm14, hO, hm, h14⟩ := opn_num hL (gi uG 12) (gi uG 13)
  have htm : tB m = bt (opn L (gi uG 12) (gi uG 13)) := by funext z; exact hm z
  have hmm : sbs m m := by unfold sbs; exact Nat.and_self m
  obtain ⟨n0, hn0, hn0e⟩ := pS_all hm hmm
  rw [htm] at hn0e
  obtain ⟨R, n, r1, r2, r3, r4, r5⟩ := least_ok hf hN l3 hw ⟨n0, hn0, by rw [← hn0e]; exact hex⟩
  have hso := leastSo_ok (N := N) (xA := xA) hf hM hm14 (P := fun t => gvS u v L A B (gi uG 12) (opn L (gi uG 12) (gi uG 13)) who (tB t)) (how := nI who) (xE := xE) (fun t ht xD xF => by
    have := so_ok (N := N) (by omega) hM hw hm14 hL (by rw [e7, e8]; exact hm) (by rw [e7, e8]; exact hdis) ht xE xD xF
    rw [e7, e8] at this
    exact this) N m (-1) xD xF (by omega) hmm (Or.inl ⟨rfl, fun t h1 h2 => by have := sbs_le h1; omega⟩)
  obtain ⟨R2, xD', xF', s1, s2⟩ := hso
  refine ⟨R, xD', xF', r1, ?_⟩
  unfold f_X12_leastSo
  simp only [mOpenNow_ok hM, Option.bind_some]
  rw [e7, e8, hO, s1]
  have : R2 = R := by
    rcases s2 with ⟨a, b⟩ | ⟨t0, a, b1, b2, b3⟩
    · have := b m hmm (by omega)
      have this : gvS u v L A B (gi uG 12) (opn L (gi uG 12) (gi uG 13)) who (tB m) = false := this
      rw [htm, hex] at this; cases this
    · obtain ⟨tR, c1, c2⟩ := pS_num h14 n
      have hsR : sbs tR m := sbs_iff.mpr (fun i hi => by
        have : tB tR i = true := hi
        rw [c2] at this
        unfold pS at this
        simp only [Bool.and_eq_true] at this
        rw [hm]; exact this.1)
      obtain ⟨n', d1, d2⟩ := pS_all hm b1
      have ha := b3 tR hsR (by show gvS _ _ _ _ _ _ _ _ (tB tR) = true; rw [c2]; exact r4) (by omega)
      have hb := r5 n' d1 (by rw [← d2]; exact b2)
      have q1 := pS_qc h14 r2
      have q2 := pS_qc h14 d1
      rw [d2, c2, q1, q2] at ha
      have hnn : n = n' := by
        by_cases e : n < n'
        · have := pS_lt d1 e c2 d2
          omega
        · omega
      rw [a]
      apply b_ext
      intro i hi
      have ht0 := sbs_le b1
      rw [r3, bt_nI (by omega), d2, hnn]
  rw [this]
theorem lk_bot {u v : Nat → Nat} {L A B : Nat} {J G : Int32} : lkS u v L A B J (qD (bt (opn L J G)) (bt (opn L J G))) = decide (la u v (bL J L) A = la u v (bL J L) B) := by
  have e : qU (bL J L) (qD (bt (opn L J G)) (bt (opn L J G))) = bL J L := by
    funext z
    show (bL J L z || (bt (opn L J G) z && !bt (opn L J G) z)) = bL J L z
    cases bt (opn L J G) z <;> simp
  unfold lkS
  rw [e]
theorem lk_top {u v : Nat → Nat} {L A B : Nat} {J G : Int32} (hL : L ≤ 14) (hdis : ∀ z, ¬ (bt J z = true ∧ bt G z = true)) (h : ¬ hld u v L A B J G = 1) : lkS u v L A B J (bt (opn L J G)) = true := by
  unfold hld at h
  by_cases h1 : la u v (bL J L) A = la u v (bL J L) B
  · refine lkS_mono (S := qD (bt (opn L J G)) (bt (opn L J G))) (fun i hi => ?_) (by rw [lk_bot]; exact decide_eq_true h1)
    unfold qD at hi
    simp only [Bool.and_eq_true] at hi
    exact hi.1
  · rw [if_neg h1] at h
    by_cases h2 : la u v (bL (alL L &&& (G ^^^ (-1))) L) A = la u v (bL (alL L &&& (G ^^^ (-1))) L) B
    · have e : qU (bL J L) (bt (opn L J G)) = bL (alL L &&& (G ^^^ (-1))) L := by
        funext z
        show ((bt J z && decide (z < L)) || bt (opn L J G) z) = (bt (alL L &&& (G ^^^ (-1))) z && decide (z < L))
        by_cases hz : z < 32
        · rw [opn_bit (by omega) _ _ hz, b_and, h_not _ hz, alL_bit (by omega) hz]
          cases hj : bt J z
          · cases decide (z < L) <;> cases bt G z <;> rfl
          · cases hg : bt G z
            · cases decide (z < L) <;> rfl
            · exact absurd ⟨hj, hg⟩ (hdis z)
        · rw [b_big (by omega), b_big (by omega), b_big (by omega)]; rfl
      unfold lkS
      rw [e]
      exact decide_eq_true h2
    · rw [if_neg h2] at h
      exact absurd rfl h
theorem lo_wall {N : Nat} (hf : 200000 ≤ N) : LO_wall N (sI LKd) := by
  rintro uG uN uD uR uF uP uL uTT uA uM uH xA xB xC xD xE xF xG xH xI xJ xK xL x ⟨K, L, A, B, u, v, hC, hR⟩
  have hI : ∀ uL' xB' xD' xF', LKd L A B u v uL' → sI LKd uG uN uD uR uF uP uL' uTT uA uM uH xA xB' xC xD' xE xF' xG xH xI xJ xK xL := fun _ _ _ _ h => ⟨K, L, A, B, u, v, hC, sRest_L hR h⟩
  obtain ⟨hN, hM, hF, ⟨e7, e8, e11⟩, -, hJ, hG, hdis⟩ := id hC
  have hL : L ≤ 14 := (cN_8 hN).2.2.2
  unfold f_X11_wall f_X12_wall
  rcases int_01 x with h | ⟨h, h2, -⟩ | ⟨w, hw, rfl, h, h2, -⟩
  · rw [if_pos h, if_pos h]; exact ⟨_, rfl, _, rfl, rfl, hI _ _ _ _ hR.2.2.2⟩
  · rw [if_neg h, if_neg h, if_neg h2, if_neg h2]; exact ⟨_, rfl, _, rfl, rfl, hI _ _ _ _ hR.2.2.2⟩
  · rw [if_neg h, if_neg h, if_pos h2, if_pos h2, holder_ok hN (by omega : 20 ≤ N), e7]
    obtain ⟨xD1, d1⟩ := hangs_ok hM (by omega : 20 ≤ N) (gi uG 12) xD
    simp only [d1, Option.bind_some]
    by_cases h3 : la u v (bL (gi uG 12) L) A = la u v (bL (gi uG 12) L) B
    · rw [if_pos (hld_0.mpr h3), if_pos (decide_eq_true h3)]
      exact ⟨_, rfl, _, rfl, rfl, hI _ _ _ _ hR.2.2.2⟩
    · rw [if_neg (fun h4 => h3 (hld_0.mp h4)), if_neg (fun h4 => h3 (of_decide_eq_true h4))]
      obtain ⟨uL', l1, l2, l3⟩ := lookAt_ok (by omega : 2000 ≤ N) hN hR.2.2.2 (gi uG 12) (gi uG 13)
      obtain ⟨R, xD2, xF2, b1, b2⟩ := least_both (uL := uL) (uH := uH) hf (who := 1) (by decide) hC l3 (by
        show (!lkS u v L A B (gi uG 12) (qD _ _)) = true
        rw [lk_bot, decide_eq_false h3]; rfl) xE xD1 xF
      have b1 : f_X4_least N uL' 1 = some R := b1
      have b2 : f_X12_leastSo N xA xE 1 xD1 xF = some (R, xD2, xF2) := b2
      simp only [l1, b1, b2, Option.bind_some, bitCount_ok, bits_ok]
      by_cases h5 : nI w = 0
      · rw [if_pos h5, if_pos h5]; exact ⟨_, rfl, _, rfl, rfl, hI _ _ _ _ l2⟩
      · rw [if_neg h5, if_neg h5]; exact ⟨_, rfl, _, rfl, rfl, hI _ _ _ _ l2⟩
theorem lo_road {N : Nat} (hf : 200000 ≤ N) : LO_road N (sI LKd) := by
  rintro uG uN uD uR uF uP uL uTT uA uM uH xA xB xC xD xE xF xG xH xI xJ xK xL x ⟨K, L, A, B, u, v, hC, hR⟩
  have hI : ∀ uL' xB' xD' xF', LKd L A B u v uL' → sI LKd uG uN uD uR uF uP uL' uTT uA uM uH xA xB' xC xD' xE xF' xG xH xI xJ xK xL := fun _ _ _ _ h => ⟨K, L, A, B, u, v, hC, sRest_L hR h⟩
  obtain ⟨hN, hM, hF, ⟨e7, e8, e11⟩, -, hJ, hG, hdis⟩ := id hC
  have hL : L ≤ 14 := (cN_8 hN).2.2.2
  unfold f_X11_road f_X12_road
  rcases int_01 x with h | ⟨h, h2, -⟩ | ⟨w, hw, rfl, h, h2, -⟩
  · rw [if_pos h, if_pos h]; exact ⟨_, rfl, _, rfl, rfl, hI _ _ _ _ hR.2.2.2⟩
  · rw [if_neg h, if_neg h, if_neg h2, if_neg h2]; exact ⟨_, rfl, _, rfl, rfl, hI _ _ _ _ hR.2.2.2⟩
  · rw [if_neg h, if_neg h, if_pos h2, if_pos h2, holder_ok hN (by omega : 20 ≤ N), e7, e8]
    obtain ⟨xD1, d1⟩ := mhas_ok hM (by omega : 20 ≤ N) (gi uG 12) (gi uG 13) xD
    simp only [d1, Option.bind_some]
    by_cases h3 : hld u v L A B (gi uG 12) (gi uG 13) = 1
    · rw [if_pos h3, if_pos h3]
      exact ⟨_, rfl, _, rfl, rfl, hI _ _ _ _ hR.2.2.2⟩
    · rw [if_neg h3, if_neg h3]
      obtain ⟨uL', l1, l2, l3⟩ := lookAt_ok (by omega : 2000 ≤ N) hN hR.2.2.2 (gi uG 12) (gi uG 13)
      obtain ⟨R, xD2, xF2, b1, b2⟩ := least_both (uL := uL) (uH := uH) hf (who := 0) (by decide) hC l3 (lk_top hL hdis h3) xE xD1 xF
      have b1 : f_X4_least N uL' 0 = some R := b1
      have b2 : f_X12_leastSo N xA xE 0 xD1 xF = some (R, xD2, xF2) := b2
      simp only [l1, b1, b2, Option.bind_some, bitCount_ok, bits_ok]
      by_cases h5 : nI w = 0
      · rw [if_pos h5, if_pos h5]; exact ⟨_, rfl, _, rfl, rfl, hI _ _ _ _ l2⟩
      · rw [if_neg h5, if_neg h5]; exact ⟨_, rfl, _, rfl, rfl, hI _ _ _ _ l2⟩
