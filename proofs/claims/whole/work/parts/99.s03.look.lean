/-! ===== LuckySets: number, tallySizes, lookAt ===== -/
theorem pcn_32 {w b : Nat} (hb : b < 32) : pcn (32 * w + b) = pcn b + fb_ct (fun i => w.testBit i) 9 := by
  have hbit : ∀ i, (32 * w + b).testBit i = if i < 5 then b.testBit i else w.testBit (i - 5) := fun i => Nat.testBit_two_pow_mul_add w (b := b) (i := 5) hb i
  unfold pcn
  have e1 := fb_ct_split (fun i => (32 * w + b).testBit i) 5 9
  have e2 := fb_ct_split (fun i => b.testBit i) 5 9
  rw [show 5 + 9 = 14 from rfl] at e1 e2
  rw [e1, e2]
  have h1 : fb_ct (fun i => (32 * w + b).testBit i) 5 = fb_ct (fun i => b.testBit i) 5 := fb_ct_cong (fun i hi => by rw [hbit, if_pos hi])
  have h2 : fb_ct (fun k => (32 * w + b).testBit (5 + k)) 9 = fb_ct (fun i => w.testBit i) 9 := fb_ct_cong (fun i hi => by rw [hbit, if_neg (by omega), show 5 + i - 5 = i by omega])
  have h3 : fb_ct (fun k => b.testBit (5 + k)) 9 = 0 := fb_ct_zero.mpr (fun i hi => tb_small (k := 5) (by omega) (by omega))
  rw [h1, h2, h3, Nat.add_zero]
theorem ofs_dec : ∀ s, s < 6 → ∀ b, b < 32 → bt (sp_ofs s) b = decide (pcn b = s) := by decide +kernel
theorem pcn_5 : ∀ b, b < 32 → pcn b < 6 := by decide +kernel
/-- what is known of a position -/
def stOK (u v : Nat → Nat) (L A B : Nat) (J G : Int32) (uL : sx_C) : Prop :=
  gi uL 8 = nI (qc (bt (opn L J G))) ∧ (∀ z, bt (opn L J G) z = true → ga uL 3 (fb_ct (bt (opn L J G)) z) = nI z) ∧ (∀ n, n < 16384 → wdb uL n = (decide (n < 2 ^ qc (bt (opn L J G))) && lkS u v L A B J (pS (opn L J G) n))) ∧ ∀ k, k ≤ 14 → ga uL 2 k = nI (fb_ct (fun n => wdb uL n && (pcn n == k)) 16384)
def LKd : sLK := fun L A B u v uL => gi uL 5 = 0 ∨ (gi uL 5 = 1 ∧ stOK u v L A B (gi uL 6) (gi uL 7) uL)
section
variable {N : Nat} {uN uL : sx_C} {K L A B : Nat} {u v : Nat → Nat}
theorem number_ok (hf : 20 ≤ N) (hN : cNet uN K L A B u v) {O : Int32} (hOd : O = opn L (gi uL 6) (gi uL 7)) : ∃ uL', f_X4_number N uN uL = some uL' ∧ gi uL' 8 = nI (qc (bt O)) ∧ (∀ k, k ≠ 8 → gi uL' k = gi uL k) ∧ (∀ k, k ≠ 3 → ga uL' k = ga uL k) ∧ ∀ z, bt O z = true → ga uL' 3 (fb_ct (bt O) z) = nI z := by
  have hL : L ≤ 14 := (cN_8 hN).2.2.2
  have hO14 : ∀ z, bt O z = true → z < 14 := fun z hz => by
    rw [hOd] at hz
    have := opn_lt (by omega : L < 31) hz; omega
  have loop : ∀ n i (w : sx_C), 14 - i < n → i ≤ 14 → gi w 8 = nI (fb_ct (bt O) i) → (∀ k, k ≠ 8 → gi w k = gi uL k) → (∀ k, k ≠ 3 → ga w k = ga uL k) → (∀ z, z < i → bt O z = true → ga w 3 (fb_ct (bt O) z) = nI z) → ∃ uL', f_X4_number_23 N uN n O (nI i) w = some uL' ∧ gi uL' 8 = nI (qc (bt O)) ∧ (∀ k, k ≠ 8 → gi uL' k = gi uL k) ∧ (∀ k, k ≠ 3 → ga uL' k = ga uL k) ∧ ∀ z, bt O z = true → ga uL' 3 (fb_ct (bt O) z) = nI z := by
    intro n
    induction n with
    | zero => intro i w hn; omega
    | succ n ih =>
      intro i w hn hi h8 hg ha h3
      unfold f_X4_number_23
      by_cases hc : 14 ≤ i
      · rw [if_pos (show (14 : Int32) ≤ nI i from (nle (a := 14) (by omega) (by omega)).mpr hc)]
        have : i = 14 := by omega
        subst this
        rw [ct14 hO14] at h8
        exact ⟨w, rfl, h8, hg, ha, fun z hz => h3 z (hO14 z hz) hz⟩
      · rw [if_neg (show ¬ (14 : Int32) ≤ nI i from fun h => hc ((nle (a := 14) (by omega) (by omega)).mp h)), has_ok _ (by omega), Option.bind_some]
        unfold f_X4_number_66
        rw [show nI i + 1 = nI (i + 1) from nadd i 1]
        have hr := fb_ct_le (bt O) i
        have hs := fb_ct_succ (bt O) i
        cases hb : bt O i
        · rw [if_neg (by decide)]
          rw [hb] at hs
          simp at hs
          exact ih (i + 1) w (by omega) (by omega) (by rw [hs]; exact h8) hg ha (fun z z1 z2 => by
            by_cases e : z = i
            · rw [e, hb] at z2; cases z2
            · exact h3 z (by omega) z2)
        · rw [if_pos rfl, h8, if_neg (show ¬ (14 : Int32) ≤ nI (fb_ct (bt O) i) from fun h => by have := (nle (a := 14) (by omega) (by omega)).mp h; omega), if_pos (in_ok (by omega) (by decide)), nI_clamp (by omega)]
          rw [hb] at hs
          simp at hs
          have q8 : gi (sa w 3 (fb_ct (bt O) i) (nI i)) 8 = nI (fb_ct (bt O) i) := h8
          rw [q8, show nI (fb_ct (bt O) i) + 1 = nI (fb_ct (bt O) i + 1) from nadd _ 1, ← hs]
          refine ih (i + 1) _ (by omega) (by omega) rfl (fun k hk => by rw [gi_si, if_neg hk]; exact hg k hk) (fun k hk => by rw [ga_si, ga_sa, if_neg hk]; exact ha k hk) (fun z z1 z2 => ?_)
          rw [ga_si, ga_up]
          by_cases e : z = i
          · rw [e, if_pos rfl]
          · have : ¬ fb_ct (bt O) z = fb_ct (bt O) i := fun e2 => e (fb_ct_kth_one z2 hb e2)
            rw [if_neg this]; exact h3 z (by omega) z2
  unfold f_X4_number
  rw [copen_ok hN, Option.bind_some, ← hOd]
  exact loop N 0 (si uL 8 0) (by omega) (by omega) rfl (fun k hk => by rw [gi_si, if_neg hk]) (fun k hk => rfl) (fun z hz => by omega)
theorem wordsUsed_ok {c : Nat} (hc : c ≤ 14) (h8 : gi uL 8 = nI c) : ∃ e, f_X4_wordsUsed uL = some (nI e) ∧ 1 ≤ e ∧ e ≤ 512 ∧ 2 ^ c ≤ 32 * e := by
  unfold f_X4_wordsUsed
  rw [h8]
  by_cases h5 : 5 < c
  · rw [if_pos (show (5 : Int32) < nI c from (nlt (a := 5) (by omega) (by omega)).mpr h5)]
    obtain ⟨d, rfl⟩ : ∃ d, c = d + 5 := ⟨c - 5, by omega⟩
    have e5 : nI (d + 5) - 5 = nI d := nsub d 5
    have hp : 2 ^ (d + 5) = 32 * 2 ^ d := by rw [Nat.pow_add]; omega
    have hd9 : 2 ^ d ≤ 2 ^ 9 := Nat.pow_le_pow_right (by decide) (by omega)
    have hd0 := Nat.two_pow_pos d
    rw [e5, shl1_dec d (by omega)]
    refine ⟨2 ^ d, ?_, by omega, by omega, by omega⟩
    unfold f_J9_min_7cf53
    rw [if_neg (show ¬ (512 : Int32) < nI (2 ^ d) from fun h => by have := (nlt (a := 512) (by omega) (by omega)).mp h; omega)]
    rfl
  · rw [if_neg (show ¬ (5 : Int32) < nI c from fun h => h5 ((nlt (a := 5) (by omega) (by omega)).mp h))]
    have : 2 ^ c ≤ 2 ^ 5 := Nat.pow_le_pow_right (by decide) (by omega)
    exact ⟨1, rfl, by omega, by omega, by omega⟩
theorem tally_ok (hf : 2000 ≤ N) {c : Nat} (hc : c ≤ 14) (h8 : gi uL 8 = nI c) (hw : ∀ n, n < 16384 → 2 ^ c ≤ n → wdb uL n = false) : ∃ uL', f_X4_tallySizes N uL = some uL' ∧ (∀ k, gi uL' k = gi uL k) ∧ (∀ k, k ≠ 2 → ga uL' k = ga uL k) ∧ ∀ k, k ≤ 14 → ga uL' 2 k = nI (fb_ct (fun n => wdb uL n && (pcn n == k)) 16384) := by
  obtain ⟨e, e1, e2, e3, e4⟩ := wordsUsed_ok (uL := sw uL 2 (sp_fill (ga uL 2) 15 0)) hc h8
  have hfull : ∀ k, fb_ct (fun n => wdb uL n && (pcn n == k)) 16384 = fb_ct (fun n => wdb uL n && (pcn n == k)) (32 * e) := fun k => ct_gap (by omega) (fun t t1 t2 => by rw [hw t t2 (by omega)]; rfl)
  -- one word
  have inner : ∀ w, w < 512 → ∀ (k15 : Int32 → Int32 → sx_C → Option sx_C) n s (x : sx_C), 6 - s < n → s ≤ 6 → (∀ k, gi x k = gi uL k) → (∀ k, k ≠ 2 → ga x k = ga uL k) → (∀ k, k ≤ 14 → ga x 2 k = nI (fb_ct (fun n => wdb uL n && (pcn n == k)) (32 * w) + (if fb_ct (fun i => w.testBit i) 9 ≤ k ∧ k - fb_ct (fun i => w.testBit i) 9 < s then fb_ct (fun b => wdb uL (32 * w + b) && (pcn b == k - fb_ct (fun i => w.testBit i) 9)) 32 else 0))) → ∃ x', f_X4_tallySizes_28 N k15 n (nI e) (nI w) (nI (fb_ct (fun i => w.testBit i) 9)) (nI s) x = k15 (nI e) (nI w + 1) x' ∧ (∀ k, gi x' k = gi uL k) ∧ (∀ k, k ≠ 2 → ga x' k = ga uL k) ∧ ∀ k, k ≤ 14 → ga x' 2 k = nI (fb_ct (fun n => wdb uL n && (pcn n == k)) (32 * (w + 1))) := by
    intro w hw512 k15
    obtain ⟨P, hP⟩ : ∃ P, P = fb_ct (fun i => w.testBit i) 9 := ⟨_, rfl⟩
    have hP9 : P ≤ 9 := by rw [hP]; exact fb_ct_le _ 9
    rw [← hP]
    intro n
    induction n with
    | zero => intro s x hn; omega
    | succ n ih =>
      intro s x hn hs hg ha h2
      unfold f_X4_tallySizes_28
      by_cases hc6 : 6 ≤ s
      · rw [if_pos (show (6 : Int32) ≤ nI s from (nle (a := 6) (by omega) (by omega)).mpr hc6)]
        refine ⟨x, rfl, hg, ha, fun k hk => ?_⟩
        rw [h2 k hk, show 32 * (w + 1) = 32 * w + 32 by omega, fb_ct_split]
        congr 2
        by_cases hr : P ≤ k ∧ k - P < s
        · rw [if_pos hr]
          exact fb_ct_cong (fun b hb => by
            rw [pcn_32 hb, ← hP]
            congr 1
            by_cases e9 : pcn b = k - P
            · have : pcn b + P = k := by omega
              rw [beq_iff_eq.mpr this, beq_iff_eq.mpr e9]
            · have : ¬ pcn b + P = k := by omega
              rw [beq_eq_false_iff_ne.mpr e9, beq_eq_false_iff_ne.mpr this])
        · rw [if_neg hr]
          exact (fb_ct_zero.mpr (fun b hb => by
            have hp5 := pcn_5 b hb
            rw [pcn_32 hb, ← hP]
            have : ¬ pcn b + P = k := by omega
            rw [beq_eq_false_iff_ne.mpr this]; simp)).symm
      · rw [if_neg (show ¬ (6 : Int32) ≤ nI s from fun h => hc6 ((nle (a := 6) (by omega) (by omega)).mp h)), nadd]
        unfold f_X4_tallySizes_74
        rw [show nI s + 1 = nI (s + 1) from nadd s 1]
        by_cases h14 : 14 < P + s
        · rw [if_pos (show (14 : Int32) < nI (P + s) from (nlt (a := 14) (by omega) (by omega)).mpr h14)]
          refine ih (s + 1) x (by omega) (by omega) hg ha (fun k hk => ?_)
          rw [h2 k hk]
          have : (P ≤ k ∧ k - P < s) ↔ (P ≤ k ∧ k - P < s + 1) := by omega
          simp only [this]
        · rw [if_neg (show ¬ (14 : Int32) < nI (P + s) from fun h => h14 ((nlt (a := 14) (by omega) (by omega)).mp h)), rd_ok (by omega) (by decide), rd_ok hw512 (by decide), rd_ok (by omega) (by decide)]
          simp only [bitCount_ok, Option.bind_some]
          rw [if_pos (in_ok (by omega) (by decide)), nI_clamp (by omega), ha 1 (by decide)]
          have hcnt : qc (bt (ga uL 1 w &&& sp_ofs s)) = fb_ct (fun b => wdb uL (32 * w + b) && (pcn b == s)) 32 := fb_ct_cong (fun b hb => by
            rw [b_and, ofs_dec s (by omega) b hb]
            unfold wdb
            rw [show (32 * w + b) / 32 = w by omega, show (32 * w + b) % 32 = b by omega]
            rfl)
          refine ih (s + 1) _ (by omega) (by omega) (fun k => hg k) (fun k hk => by rw [ga_sa, if_neg hk]; exact ha k hk) (fun k hk => ?_)
          rw [ga_up]
          by_cases ek : k = P + s
          · rw [if_pos ek, h2 (P + s) (by omega), hcnt, nadd, ek]
            congr 1
            rw [if_neg (by omega), if_pos (by omega), show P + s - P = s by omega]
            rfl
          · rw [if_neg ek, h2 k hk]
            have : (P ≤ k ∧ k - P < s) ↔ (P ≤ k ∧ k - P < s + 1) := by omega
            simp only [this]
  have loop : ∀ n w (x : sx_C), e - w < n → w ≤ e → (∀ k, gi x k = gi uL k) → (∀ k, k ≠ 2 → ga x k = ga uL k) → (∀ k, k ≤ 14 → ga x 2 k = nI (fb_ct (fun n => wdb uL n && (pcn n == k)) (32 * w))) → ∃ uL', f_X4_tallySizes_15 N n (nI e) (nI w) x = some uL' ∧ (∀ k, gi uL' k = gi uL k) ∧ (∀ k, k ≠ 2 → ga uL' k = ga uL k) ∧ ∀ k, k ≤ 14 → ga uL' 2 k = nI (fb_ct (fun n => wdb uL n && (pcn n == k)) 16384) := by
    intro n
    induction n with
    | zero => intro w x hn; omega
    | succ n ih =>
      intro w x hn hw2 hg ha h2
      unfold f_X4_tallySizes_15
      by_cases hce : e ≤ w
      · rw [if_pos ((nle (by omega) (by omega)).mpr hce)]
        have : w = e := by omega
        subst this
        exact ⟨x, rfl, hg, ha, fun k hk => by rw [hfull]; exact h2 k hk⟩
      · rw [if_neg (fun h => hce ((nle (by omega) (by omega)).mp h)), bitCount_ok, Option.bind_some]
        have hpw : qc (bt (nI w)) = fb_ct (fun i => w.testBit i) 9 := by
          have h1 : qc (bt (nI w)) = fb_ct (fun i => w.testBit i) 32 := fb_ct_cong (fun k hk => h_nI k hk)
          rw [h1]
          exact ct_gap (by omega) (fun t t1 _ => tb_small (k := 9) (by omega) t1)
        rw [hpw]
        obtain ⟨x', a1, a2, a3, a4⟩ := inner w (by omega) (f_X4_tallySizes_15 N n) N 0 x (by omega) (by omega) hg ha (fun k hk => by
          rw [if_neg (by omega), Nat.add_zero]; exact h2 k hk)
        have a1 : f_X4_tallySizes_28 N (f_X4_tallySizes_15 N n) N (nI e) (nI w) (nI (fb_ct (fun i => w.testBit i) 9)) 0 x = f_X4_tallySizes_15 N n (nI e) (nI w + 1) x' := a1
        rw [a1, show nI w + 1 = nI (w + 1) from nadd w 1]
        exact ih (w + 1) x' (by omega) (by omega) a2 a3 a4
  unfold f_X4_tallySizes
  rw [e1, Option.bind_some]
  refine loop N 0 _ (by omega) (by omega) (fun k => rfl) (fun k hk => by rw [ga_sw, if_neg hk]) (fun k hk => ?_)
  rw [ga_sw, if_pos rfl]
  unfold sp_fill
  rw [if_pos (by omega)]
  rfl
theorem lookAt_ok (hf : 2000 ≤ N) (hN : cNet uN K L A B u v) (h : LKd L A B u v uL) (J G : Int32) : ∃ uL', f_X4_lookAt N uN J G uL = some uL' ∧ LKd L A B u v uL' ∧ stOK u v L A B J G uL' := by
  have hL : L ≤ 14 := (cN_8 hN).2.2.2
  have hc14 := qc_opn14 hL J G
  have h20 : 20 ≤ N := by omega
  have fresh : ∃ uL', f_X4_lookAt_24 N uN J G uL = some uL' ∧ LKd L A B u v uL' ∧ stOK u v L A B J G uL' := by
    unfold f_X4_lookAt_24
    obtain ⟨w0, hw0⟩ : ∃ w0, w0 = si (si (si uL 5 1) 6 J) 7 G := ⟨_, rfl⟩
    rw [← hw0]
    have g6 : gi w0 6 = J := by rw [hw0]; rfl
    have g7 : gi w0 7 = G := by rw [hw0]; rfl
    have g5 : gi w0 5 = 1 := by rw [hw0]; rfl
    obtain ⟨w1, a1, a2, a3, a4, a5⟩ := number_ok h20 hN (uL := w0) (O := opn L J G) (by rw [g6, g7])
    simp only [a1, Option.bind_some]
    obtain ⟨w2, hw2⟩ : ∃ w2, w2 = sw w1 1 (sp_fill (ga w1 1) 512 0) := ⟨_, rfl⟩
    rw [← hw2]
    have k6 : gi w2 6 = J := by rw [hw2]; exact (a3 6 (by decide)).trans g6
    have k7 : gi w2 7 = G := by rw [hw2]; exact (a3 7 (by decide)).trans g7
    have k5 : gi w2 5 = 1 := by rw [hw2]; exact (a3 5 (by decide)).trans g5
    have k8 : gi w2 8 = nI (qc (bt (opn L J G))) := by rw [hw2]; exact a2
    have k3 : ∀ z, bt (opn L J G) z = true → ga w2 3 (fb_ct (bt (opn L J G)) z) = nI z := fun z hz => by rw [hw2]; exact a5 z hz
    have kw : ∀ n, n < 16384 → wdb w2 n = false := fun n hn => by
      unfold wdb
      rw [hw2, ga_sw, if_pos rfl]
      unfold sp_fill
      rw [if_pos (by omega)]
      exact b_0 _
    obtain ⟨p, p1, p2⟩ := placesBy_ok hN h20 J
    rw [k6, k8]
    have hq0 : qU (bL J L) (pS (opn L J G) 0) = bL J L := by
      rw [pS_0]
      funext i
      show (bL J L i || false) = bL J L i
      simp
    obtain ⟨w3, b1, b2, b3⟩ := mark_ok hf hN (J := J) (O := opn L J G) (fun z hz => opn_lt (by omega) hz) (qc (bt (opn L J G))) 0 40 p w2 (by omega) (Nat.le_refl _) (Nat.zero_mod _) (by omega) (by rw [hq0]; exact p2) k3
    have b1 : f_X4_mark N uN 40 (nI (qc (bt (opn L J G)))) p 0 w2 = some w3 := b1
    have hwd : ∀ n, n < 16384 → wdb w3 n = (decide (n < 2 ^ qc (bt (opn L J G))) && lkS u v L A B J (pS (opn L J G) n)) := fun n hn => by
      rw [b3 n hn, kw n hn]
      simp
    obtain ⟨w4, c1, c2, c3, c4⟩ := tally_ok hf hc14 (uL := w3) (by rw [b2.1]; exact k8) (fun n hn h9 => by
      rw [hwd n hn]
      have : ¬ n < 2 ^ qc (bt (opn L J G)) := by omega
      simp [this])
    simp only [p1, b1, c1, Option.bind_some]
    have hw43 : ∀ n, wdb w4 n = wdb w3 n := fun n => by unfold wdb; rw [c3 1 (by decide)]
    have hst : stOK u v L A B J G w4 := by
      refine ⟨by rw [c2, b2.1]; exact k8, fun z hz => by rw [c3 3 (by decide), b2.2 3 (by decide)]; exact k3 z hz, fun n hn => by rw [hw43]; exact hwd n hn, fun k hk => ?_⟩
      rw [c4 k hk, fb_ct_cong (p := fun n => wdb w3 n && (pcn n == k)) (q := fun n => wdb w4 n && (pcn n == k)) (fun n _ => by rw [hw43])]
    refine ⟨w4, rfl, Or.inr ⟨by rw [c2, b2.1]; exact k5, ?_⟩, hst⟩
    rw [c2, b2.1, k6, c2, b2.1, k7]; exact hst
  unfold f_X4_lookAt
  rcases h with h | ⟨h5, h⟩
  · rw [if_pos h]; exact fresh
  · rw [h5, if_neg (by decide)]
    by_cases e6 : gi uL 6 = J
    · rw [if_pos e6]
      by_cases e7 : gi uL 7 = G
      · rw [if_pos e7]
        refine ⟨uL, rfl, Or.inr ⟨h5, h⟩, ?_⟩
        rw [← e6, ← e7]; exact h
      · rw [if_neg e7]; exact fresh
    · rw [if_neg e6]; exact fresh
end
