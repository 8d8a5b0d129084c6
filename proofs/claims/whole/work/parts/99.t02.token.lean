/-! ===== text: a token ===== -/
def numR (a b : Int32) : Prop := (∃ n, n < 10000 ∧ a = nI n ∧ b = nI n) ∨ ∃ p q, 10000 ≤ p ∧ p < 10000000 ∧ 10000 ≤ q ∧ q < 100000 ∧ a = nI p ∧ b = nI q
theorem dig_ok {y : Int32} (h : f_X12_isDigit y = some true) : ∃ d, d < 10 ∧ y = nI (d + 48) := by
  unfold f_X12_isDigit at h
  by_cases h1 : y < 48
  · rw [if_pos h1] at h; cases h
  · rw [if_neg h1] at h
    by_cases h2 : 57 < y
    · rw [if_pos h2] at h; cases h
    · rcases int_cases y 58 (by decide) with ⟨a, -⟩ | ⟨a, b, -⟩ | ⟨i, hi, rfl⟩
      · exact absurd (Int32.lt_trans a (by decide)) h1
      · have c := Int32.le_iff_toInt_le.mp b
        have c0 : (nI 58).toInt = 58 := by decide
        have d : ¬ (57 : Int32).toInt < y.toInt := fun h => h2 (Int32.lt_iff_toInt_lt.mpr h)
        have d0 : (57 : Int32).toInt = 57 := by decide
        omega
      · have : ¬ i < 48 := fun h9 => h1 (show nI i < 48 from (nlt (b := 48) (by omega) (by omega)).mpr h9)
        exact ⟨i - 48, by omega, by rw [show i - 48 + 48 = i by omega]⟩
theorem si_same (u : sx_C) (k : Nat) : si u k (gi u k) = u := by
  refine Prod.ext (funext fun j => ?_) rfl
  show gi (si u k (gi u k)) j = gi u j
  rw [gi_si]
  by_cases h : j = k
  · rw [if_pos h, h]
  · rw [if_neg h]
theorem isDigit_b (y : Int32) : f_X12_isDigit y = some true ∨ f_X12_isDigit y = some false := by
  unfold f_X12_isDigit
  split
  · exact Or.inr rfl
  · split
    · exact Or.inr rfl
    · exact Or.inl rfl
theorem isSmall_b (y : Int32) : f_X12_isSmall y = some true ∨ f_X12_isSmall y = some false := by
  unfold f_X12_isSmall
  split
  · exact Or.inr rfl
  · split
    · exact Or.inr rfl
    · exact Or.inl rfl
section
variable {N : Nat} {uG xA : sx_C} {e : Nat}
theorem word_ok (hf : 2000 ≤ N) (hT : tpR uG xA e) {uR xC : sx_C} {s p : Nat} (h4 : gi uR 4 = 1) (h3 : gi uR 3 = nI p) (h5 : gi uR 5 = nI s) (h28 : gi xC 28 = nI p) (h29 : gi xC 29 = nI s) (hsp : s ≤ p) (hpe : p ≤ e) : ∃ w, w < 9 ∧ f_X9_word N uG uR = some (nI w) ∧ f_X12_wordHere N xA xC = some (nI w - 1) := by
  have sp := fun ti hti => spells_ok (ti := ti) hf hT h3 h5 hsp hpe hti
  obtain ⟨b0, s0, i0⟩ := sp 0 (by decide)
  obtain ⟨b1, s1, i1⟩ := sp 1 (by decide)
  obtain ⟨b2, s2, i2⟩ := sp 2 (by decide)
  obtain ⟨b3, s3, i3⟩ := sp 3 (by decide)
  obtain ⟨b4, s4, i4⟩ := sp 4 (by decide)
  obtain ⟨b5, s5, i5⟩ := sp 5 (by decide)
  obtain ⟨b6, s6, i6⟩ := sp 6 (by decide)
  obtain ⟨b7, s7, i7⟩ := sp 7 (by decide)
  obtain ⟨n, hn⟩ : ∃ n, N = n + 9 := ⟨N - 9, by omega⟩
  have st := fun i hi fu => wh_step (i := i) hf hT h28 h29 hsp hpe hi fu
  have m0 := st 0 (by decide) (n + 8)
  have m1 := st 1 (by decide) (n + 7)
  have m2 := st 2 (by decide) (n + 6)
  have m3 := st 3 (by decide) (n + 5)
  have m4 := st 4 (by decide) (n + 4)
  have m5 := st 5 (by decide) (n + 3)
  have m6 := st 6 (by decide) (n + 2)
  have m7 := st 7 (by decide) (n + 1)
  have hend : f_X12_wordHere_4 N xA xC (n + 1) (nI 8) (nI (wof 8)) = some (-1) := rfl
  have hst : f_X12_wordHere N xA xC = f_X12_wordHere_4 N xA xC (n + 9) (nI 0) (nI (wof 0)) := by
    rw [← hn]; rfl
  unfold f_X9_word
  rw [if_pos h4]
  simp only [s0, s1, s2, s3, s4, s5, s6, s7, Option.bind_some]
  rw [hst]
  by_cases c0 : spl xA s p 0
  · rw [if_pos (i0.mpr c0), m0.1 c0]; exact ⟨1, by decide, rfl, by decide⟩
  rw [if_neg (fun h => c0 (i0.mp h)), m0.2 c0]
  by_cases c1 : spl xA s p 1
  · rw [if_pos (i1.mpr c1), m1.1 c1]; exact ⟨2, by decide, rfl, by decide⟩
  rw [if_neg (fun h => c1 (i1.mp h)), m1.2 c1]
  by_cases c2 : spl xA s p 2
  · rw [if_pos (i2.mpr c2), m2.1 c2]; exact ⟨3, by decide, rfl, by decide⟩
  rw [if_neg (fun h => c2 (i2.mp h)), m2.2 c2]
  by_cases c3 : spl xA s p 3
  · rw [if_pos (i3.mpr c3), m3.1 c3]; exact ⟨4, by decide, rfl, by decide⟩
  rw [if_neg (fun h => c3 (i3.mp h)), m3.2 c3]
  by_cases c4 : spl xA s p 4
  · rw [if_pos (i4.mpr c4), m4.1 c4]; exact ⟨5, by decide, rfl, by decide⟩
  rw [if_neg (fun h => c4 (i4.mp h)), m4.2 c4]
  by_cases c5 : spl xA s p 5
  · rw [if_pos (i5.mpr c5), m5.1 c5]; exact ⟨6, by decide, rfl, by decide⟩
  rw [if_neg (fun h => c5 (i5.mp h)), m5.2 c5]
  by_cases c6 : spl xA s p 6
  · rw [if_pos (i6.mpr c6), m6.1 c6]; exact ⟨7, by decide, rfl, by decide⟩
  rw [if_neg (fun h => c6 (i6.mp h)), m6.2 c6]
  by_cases c7 : spl xA s p 7
  · rw [if_pos (i7.mpr c7), m7.1 c7]; exact ⟨8, by decide, rfl, by decide⟩
  rw [if_neg (fun h => c7 (i7.mp h)), m7.2 c7]
  exact ⟨0, by decide, rfl, by rw [hend]; decide⟩
theorem num_ok2 (hf : 2000 ≤ N) (hT : tpR uG xA e) : ∀ fu p (uR xC : sx_C), e - p < fu → p ≤ e → gi uR 2 = nI e → gi uR 3 = nI p → gi xC 27 = nI e → gi xC 28 = nI p → numR (gi uR 6) (gi xC 31) → ∃ uR' xC' p', f_X9_takeNumber_10 N uG fu uR = some uR' ∧ f_X12_token_120 N xA fu xC = some xC' ∧ p ≤ p' ∧ p' ≤ e ∧ (p < e → f_X12_isDigit (ga xA 1 p) = some true → p < p') ∧ gi uR' 3 = nI p' ∧ gi xC' 28 = nI p' ∧ numR (gi uR' 6) (gi xC' 31) ∧ (∀ k, k ≠ 3 → k ≠ 6 → gi uR' k = gi uR k) ∧ (∀ k, k ≠ 28 → k ≠ 31 → gi xC' k = gi xC k) ∧ ga xC' = ga xC := by
  have h600 := hT.1
  intro fu
  induction fu with
  | zero => intro p uR xC h; omega
  | succ fu ih =>
    intro p uR xC hfu hp h2 h3 h27 h28 hn
    unfold f_X9_takeNumber_10 f_X12_token_120 f_X9_takeNumber_67 f_X12_token_163
    rw [h2, h3]
    by_cases hc : e ≤ p
    · rw [if_pos ((nle (by omega) (by omega)).mpr hc), here_no hT h27 h28 hc (by omega)]
      refine ⟨uR, xC, p, rfl, rfl, by omega, hp, fun h => by omega, h3, h28, hn, fun _ _ _ => rfl, fun _ _ _ => rfl, rfl⟩
    · rw [if_neg (fun h => hc ((nle (by omega) (by omega)).mp h)), here_ok hT h27 h28 (by omega), byteAt_ok hT (by omega)]
      simp only [Option.bind_some]
      have hd : f_X9_isDigit (ga xA 1 p) = f_X12_isDigit (ga xA 1 p) := rfl
      rw [hd]
      rcases isDigit_b (ga xA 1 p) with hy | hy
      · obtain ⟨d, hd1, hd2⟩ := dig_ok hy
        simp only [hy, Option.bind_some, ↓reduceIte]
        have key : ∀ a b, numR a b → ∃ uR' xC' p', f_X9_takeNumber_10 N uG fu (si (si uR 6 a) 3 (gi (si uR 6 a) 3 + 1)) = some uR' ∧ f_X12_token_120 N xA fu (si (si xC 31 b) 28 (gi (si xC 31 b) 28 + 1)) = some xC' ∧ p ≤ p' ∧ p' ≤ e ∧ (p < e → True → p < p') ∧ gi uR' 3 = nI p' ∧ gi xC' 28 = nI p' ∧ numR (gi uR' 6) (gi xC' 31) ∧ (∀ k, k ≠ 3 → k ≠ 6 → gi uR' k = gi uR k) ∧ (∀ k, k ≠ 28 → k ≠ 31 → gi xC' k = gi xC k) ∧ ga xC' = ga xC := by
          intro a b hab
          have g3 : gi (si uR 6 a) 3 = nI p := h3
          have g28 : gi (si xC 31 b) 28 = nI p := h28
          obtain ⟨uR', xC', p', a1, a2, a3, a4, a5, a6, a7, a8, a9, a10, a11⟩ := ih (p + 1) (si (si uR 6 a) 3 (nI (p + 1))) (si (si xC 31 b) 28 (nI (p + 1))) (by omega) (by omega) h2 rfl h27 rfl hab
          rw [g3, g28, show nI p + 1 = nI (p + 1) from nadd p 1]
          refine ⟨uR', xC', p', a1, a2, by omega, a4, fun _ _ => by omega, a6, a7, a8, fun k k1 k2 => ?_, fun k k1 k2 => ?_, a11⟩
          · rw [a9 k k1 k2, gi_si, if_neg k1, gi_si, if_neg k2]
          · rw [a10 k k1 k2, gi_si, if_neg k1, gi_si, if_neg k2]
        rcases hn with ⟨n, n1, n2, n3⟩ | ⟨q, r, q1, q2, r1, r2, q3, r3⟩
        · rw [n2, n3, if_neg (show ¬ (1000000 : Int32) ≤ nI n from fun h => by have := (nle (a := 1000000) (by omega) (by omega)).mp h; omega), if_pos (show nI n ≤ 9999 from (nle (b := 9999) (by omega) (by omega)).mpr (by omega)), hd2]
          have v1 : nI n * 10 + (nI (d + 48) - 48) = nI (n * 10 + d) := by
            rw [show nI (d + 48) - 48 = nI d from nsub d 48, show nI n * 10 = nI (n * 10) from nmul n 10, nadd]
          have v2 : 10 * nI n + nI (d + 48) - 48 = nI (n * 10 + d) := by
            rw [show 10 * nI n = nI (10 * n) from nmul 10 n, nadd, show 10 * n + (d + 48) = (n * 10 + d) + 48 by omega]
            exact nsub _ 48
          rw [v1, v2]
          refine key _ _ ?_
          by_cases hb : n * 10 + d < 10000
          · exact Or.inl ⟨_, hb, rfl, rfl⟩
          · exact Or.inr ⟨_, _, by omega, by omega, by omega, by omega, rfl, rfl⟩
        · rw [q3, r3, if_neg (show ¬ nI r ≤ 9999 from fun h => by have := (nle (b := 9999) (by omega) (by omega)).mp h; omega), hd2]
          by_cases hb : 1000000 ≤ q
          · rw [if_pos (show (1000000 : Int32) ≤ nI q from (nle (a := 1000000) (by omega) (by omega)).mpr hb)]
            have := key (nI q) (nI r) (Or.inr ⟨q, r, q1, q2, r1, r2, rfl, rfl⟩)
            have f1 : si uR 6 (nI q) = uR := by rw [← q3]; exact si_same uR 6
            rw [f1, h3] at this
            exact this
          · rw [if_neg (show ¬ (1000000 : Int32) ≤ nI q from fun h => hb ((nle (a := 1000000) (by omega) (by omega)).mp h))]
            have v1 : nI q * 10 + (nI (d + 48) - 48) = nI (q * 10 + d) := by
              rw [show nI (d + 48) - 48 = nI d from nsub d 48, show nI q * 10 = nI (q * 10) from nmul q 10, nadd]
            rw [v1]
            exact key (nI (q * 10 + d)) (nI r) (Or.inr ⟨q * 10 + d, r, by omega, by omega, r1, r2, rfl, rfl⟩)
      · simp only [hy, Option.bind_some, Bool.false_eq_true, ↓reduceIte]
        refine ⟨uR, xC, p, rfl, rfl, by omega, hp, fun _ h => (by cases h), h3, h28, hn, fun _ _ _ => rfl, fun _ _ _ => rfl, rfl⟩
theorem let_ok (hf : 2000 ≤ N) (hT : tpR uG xA e) {s : Nat} : ∀ fu p (uR xC : sx_C), e - p < fu → p ≤ e → s ≤ p → gi uR 2 = nI e → gi uR 3 = nI p → gi uR 4 = 1 → gi uR 5 = nI s → gi xC 27 = nI e → gi xC 28 = nI p → gi xC 29 = nI s → ∃ uR' xC' p' w, f_X9_step_84 N uG fu uR = some uR' ∧ f_X12_token_64 N xA fu xC = some xC' ∧ p ≤ p' ∧ p' ≤ e ∧ (p < e → f_X12_isSmall (ga xA 1 p) = some true → p < p') ∧ gi uR' 3 = nI p' ∧ gi xC' 28 = nI p' ∧ gi xC' 30 = 0 ∧ w < 9 ∧ f_X9_word N uG uR' = some (nI w) ∧ gi xC' 31 = nI w - 1 ∧ (∀ k, k ≠ 3 → gi uR' k = gi uR k) ∧ (∀ k, k ≠ 28 → k ≠ 30 → k ≠ 31 → gi xC' k = gi xC k) ∧ ga xC' = ga xC := by
  have h600 := hT.1
  intro fu
  induction fu with
  | zero => intro p uR xC h; omega
  | succ fu ih =>
    intro p uR xC hfu hp hsp h2 h3 h4 h5 h27 h28 h29
    unfold f_X9_step_84 f_X12_token_64
    rw [h2, h3]
    have stop : ∀ (Z : Prop), ¬ Z → ∃ uR' xC' p' w, some uR = some uR' ∧ Option.bind (f_X12_wordHere N xA (si xC 30 0)) (fun q15 => some (si (si xC 30 0) 31 q15)) = some xC' ∧ p ≤ p' ∧ p' ≤ e ∧ (p < e → Z → p < p') ∧ gi uR' 3 = nI p' ∧ gi xC' 28 = nI p' ∧ gi xC' 30 = 0 ∧ w < 9 ∧ f_X9_word N uG uR' = some (nI w) ∧ gi xC' 31 = nI w - 1 ∧ (∀ k, k ≠ 3 → gi uR' k = gi uR k) ∧ (∀ k, k ≠ 28 → k ≠ 30 → k ≠ 31 → gi xC' k = gi xC k) ∧ ga xC' = ga xC := by
      intro Z hZ
      obtain ⟨w, w1, w2, w3⟩ := word_ok (xC := si xC 30 0) hf hT h4 h3 h5 h28 h29 hsp hp
      rw [w3]
      refine ⟨uR, _, p, w, rfl, rfl, by omega, hp, fun _ h => absurd h hZ, h3, h28, rfl, w1, w2, rfl, fun _ _ => rfl, fun k k1 k2 k3 => ?_, rfl⟩
      rw [gi_si, if_neg k3, gi_si, if_neg k2]
    by_cases hc : e ≤ p
    · rw [if_pos ((nle (by omega) (by omega)).mpr hc), here_no hT h27 h28 hc (by omega)]
      have hm : f_X12_isSmall (-1) = some false := rfl
      simp only [Option.bind_some, hm, Bool.false_eq_true, ↓reduceIte]
      obtain ⟨uR', xC', p', w, a1, a2, a3, a4, -, a6⟩ := stop False (fun h => h)
      exact ⟨uR', xC', p', w, a1, a2, a3, a4, fun h => by omega, a6⟩
    · rw [if_neg (fun h => hc ((nle (by omega) (by omega)).mp h)), here_ok hT h27 h28 (by omega), byteAt_ok hT (by omega)]
      simp only [Option.bind_some]
      have hd : f_X9_isLetter (ga xA 1 p) = f_X12_isSmall (ga xA 1 p) := rfl
      rw [hd]
      rcases isSmall_b (ga xA 1 p) with hy | hy
      · simp only [hy, Option.bind_some, ↓reduceIte]
        rw [h28, show nI p + 1 = nI (p + 1) from nadd p 1]
        obtain ⟨uR', xC', p', w, a1, a2, a3, a4, a5, a6, a7, a8, a9, a10, a11, a12, a13, a14⟩ := ih (p + 1) (si uR 3 (nI (p + 1))) (si xC 28 (nI (p + 1))) (by omega) (by omega) (by omega) h2 rfl h4 h5 h27 rfl h29
        refine ⟨uR', xC', p', w, a1, a2, by omega, a4, fun _ _ => by omega, a6, a7, a8, a9, a10, a11, fun k k1 => ?_, fun k k1 k2 k3 => ?_, a14⟩
        · rw [a12 k k1, gi_si, if_neg k1]
        · rw [a13 k k1 k2 k3, gi_si, if_neg k1]
      · simp only [hy, Option.bind_some, Bool.false_eq_true, ↓reduceIte]
        exact stop _ (fun h => by cases h)
/-- one token, on both sides -/
def tkR (N : Nat) (uG : sx_C) (e p : Nat) (uR xC : sx_C) : Prop := ∃ s p', p ≤ s ∧ s ≤ p' ∧ p' ≤ e ∧ gi uR 5 = nI s ∧ gi xC 29 = nI s ∧ gi uR 3 = nI p' ∧ gi xC 28 = nI p' ∧ ((gi uR 4 = 0 ∧ gi xC 30 = 3 ∧ s = e) ∨ (s < p' ∧ gi uR 4 = 1 ∧ gi xC 30 = 0 ∧ ∃ w, w < 9 ∧ f_X9_word N uG uR = some (nI w) ∧ gi xC 31 = nI w - 1) ∨ (s < p' ∧ gi uR 4 = 2 ∧ gi xC 30 = 1 ∧ numR (gi uR 6) (gi xC 31)) ∨ (s < p' ∧ gi uR 4 = 3 ∧ gi xC 30 = 2) ∨ (s < p' ∧ gi uR 4 = 4 ∧ gi xC 30 = 4))
def tkF (uR' uR xC' xC : sx_C) : Prop := (∀ k, k ≠ 3 → k ≠ 4 → k ≠ 5 → k ≠ 6 → gi uR' k = gi uR k) ∧ (∀ k, k ≠ 28 → k ≠ 29 → k ≠ 30 → k ≠ 31 → gi xC' k = gi xC k) ∧ ga xC' = ga xC
theorem step_ok (hf : 2000 ≤ N) (hT : tpR uG xA e) : ∀ fu p (uR xC : sx_C), e - p < fu → p ≤ e → gi uR 2 = nI e → gi uR 3 = nI p → gi xC 27 = nI e → gi xC 28 = nI p → ∃ uR' xC', f_X9_step_0 N uG fu uR = some uR' ∧ f_X12_token_0 N xA fu xC = some xC' ∧ tkR N uG e p uR' xC' ∧ tkF uR' uR xC' xC := by
  have h600 := hT.1
  intro fu
  induction fu with
  | zero => intro p uR xC h; omega
  | succ fu ih =>
    intro p uR xC hfu hp h2 h3 h27 h28
    unfold f_X9_step_0 f_X12_token_0 f_X12_token_18
    have g2 : gi (si uR 5 (gi uR 3)) 2 = nI e := h2
    have g3 : gi (si uR 5 (gi uR 3)) 3 = nI p := h3
    have g27 : gi (si xC 29 (gi xC 28)) 27 = nI e := h27
    have g28 : gi (si xC 29 (gi xC 28)) 28 = nI p := h28
    by_cases hc : e ≤ p
    · have hpe : p = e := by omega
      rw [h2, h3, if_pos ((nle (by omega) (by omega)).mpr hc), here_no hT h27 h28 hc (by omega)]
      unfold f_X9_step_38
      rw [h3] at g2 g3
      rw [h28] at g27 g28
      rw [h3, g2, g3, if_neg (fun h => by have := (nlt (by omega) (by omega)).mp h; omega), h28]
      simp only [Option.bind_some, here_no hT g27 g28 hc (by omega)]
      rw [if_neg (by decide), if_neg (by decide), if_pos trivial]
      refine ⟨_, _, rfl, rfl, ⟨p, p, by omega, by omega, hp, rfl, rfl, h3, h28, Or.inl ⟨rfl, rfl, hpe⟩⟩, fun k k1 k2 k3 k4 => ?_, fun k k1 k2 k3 k4 => ?_, rfl⟩
      · rw [gi_si, if_neg k2, gi_si, if_neg k3]
      · rw [gi_si, if_neg k3, gi_si, if_neg k2]
    · rw [h2, h3, if_neg (fun h => hc ((nle (by omega) (by omega)).mp h)), here_ok hT h27 h28 (by omega), byteAt_ok hT (by omega)]
      simp only [Option.bind_some]
      rw [h28, show nI p + 1 = nI (p + 1) from nadd p 1]
      have next : ∃ uR' xC', f_X9_step_0 N uG fu (si uR 3 (nI (p + 1))) = some uR' ∧ f_X12_token_0 N xA fu (si xC 28 (nI (p + 1))) = some xC' ∧ tkR N uG e p uR' xC' ∧ tkF uR' uR xC' xC := by
        obtain ⟨uR', xC', a1, a2, ⟨s, p', b1, b2⟩, c1, c2, c3⟩ := ih (p + 1) (si uR 3 (nI (p + 1))) (si xC 28 (nI (p + 1))) (by omega) (by omega) h2 rfl h27 rfl
        refine ⟨uR', xC', a1, a2, ⟨s, p', by omega, b2⟩, fun k k1 k2 k3 k4 => ?_, fun k k1 k2 k3 k4 => ?_, c3⟩
        · rw [c1 k k1 k2 k3 k4, gi_si, if_neg k1]
        · rw [c2 k k1 k2 k3 k4, gi_si, if_neg k1]
      unfold f_X9_isBlank
      by_cases hb1 : ga xA 1 p = 10
      · simp only [hb1, Option.bind_some, ↓reduceIte]
        exact next
      by_cases hb2 : ga xA 1 p = 32
      · rw [hb2]
        rw [if_neg (by decide), if_pos rfl, if_neg (by decide), if_pos rfl]
        exact next
      rw [if_neg hb1, if_neg hb2, if_neg hb1, if_neg hb2]
      simp only [Option.bind_some, Bool.false_eq_true, ↓reduceIte]
      unfold f_X9_step_38 f_X9_step_162 f_X12_token_191
      rw [h3] at g2 g3
      rw [h28] at g27 g28
      rw [h3, g2, g3, if_pos ((nlt (by omega) (by omega)).mpr (by omega)), byteAt_ok hT (by omega), here_ok hT g27 g28 (by omega)]
      simp only [Option.bind_some]
      have hne : ¬ ga xA 1 p = -1 := by rw [hT.2 p (by omega)]; exact byte_ne _
      rw [if_neg hne]
      have hd : f_X9_isLetter (ga xA 1 p) = f_X12_isSmall (ga xA 1 p) := rfl
      have hd2 : f_X9_isDigit (ga xA 1 p) = f_X12_isDigit (ga xA 1 p) := rfl
      rw [hd, hd2]
      rcases isSmall_b (ga xA 1 p) with hy | hy
      · simp only [hy, Option.bind_some, ↓reduceIte]
        obtain ⟨uR', xC', p', w, a1, a2, a3, a4, a5, a6, a7, a8, a9, a10, a11, a12, a13, a14⟩ := let_ok (s := p) hf hT N p (si (si uR 5 (nI p)) 4 1) (si xC 29 (nI p)) (by omega) hp (by omega) h2 h3 rfl rfl h27 h28 rfl
        refine ⟨uR', xC', a1, a2, ⟨p, p', by omega, a3, a4, ?_, ?_, a6, a7, Or.inr (Or.inl ⟨a5 (by omega) hy, ?_, a8, w, a9, a10, a11⟩)⟩, fun k k1 k2 k3 k4 => ?_, fun k k1 k2 k3 k4 => ?_, a14⟩
        · rw [a12 5 (by decide)]; rfl
        · rw [a13 29 (by decide) (by decide) (by decide)]; rfl
        · rw [a12 4 (by decide)]; rfl
        · rw [a12 k k1, gi_si, if_neg k2, gi_si, if_neg k3]
        · rw [a13 k k1 k3 k4, gi_si, if_neg k2]
      · simp only [hy, Option.bind_some, Bool.false_eq_true, ↓reduceIte]
        rcases isDigit_b (ga xA 1 p) with hz | hz
        · simp only [hz, Option.bind_some, ↓reduceIte]
          obtain ⟨uR', xC', p', a1, a2, a3, a4, a5, a6, a7, a8, a9, a10, a11⟩ := num_ok2 hf hT N p (si (si (si uR 5 (nI p)) 4 2) 6 0) (si (si (si xC 29 (nI p)) 30 1) 31 0) (by omega) hp h2 h3 h27 h28 (Or.inl ⟨0, by decide, rfl, rfl⟩)
          unfold f_X9_takeNumber
          rw [a1, a2]
          refine ⟨uR', xC', rfl, rfl, ⟨p, p', by omega, a3, a4, ?_, ?_, a6, a7, Or.inr (Or.inr (Or.inl ⟨a5 (by omega) hz, ?_, ?_, a8⟩))⟩, fun k k1 k2 k3 k4 => ?_, fun k k1 k2 k3 k4 => ?_, a11⟩
          · rw [a9 5 (by decide) (by decide)]; rfl
          · rw [a10 29 (by decide) (by decide)]; rfl
          · rw [a9 4 (by decide) (by decide)]; rfl
          · rw [a10 30 (by decide) (by decide)]; rfl
          · rw [a9 k k1 k4, gi_si, if_neg k4, gi_si, if_neg k2, gi_si, if_neg k3]
          · rw [a10 k k1 k4, gi_si, if_neg k4, gi_si, if_neg k3, gi_si, if_neg k2]
        · simp only [hz, Option.bind_some, Bool.false_eq_true, ↓reduceIte]
          have fr1 : ∀ x y k, k ≠ 3 → k ≠ 4 → k ≠ 5 → k ≠ 6 → gi (si (si (si uR 5 (nI p)) 4 x) 3 y) k = gi uR k := fun x y k k1 k2 k3 k4 => by rw [gi_si, if_neg k1, gi_si, if_neg k2, gi_si, if_neg k3]
          have fr2 : ∀ x y k, k ≠ 28 → k ≠ 29 → k ≠ 30 → k ≠ 31 → gi (si (si (si xC 29 (nI p)) 30 x) 28 y) k = gi xC k := fun x y k k1 k2 k3 k4 => by rw [gi_si, if_neg k1, gi_si, if_neg k3, gi_si, if_neg k2]
          have q1 : ∀ x, gi (si (si uR 5 (nI p)) 4 x) 3 + 1 = nI (p + 1) := fun x => by
            have : gi (si (si uR 5 (nI p)) 4 x) 3 = nI p := h3
            rw [this]; exact nadd p 1
          have q2 : ∀ x, gi (si (si xC 29 (nI p)) 30 x) 28 + 1 = nI (p + 1) := fun x => by
            have : gi (si (si xC 29 (nI p)) 30 x) 28 = nI p := h28
            rw [this]; exact nadd p 1
          rw [q1, q1, q2, q2]
          by_cases h59 : ga xA 1 p = 59
          · rw [if_pos h59, if_pos h59]
            exact ⟨_, _, rfl, rfl, ⟨p, p + 1, by omega, by omega, by omega, rfl, rfl, rfl, rfl, Or.inr (Or.inr (Or.inr (Or.inl ⟨by omega, rfl, rfl⟩)))⟩, fr1 _ _, fr2 _ _, rfl⟩
          · rw [if_neg h59, if_neg h59]
            exact ⟨_, _, rfl, rfl, ⟨p, p + 1, by omega, by omega, by omega, rfl, rfl, rfl, rfl, Or.inr (Or.inr (Or.inr (Or.inr ⟨by omega, rfl, rfl⟩)))⟩, fr1 _ _, fr2 _ _, rfl⟩
end
