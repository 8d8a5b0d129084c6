/-! ===== text: joined, gone, first ===== -/
section
variable {N : Nat} {uG xA : sx_C} {e : Nat}
theorem tk_cong {q : Nat} {uR uR' xC xC' : sx_C} (ht : tkR N uG e q uR xC) (h3 : gi uR' 3 = gi uR 3) (h4 : gi uR' 4 = gi uR 4) (h5 : gi uR' 5 = gi uR 5) (h6 : gi uR' 6 = gi uR 6) (c8 : gi xC' 28 = gi xC 28) (c9 : gi xC' 29 = gi xC 29) (c30 : gi xC' 30 = gi xC 30) (c31 : gi xC' 31 = gi xC 31) : tkR N uG e q uR' xC' := by
  obtain ⟨s, p, a1, a2, a3, a4, a5, a6, a7, a8⟩ := ht
  refine ⟨s, p, a1, a2, a3, by rw [h5]; exact a4, by rw [c9]; exact a5, by rw [h3]; exact a6, by rw [c8]; exact a7, ?_⟩
  rw [h4, h6, c30, c31, word_cong h3 h4 h5]
  exact a8
theorem stand_ok (hf : 2000 ≤ N) (hT : tpR uG xA e) {q K L A B : Nat} {u v : Nat → Nat} {uD uR xC : sx_C} (hd : dR K L A B u v uD xC) (hg : fgR e K uR xC) (he : eR uR xC) (h8 : gi uR 8 = 1) (ht : tkR N uG e q uR xC) (h30 : gi xC 30 = 0) {x : Int32} (hx : x = 0 ∨ x = 1) : ∃ b uD' uR' xC', f_X9_standSentence N uG x uD uR = some (b, uD', uR') ∧ f_X12_readDone N xA x xC = some xC' ∧ oR N uG e (q + 1) b uD' uR' xC' := by
  have e42 : ∀ {c : sx_C} (x y : Int32), ¬ gi c 32 = 0 → f_X12_readDone_42 N xA x y c = some c := fun {c} x y h => by
    unfold f_X12_readDone_42
    simp only [goOn_f h, Option.bind_some, if_neg h]
  have hK := hd.1.2.2.2.2.2.1
  have hL := hK.2.2
  obtain ⟨u1, c1, s1, o1, t1, f1⟩ := go_ok hf hT hg ht (by rw [h30]; decide)
  have hg1 := fgR_t hg f1
  have hd1 := dR_t hd f1
  have he1 := eR_t he f1
  have h81 : gi u1 8 = 1 := by rw [f1.1 8 (by decide) (by decide) (by decide) (by decide)]; exact h8
  have h0 := hg1.2.2.1
  have h16 : gi c1 16 = nI L := hd1.2.1.1
  have h5 : gi uD 5 = nI L := hd.1.2.2.2.1
  unfold f_X9_standSentence f_X12_readDone f_X6d_isLine
  simp only [s1, o1, Option.bind_some]
  rw [h16, h5]
  rcases below_ok (X := L) hL hg1 t1 with ⟨k1, n, n1, n2, n3, n4, n5⟩ | ⟨k1, u2, c2, r1, r2, r3⟩
  · rw [if_pos k1, n2, if_neg (nI_ne_neg (by omega)).2.2, if_neg (fun h => by have := (nle (by omega) (by omega)).mp h; omega), if_neg (show ¬ (14 : Int32) ≤ nI n from fun h => by have := (nle (a := 14) (by omega) (by omega)).mp h; omega)]
    simp only [n5, Option.bind_some, ↓reduceIte]
    rw [if_pos h0, has_ok _ (by omega), Option.bind_some]
    have h19 : gi c1 19 = gi uD 7 := hd1.2.2.1.1
    have h20 : gi c1 20 = gi uD 8 := hd1.2.2.1.2.1
    rw [h19, h20]
    have hsh := (shr_ok (gi uD 7 ||| gi uD 8) (show n < 32 by omega)).1
    cases hb : bt (gi uD 7 ||| gi uD 8) n
    · rw [if_neg (by decide), if_neg (show ¬ (sp_shr (gi uD 7 ||| gi uD 8) (nI n)) &&& 1 = 1 from fun h => by have := hsh.mp h; rw [hb] at this; cases this)]
      rw [b_or] at hb
      have hb1 : bt (gi uD 7) n = false := by cases h : bt (gi uD 7) n <;> rw [h] at hb <;> simp at hb ⊢
      have hb2 : bt (gi uD 8) n = false := by cases h : bt (gi uD 8) n <;> rw [h] at hb <;> simp at hb ⊢
      obtain ⟨u3, c3, s3, o3, t3, f3⟩ := go_ok hf hT hg1 t1 (by rw [n3]; decide)
      have hg3 := fgR_t hg1 f3
      have hd3 := dR_t hd1 f3
      have he3 := eR_t he1 f3
      have h83 : gi u3 8 = 1 := by rw [f3.1 8 (by decide) (by decide) (by decide) (by decide)]; exact h81
      have t4 : tkR N uG e (q + 1) u3 c3 := by
        obtain ⟨s, p, b1, b2⟩ := t3
        exact ⟨s, p, by omega, b2⟩
      unfold f_X9_standSentence_106 f_X12_readDone_42
      simp only [s3, o3, Option.bind_some]
      rw [if_pos hg3.2.2.1]
      obtain ⟨D1, D2, ⟨m5, m6, m7, m8⟩, m9, b1, b2, b3⟩ := hd3
      have hbit : ∀ (y : Int32) z, bt (y ||| sp_shl 1 (nI n)) z = (bt y z || decide (z = n)) := fun y z => by
        by_cases hz : z < 32
        · rw [b_or, h_bit (by omega) hz]
        · rw [b_big (by omega), b_big (by omega)]
          have : ¬ z = n := by omega
          simp [this]
      rcases hx with hx | hx
      · rw [if_pos hx, if_pos hx]
        refine ⟨true, _, u3, _, rfl, rfl, Or.inl ⟨rfl, K, L, A, B, u, v, ?_, hg3, he3, h83, tk_cong t4 rfl rfl rfl rfl rfl rfl rfl rfl⟩⟩
        refine ⟨D1, D2, ⟨m5, ?_, m7, m8⟩, m9, b1, fun z hz => ?_, fun z hz => ?_⟩
        · show gi c3 20 ||| sp_shl 1 (nI n) = gi uD 8 ||| sp_shl 1 (nI n)
          rw [m6]
        · have hz : bt (gi uD 8 ||| sp_shl 1 (nI n)) z = true := hz
          rw [hbit] at hz
          by_cases ez : z = n
          · omega
          · simp [ez] at hz; exact b2 z hz
        · have hz1 : bt (gi uD 7) z = true := hz.1
          have hz2 : bt (gi uD 8 ||| sp_shl 1 (nI n)) z = true := hz.2
          rw [hbit] at hz2
          by_cases ez : z = n
          · rw [ez, hb1] at hz1; cases hz1
          · simp [ez] at hz2; exact b3 z ⟨hz1, hz2⟩
      · have hx0 : ¬ x = 0 := by rw [hx]; decide
        rw [if_neg hx0, if_neg hx0]
        refine ⟨true, _, u3, _, rfl, rfl, Or.inl ⟨rfl, K, L, A, B, u, v, ?_, hg3, he3, h83, tk_cong t4 rfl rfl rfl rfl rfl rfl rfl rfl⟩⟩
        refine ⟨D1, D2, ⟨?_, m6, m7, m8⟩, m9, fun z hz => ?_, b2, fun z hz => ?_⟩
        · show gi c3 19 ||| sp_shl 1 (nI n) = gi uD 7 ||| sp_shl 1 (nI n)
          rw [m5]
        · have hz : bt (gi uD 7 ||| sp_shl 1 (nI n)) z = true := hz
          rw [hbit] at hz
          by_cases ez : z = n
          · omega
          · simp [ez] at hz; exact b1 z hz
        · have hz1 : bt (gi uD 8) z = true := hz.2
          have hz2 : bt (gi uD 7 ||| sp_shl 1 (nI n)) z = true := hz.1
          rw [hbit] at hz2
          by_cases ez : z = n
          · rw [ez, hb2] at hz1; cases hz1
          · simp [ez] at hz2; exact b3 z ⟨hz2, hz1⟩
    · obtain ⟨u5, c5, r1, r2, r3⟩ := refuse_ok h0 t1 (x := 3) (by decide)
      rw [if_pos rfl, if_pos (hsh.mpr hb), r1, r2, Option.bind_some, Option.bind_some, e42 _ _ r3.2.2]
      exact ⟨false, uD, u5, c5, rfl, rfl, Or.inr ⟨rfl, r3⟩⟩
  · have h26 : f_X9_standSentence_26 N uG uD u1 = some (false, uD, u2) := by unfold f_X9_standSentence_26; rw [r1]; rfl
    simp only [r2, Option.bind_some, if_neg r3.2.2]
    rw [e42 _ _ r3.2.2]
    refine ⟨false, uD, u2, c2, ?_, rfl, Or.inr ⟨rfl, r3⟩⟩
    rcases k1 with k1 | ⟨k1, k3, k4⟩
    · rw [if_neg k1, h26]
    · rw [if_pos k1, if_neg k3, if_pos k4, Option.bind_some, if_neg (by decide), h26]
/-- the word of the token, on both sides -/
theorem word_k {q : Nat} {uR xC : sx_C} (ht : tkR N uG e q uR xC) : ∃ w, w < 9 ∧ f_X9_word N uG uR = some (nI w) ∧ ((gi xC 30 = 0 ∧ gi xC 31 = nI w - 1) ∨ (¬ gi xC 30 = 0 ∧ w = 0)) := by
  obtain ⟨s, p, a1, a2, a3, a4, a5, a6, a7, a8⟩ := ht
  have no : ∀ {y : Int32}, gi uR 4 = y → ¬ y = 1 → f_X9_word N uG uR = some (nI 0) := fun {y} h1 h2 => by
    unfold f_X9_word
    rw [h1, if_neg h2]; rfl
  rcases a8 with ⟨h4, h30, -⟩ | ⟨-, h4, h30, w, w1, w2, w3⟩ | ⟨-, h4, h30, -⟩ | ⟨-, h4, h30⟩ | ⟨-, h4, h30⟩
  · exact ⟨0, by decide, no h4 (by decide), Or.inr ⟨by rw [h30]; decide, rfl⟩⟩
  · exact ⟨w, w1, w2, Or.inl ⟨h30, w3⟩⟩
  · exact ⟨0, by decide, no h4 (by decide), Or.inr ⟨by rw [h30]; decide, rfl⟩⟩
  · exact ⟨0, by decide, no h4 (by decide), Or.inr ⟨by rw [h30]; decide, rfl⟩⟩
  · exact ⟨0, by decide, no h4 (by decide), Or.inr ⟨by rw [h30]; decide, rfl⟩⟩
theorem w67 : ∀ w, w < 9 → (nI w - 1 = 6 ↔ w = 7) ∧ (nI w - 1 = 7 ↔ w = 8) ∧ (nI w = 7 ↔ w = 7) ∧ (nI w = 8 ↔ w = 8) := by decide +kernel
theorem first_ok (hf : 2000 ≤ N) (hT : tpR uG xA e) {q K L A B : Nat} {u v : Nat → Nat} {uD uR xC : sx_C} (hd : dR K L A B u v uD xC) (hg : fgR e K uR xC) (he : eR uR xC) (h8 : gi uR 8 = 1) (ht : tkR N uG e q uR xC) (h30 : gi xC 30 = 0) : ∃ b uD' uR' xC', f_X9_firstSentence N uG uD uR = some (b, uD', uR') ∧ f_X12_readFirst N xA xC = some xC' ∧ oR N uG e (q + 1) b uD' uR' xC' := by
  have e39 : ∀ {c : sx_C}, ¬ gi c 32 = 0 → f_X12_readFirst_39 N xA c = some c := fun {c} h => by
    unfold f_X12_readFirst_39
    simp only [if_neg h]
  have e12 : ∀ {c : sx_C}, ¬ gi c 32 = 0 → f_X12_readFirst_12 N xA c = some c := fun {c} h => by
    unfold f_X12_readFirst_12 f_X12_isWord
    simp only [goOn_f h, Option.bind_some, if_neg h, wrong_f h, Bool.false_eq_true, ↓reduceIte]
    exact e39 h
  unfold f_X9_firstSentence f_X12_readFirst
  rw [he.2]
  by_cases h10 : gi uR 10 = 0
  · rw [if_pos h10, if_pos h10]
    have hg0 : fgR e K (si uR 10 1) xC := hg
    have ht0 : tkR N uG e q (si uR 10 1) xC := tk_cong ht rfl rfl rfl rfl rfl rfl rfl rfl
    obtain ⟨u1, c1, s1, o1, t1, f1⟩ := go_ok hf hT hg0 ht0 (by rw [h30]; decide)
    have hg1 := fgR_t hg0 f1
    have hd1 := dR_t hd f1
    have h0 := hg1.2.2.1
    have h101 : gi u1 10 = 1 := by rw [f1.1 10 (by decide) (by decide) (by decide) (by decide)]; rfl
    have h91 : gi c1 25 = gi u1 9 := by
      rw [f1.1 9 (by decide) (by decide) (by decide) (by decide), f1.2.1 25 (by decide) (by decide) (by decide) (by decide)]
      exact he.1
    have h81 : gi u1 8 = 1 := by rw [f1.1 8 (by decide) (by decide) (by decide) (by decide)]; exact h8
    obtain ⟨w, w1, w2, w3⟩ := word_k t1
    obtain ⟨j1, j2, j3, j4⟩ := w67 w w1
    unfold f_X12_readFirst_12 f_X12_isWord
    simp only [s1, o1, w2, Option.bind_some]
    rw [if_pos h0, if_pos h0]
    have good : ∀ (y : Int32), (y = 0 ∨ y = 1) → ¬ gi c1 30 = 3 → ∃ b uD' uR' xC', f_X9_firstSentence_60 N uG y uD u1 = some (b, uD', uR') ∧ f_X12_readFirst_67 N xA y (si c1 26 1) = some xC' ∧ oR N uG e (q + 1) b uD' uR' xC' := by
      intro y hy hk
      have hg2 : fgR e K u1 (si (si c1 26 1) 23 y) := hg1
      have t2 : tkR N uG e (q + 1) u1 (si (si c1 26 1) 23 y) := tk_cong t1 rfl rfl rfl rfl rfl rfl rfl rfl
      obtain ⟨u3, c3, s3, o3, t3, f3⟩ := go_ok hf hT hg2 t2 hk
      unfold f_X9_firstSentence_60 f_X12_readFirst_67
      simp only [s3, o3, Option.bind_some]
      have he2 : eR u1 (si (si c1 26 1) 23 y) := ⟨h91, h101.symm⟩
      refine ⟨true, _, u3, c3, rfl, rfl, Or.inl ⟨rfl, K, L, A, B, u, v, dR_t (uR' := u3) (uR := u1) (xC := si (si c1 26 1) 23 y) ?_ f3, fgR_t hg2 f3, eR_t he2 f3, ?_, ?_⟩⟩
      · obtain ⟨D1, D2, ⟨m5, m6, m7, m8⟩, m9, b1, b2, b3⟩ := hd1
        refine ⟨D1, D2, ⟨m5, m6, rfl, m8⟩, ?_, b1, b2, b3⟩
        rcases hy with hy | hy
        · exact ⟨0, by decide, hy⟩
        · exact ⟨1, by decide, hy⟩
      · rw [f3.1 8 (by decide) (by decide) (by decide) (by decide)]; exact h81
      · obtain ⟨s, p, b1, b2⟩ := t3
        exact ⟨s, p, by omega, b2⟩
    obtain ⟨u5, c5, r1, r2, r3⟩ := refuse_ok h0 t1 (x := 1) (by decide)
    rcases w3 with ⟨k1, k2⟩ | ⟨k1, k2⟩
    · have hk3 : ¬ gi c1 30 = 3 := by rw [k1]; decide
      rw [if_pos k1, if_pos k1, k2]
      by_cases e7 : w = 7
      · rw [if_pos (j1.mpr e7), if_pos (j3.mpr e7)]
        unfold f_X9_firstSentence_45 f_X12_readFirst_39
        simp only [Option.bind_some, ↓reduceIte]
        rw [if_pos (j3.mpr e7), if_pos h0, if_pos (show gi (si c1 26 1) 31 = 6 from k2.trans (j1.mpr e7))]
        exact good 0 (Or.inl rfl) hk3
      · rw [if_neg (fun h => e7 (j1.mp h)), if_neg (fun h => e7 (j3.mp h))]
        simp only [Option.bind_some, Bool.false_eq_true, ↓reduceIte]
        by_cases e8 : w = 8
        · rw [if_pos (j2.mpr e8), if_pos (j4.mpr e8)]
          unfold f_X9_firstSentence_45 f_X12_readFirst_39
          simp only [Option.bind_some, ↓reduceIte]
          rw [if_neg (fun h => e7 (j3.mp h)), if_pos h0, if_neg (show ¬ gi (si c1 26 1) 31 = 6 from fun h => e7 (j1.mp (k2.symm.trans h)))]
          exact good 1 (Or.inr rfl) hk3
        · rw [if_neg (fun h => e8 (j2.mp h)), if_neg (fun h => e8 (j4.mp h)), r1]
          simp only [Option.bind_some, Bool.false_eq_true, ↓reduceIte, r2]
          rw [e39 r3.2.2]
          exact ⟨false, uD, u5, c5, rfl, rfl, Or.inr ⟨rfl, r3⟩⟩
    · have e7 : ¬ nI w = 7 := by rw [k2]; decide
      have e8 : ¬ nI w = 8 := by rw [k2]; decide
      rw [if_neg k1, if_neg k1, if_neg e7, if_neg e8, r1]
      simp only [Option.bind_some, Bool.false_eq_true, ↓reduceIte, r2]
      rw [e39 r3.2.2]
      exact ⟨false, uD, u5, c5, rfl, rfl, Or.inr ⟨rfl, r3⟩⟩
  · rw [if_neg h10, if_neg h10]
    obtain ⟨u5, c5, r1, r2, r3⟩ := refuse_ok hg.2.2.1 ht (x := 3) (by decide)
    rw [r1, r2, Option.bind_some, Option.bind_some, e12 r3.2.2]
    exact ⟨false, uD, u5, c5, rfl, rfl, Or.inr ⟨rfl, r3⟩⟩
end
