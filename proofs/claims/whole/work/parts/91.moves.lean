/-! ===== pass, move, undo ===== -/
section
variable {N : Nat} {LK : sLK}
theorem turn_01 {m : Nat} (h : m < 2) : 1 - nI m = nI (1 - m) := by
  have : m = 0 ∨ m = 1 := by omega
  rcases this with h | h <;> rw [h] <;> rfl
/-- a turn: both write, both change who is to move -/
theorem turn_ok {K L A B : Nat} {u v : Nat → Nat} {uG uN uF uL uH xA : sx_C} (hf : 300 ≤ N) (hC : sCore K L A B u v uG uN uF xA) (hR : sRest LK L A B u v uG uN uL uH xA) {a b : Int32} (hab : hent L a b) : ∃ uG' uH' xA', f_X11_turn a uG uH = some (uG', uH') ∧ f_X12_writes N b xA = some xA' ∧ sCore K L A B u v uG' uN uF xA' ∧ sRest LK L A B u v uG' uN uL uH' xA' ∧ gi uG' 12 = gi uG 12 ∧ gi uG' 13 = gi uG 13 ∧ gi xA' 7 = gi xA 7 ∧ gi xA' 8 = gi xA 8 := by
  obtain ⟨hH, ⟨t, t1, t2, t3, t4⟩, ⟨x1, x2, x3⟩, hLK⟩ := hR
  obtain ⟨hN, ⟨n1, n2, n3, n4, n5, n6, n7, n8⟩, hF, ⟨c4, c5, c6⟩, ⟨m, c8, c9⟩, c10, c11, c12⟩ := hC
  obtain ⟨uH', xA', h1, h2, h3, h4, h5, h6⟩ := hist_add hf hH hab
  unfold f_X11_turn
  rw [h1, Option.bind_some]
  refine ⟨_, uH', xA', rfl, h2, ⟨hN, ⟨?_, ?_, ?_, ?_, ?_, n6, n7, n8⟩, hF, ⟨?_, ?_, ?_⟩, ⟨1 - m, by omega, ?_⟩, c10, c11, c12⟩, ⟨h3, ⟨t, t1, t2, ?_, ?_⟩, ⟨?_, ?_, ?_⟩, hLK⟩, rfl, rfl, ?_, ?_⟩
  · rw [h5 3 (by decide) (by decide)]; exact n1
  · rw [h5 9 (by decide) (by decide)]; exact n2
  · rw [h5 10 (by decide) (by decide)]; exact n3
  · rw [h5 4 (by decide) (by decide)]; exact n4
  · rw [h6 5 (by decide), h6 6 (by decide)]; exact n5
  · rw [h5 7 (by decide) (by decide)]; exact c4
  · rw [h5 8 (by decide) (by decide)]; exact c5
  · rw [h4, c6]; rfl
  · show 1 - gi uG 14 = _
    rw [c9, turn_01 c8]
  · rw [h5 2 (by decide) (by decide)]; exact t3
  · rw [h6 1 (by decide)]; exact t4
  · rw [h5 34 (by decide) (by decide)]; exact x1
  · rw [h5 35 (by decide) (by decide)]; exact x2
  · rw [h5 12 (by decide) (by decide)]; exact x3
  · exact h5 7 (by decide) (by decide)
  · exact h5 8 (by decide) (by decide)
theorem lo_pass (hf : 300 ≤ N) : LO_pass N (sI LK) := by
  rintro uG uN uD uR uF uP uL uT uA uM uH xA xB xC xD xE xF xG xH xI xJ xK xL ⟨K, L, A, B, u, v, hC, hR⟩
  obtain ⟨hN, hM, hF, ⟨e7, e8, e11⟩, -⟩ := id hC
  obtain ⟨xD', g1⟩ := misOver_ok (by omega : 20 ≤ N) hM xD
  rw [e7, e8] at g1
  unfold f_X11_pass f_X12_pass
  simp only [cisOver_ok (by omega : 20 ≤ N) hN, g1, Option.bind_some]
  cases (!decide (hld u v L A B (gi uG 12) (gi uG 13) = 2))
  · obtain ⟨uG', uH', xA', t1, t2, t3, t4, -⟩ := turn_ok hf hC hR (a := -1) (b := -2) (Or.inr ⟨rfl, rfl⟩)
    rw [if_neg (by decide), if_neg (by decide), t1, t2]
    exact ⟨_, rfl, _, rfl, rfl, K, L, A, B, u, v, t3, t4⟩
  · exact ⟨_, rfl, _, rfl, rfl, K, L, A, B, u, v, hC, hR⟩
theorem lo_move (hf : 300 ≤ N) : LO_move N (sI LK) := by
  rintro uG uN uD uR uF uP uL uT uA uM uH xA xB xC xD xE xF xG xH xI xJ xK xL x ⟨K, L, A, B, u, v, hC, hR⟩
  obtain ⟨hN, hM, hF, ⟨e7, e8, e11⟩, ⟨m, m1, m2⟩, hJ, hG, hdis⟩ := id hC
  have hL : L ≤ 14 := (cN_8 hN).2.2.2
  unfold f_X11_move f_X12_move
  rcases line_cases hN hM x with ⟨a, b⟩ | ⟨i, i1, rfl, i3, i4⟩
  · simp only [a, b, Option.bind_some, Bool.false_eq_true, ↓reduceIte]
    exact ⟨_, rfl, _, rfl, rfl, K, L, A, B, u, v, hC, hR⟩
  · obtain ⟨xD', g1⟩ := misOver_ok (by omega : 20 ≤ N) hM xD
    rw [e7, e8] at g1
    simp only [i3, i4, g1, cisOpen_ok hN (by omega : i < 32), misOpen_ok hM (by omega : i < 32), cisOver_ok (by omega : 20 ≤ N) hN, Option.bind_some, ↓reduceIte]
    rw [e7, e8]
    cases ho : bt (opn L (gi uG 12) (gi uG 13)) i
    · exact ⟨_, rfl, _, rfl, rfl, K, L, A, B, u, v, hC, hR⟩
    · rw [if_pos rfl, if_pos rfl]
      have hni : bt (gi uG 12) i = false ∧ bt (gi uG 13) i = false := by
        rw [opn_bit (by omega) _ _ (by omega : i < 32)] at ho
        simp at ho
        exact ho.2
      cases (!decide (hld u v L A B (gi uG 12) (gi uG 13) = 2))
      · simp only [Bool.false_eq_true, ↓reduceIte]
        -- either mover
        have fin : ∀ uG1 xA1, sCore K L A B u v uG1 uN uF xA1 → sRest LK L A B u v uG1 uN uL uH xA1 → ∃ r1, f_X11_move_68 N uN (nI i) uG1 uH = some r1 ∧ ∃ r2, f_X12_move_70 N (nI i) xA1 (si xB 0 0) xD' = some r2 ∧ r1.1 = r2.1 ∧ sI LK (r1.2.1) uN uD uR uF uP uL uT uA uM (r1.2.2) (r2.2.1) (r2.2.2.1) xC (r2.2.2.2) xE xF xG xH xI xJ xK xL := by
          intro uG1 xA1 hC1 hR1
          unfold f_X11_move_68 f_X12_move_70
          obtain ⟨uG', uH', xA', t1, t2, t3, t4, t5, t6, t7, t8⟩ := turn_ok hf hC1 hR1 (a := nI i) (b := nI i) (Or.inl ⟨i, i1, rfl, rfl⟩)
          obtain ⟨xD2, g2⟩ := mhas_ok t3.2.1 (by omega : 20 ≤ N) (gi xA' 7) (gi xA' 8) xD'
          simp only [t1, t2, g2, holder_ok hN (by omega : 20 ≤ N), Option.bind_some]
          refine ⟨_, rfl, _, rfl, ?_, K, L, A, B, u, v, t3, t4⟩
          show hld u v L A B (gi uG' 12) (gi uG' 13) = hld u v L A B (gi xA' 7) (gi xA' 8)
          rw [t3.2.2.2.1.1, t3.2.2.2.1.2.1]
        obtain ⟨hH, hT, hX, hLK⟩ := hR
        obtain ⟨s, e, q1, q2, q3, q4, q5, q6⟩ := hH
        obtain ⟨t, t1, t2, t3, t4⟩ := hT
        have hbit : ∀ z, bt (sp_shl 1 (nI i)) z = decide (z = i) := bit_all (by omega)
        rw [e11]
        by_cases h0 : gi uG 14 = 0
        · rw [if_pos h0, if_pos h0]
          refine fin _ _ ⟨hN, hM, hF, ⟨rfl, e8, e11⟩, ⟨m, m1, m2⟩, fun z hz => ?_, hG, fun z hz => ?_⟩ ⟨⟨s, e, q1, q2, q3, q4, q5, q6⟩, ⟨t, t1, t2, t3, t4⟩, hX, hLK⟩
          · have hz : bt (gi uG 12 ||| sp_shl 1 (nI i)) z = true := hz
            rw [b_or, hbit] at hz
            by_cases e2 : z = i
            · omega
            · exact hJ z (by simpa [e2] using hz)
          · have hz1 : bt (gi uG 12 ||| sp_shl 1 (nI i)) z = true := hz.1
            have hz2 : bt (gi uG 13) z = true := hz.2
            rw [b_or, hbit] at hz1
            by_cases e2 : z = i
            · rw [e2, hni.2] at hz2; cases hz2
            · exact hdis z ⟨by simpa [e2] using hz1, hz2⟩
        · rw [if_neg h0, if_neg h0]
          refine fin _ _ ⟨hN, hM, hF, ⟨e7, rfl, e11⟩, ⟨m, m1, m2⟩, hJ, fun z hz => ?_, fun z hz => ?_⟩ ⟨⟨s, e, q1, q2, q3, q4, q5, q6⟩, ⟨t, t1, t2, t3, t4⟩, hX, hLK⟩
          · have hz : bt (gi uG 13 ||| sp_shl 1 (nI i)) z = true := hz
            rw [b_or, hbit] at hz
            by_cases e2 : z = i
            · omega
            · exact hG z (by simpa [e2] using hz)
          · have hz1 : bt (gi uG 12) z = true := hz.1
            have hz2 : bt (gi uG 13 ||| sp_shl 1 (nI i)) z = true := hz.2
            rw [b_or, hbit] at hz2
            by_cases e2 : z = i
            · rw [e2, hni.1] at hz1; cases hz1
            · exact hdis z ⟨hz1, by simpa [e2] using hz2⟩
      · exact ⟨_, rfl, _, rfl, rfl, K, L, A, B, u, v, hC, hR⟩
theorem lo_undo : LO_undo N (sI LK) := by
  rintro uG uN uD uR uF uP uL uT uA uM uH xA xB xC xD xE xF xG xH xI xJ xK xL ⟨K, L, A, B, u, v, hC, hR⟩
  obtain ⟨hN, hM, hF, ⟨e7, e8, e11⟩, ⟨m, m1, m2⟩, hJ, hG, hdis⟩ := id hC
  have hL : L ≤ 14 := (cN_8 hN).2.2.2
  obtain ⟨⟨s, e, q1, q2, q3, q4, q5, q6⟩, hT, hX, hLK⟩ := id hR
  unfold f_X11_undo f_X12_undo
  rw [q3, q4]
  by_cases h0 : s = 0
  · rw [if_pos ((nz (by omega)).mpr h0), if_pos ((nz (by omega)).mpr h0)]
    exact ⟨_, rfl, _, rfl, rfl, K, L, A, B, u, v, hC, hR⟩
  · rw [if_neg (fun h => h0 ((nz (by omega)).mp h)), if_neg (fun h => h0 ((nz (by omega)).mp h))]
    have es : nI s - 1 = nI (s - 1) := by
      have := nsub (s - 1) 1
      rw [show s - 1 + 1 = s by omega] at this
      exact this
    have tl : f_X2_takeLatest uH = some (ga uH 0 ((e + (s - 1)) % 40), si uH 2 (nI (s - 1))) := by
      unfold f_X2_takeLatest
      rw [q3, if_neg (fun h => h0 ((nz (by omega)).mp h)), es]
      have g2 : gi (si uH 2 (nI (s - 1))) 2 = nI (s - 1) := rfl
      have g1 : gi (si uH 2 (nI (s - 1))) 1 = nI e := q5
      rw [g2, slot_ok g1 (by omega), Option.bind_some, rd_ok (by omega) (by decide)]
      rfl
    rw [tl, Option.bind_some, es]
    have hist' : sHist L (si uH 2 (nI (s - 1))) (si xA 14 (nI (s - 1))) := ⟨s - 1, e, by omega, q2, rfl, rfl, q5, fun k hk => q6 k (by omega)⟩
    obtain ⟨w, hw⟩ : ∃ w, w = si (si xA 14 (nI (s - 1))) 11 (1 - (gi (si xA 14 (nI (s - 1))) 11)) := ⟨_, rfl⟩
    rw [← hw]
    have w14 : gi w 14 = nI (s - 1) := by rw [hw]; rfl
    have w13 : ga w 13 = ga xA 13 := by rw [hw]; rfl
    have w7 : gi w 7 = gi xA 7 := by rw [hw]; rfl
    have w8 : gi w 8 = gi xA 8 := by rw [hw]; rfl
    have w11 : gi w 11 = nI (1 - m) := by
      rw [hw]
      show 1 - gi xA 11 = _
      rw [e11, m2, turn_01 m1]
    have g14 : 1 - gi uG 14 = nI (1 - m) := by rw [m2, turn_01 m1]
    rw [w14, rd_ok (by omega) (by decide), Option.bind_some, w13]
    have hMw : mNet w K L A B u v := by rw [hw]; exact hM
    rcases q6 (s - 1) (by omega) with ⟨i, i1, i2, i3⟩ | ⟨i2, i3⟩
    · dsimp only
      rw [i2, i3, if_neg (nI_ne_neg (by omega)).2.2]
      rcases cline_ok hN (nI i) with ⟨-, b⟩ | ⟨j, -, -, j3⟩
      · exact absurd rfl (b i i1)
      · rw [j3, Option.bind_some, if_pos rfl]
        have hand : ∀ X : Int32, ∀ z, bt (X &&& (sp_shl 1 (nI i) ^^^ (-1))) z = true → bt X z = true := fun X z hz => by
          rw [b_and] at hz
          simp at hz
          exact hz.1
        refine ⟨_, rfl, _, rfl, rfl, K, L, A, B, u, v, ⟨hN, hMw, hF, ⟨?_, ?_, ?_⟩, ⟨1 - m, by omega, ?_⟩, fun z hz => ?_, fun z hz => ?_, fun z hz => ?_⟩, ⟨s - 1, e, by omega, q2, rfl, ?_, q5, fun k hk => ?_⟩, ?_, ?_, hLK⟩
        · show gi w 7 &&& _ = gi uG 12 &&& _
          rw [w7, e7]
        · show gi w 8 &&& _ = gi uG 13 &&& _
          rw [w8, e8]
        · show gi w 11 = 1 - gi uG 14
          rw [w11, g14]
        · show 1 - gi uG 14 = _
          rw [g14]
        · exact hJ z (hand _ z hz)
        · exact hG z (hand _ z hz)
        · exact hdis z ⟨hand _ z hz.1, hand _ z hz.2⟩
        · exact w14
        · show hent L _ (ga w 13 k)
          rw [w13]; exact q6 k (by omega)
        · rw [hw]; exact hT
        · rw [hw]; exact hX
    · dsimp only
      rw [i2, i3, if_pos (by decide)]
      rcases cline_ok hN (-1) with ⟨b, -⟩ | ⟨j, j1, j2, -⟩
      · rw [b, Option.bind_some, if_neg (by decide)]
        refine ⟨_, rfl, _, rfl, rfl, K, L, A, B, u, v, ⟨hN, hMw, hF, ⟨?_, ?_, ?_⟩, ⟨1 - m, by omega, ?_⟩, hJ, hG, hdis⟩, ⟨s - 1, e, by omega, q2, rfl, ?_, q5, fun k hk => ?_⟩, ?_, ?_, hLK⟩
        · show gi w 7 = gi uG 12
          rw [w7, e7]
        · show gi w 8 = gi uG 13
          rw [w8, e8]
        · show gi w 11 = 1 - gi uG 14
          rw [w11, g14]
        · show 1 - gi uG 14 = _
          rw [g14]
        · exact w14
        · show hent L _ (ga w 13 k)
          rw [w13]; exact q6 k (by omega)
        · rw [hw]; exact hT
        · rw [hw]; exact hX
      · exact absurd j2.symm (nI_ne_neg (by omega)).1
/-! ===== now, reaches ===== -/
theorem heads_ok {p : Int32} {f : Nat → Nat} (hf : 20 ≤ N) (hp : pk p f) (hf8 : ∀ k, k < 8 → f k < 8) {K : Nat} (hK : K ≤ 8) : ∃ m, f_X8_heads N p (nI K) = some m ∧ ∀ z, bt m z = true ↔ ∃ k, k < K ∧ f k = z := by
  have loop : ∀ n k (m : Int32), 8 - k < n → k ≤ K → (∀ z, bt m z = true ↔ ∃ j, j < k ∧ f j = z) → ∃ m', f_X8_heads_4 N n p (nI K) m (nI k) = some m' ∧ ∀ z, bt m' z = true ↔ ∃ k, k < K ∧ f k = z := by
    intro n
    induction n with
    | zero => intro k m hn; omega
    | succ n ih =>
      intro k m hn hk hm
      unfold f_X8_heads_4
      by_cases hc : K ≤ k
      · rw [if_pos ((nle (by omega) (by omega)).mpr hc)]
        have : k = K := by omega
        subst this
        exact ⟨m, rfl, hm⟩
      · rw [if_neg (fun h => hc ((nle (by omega) (by omega)).mp h)), if_neg (fun h => by have := (nle (a := 8) (by omega) (by omega)).mp h; omega), num_ok hp (by omega) (hf8 k (by omega)), Option.bind_some, show nI k + 1 = nI (k + 1) from nadd k 1]
        refine ih (k + 1) _ (by omega) (by omega) (fun z => ?_)
        have h8 := hf8 k (by omega)
        rw [b_or, bit_all (by omega), Bool.or_eq_true, hm z, decide_eq_true_iff]
        constructor
        · rintro (⟨j, j1, j2⟩ | h)
          · exact ⟨j, by omega, j2⟩
          · exact ⟨k, by omega, h.symm⟩
        · rintro ⟨j, j1, j2⟩
          by_cases e : j = k
          · right; rw [← j2, e]
          · left; exact ⟨j, by omega, j2⟩
  unfold f_X8_heads
  exact loop N 0 0 (by omega) (by omega) (fun z => by rw [b_0]; exact ⟨fun h => (by cases h), fun ⟨j, j1, _⟩ => by omega⟩)
theorem qc_iff {x y : Int32} {P : Nat → Prop} (hx : ∀ z, bt x z = true ↔ P z) (hy : ∀ z, bt y z = true ↔ P z) : x = y := b_ext (fun i _ => by
  have a := hx i
  have b := hy i
  cases h1 : bt x i <;> cases h2 : bt y i
  · rfl
  · rw [h1] at a; exact absurd (a.mpr (b.mp h2)) (by decide)
  · rw [h2] at b; exact absurd (b.mpr (a.mp h1)) (by decide)
  · rfl)
theorem lo_now (hf : 300 ≤ N) : LO_now N (sI LK) := by
  rintro uG uN uD uR uF uP uL uT uA uM uH xA xB xC xD xE xF xG xH xI xJ xK xL x ⟨K, L, A, B, u, v, hC, hR⟩
  have hI : ∀ xB' xD' xE', sI LK uG uN uD uR uF uP uL uT uA uM uH xA xB' xC xD' xE' xF xG xH xI xJ xK xL := fun _ _ _ => ⟨K, L, A, B, u, v, hC, hR⟩
  obtain ⟨hN, hM, hF, ⟨e7, e8, e11⟩, ⟨m, m1, m2⟩, hJ, hG, hdis⟩ := id hC
  obtain ⟨s, e, q1, q2, q3, q4, q5, q6⟩ := hR.1
  have hK : K ≤ 8 := hN.2.2.2.2.2.1.2.1
  unfold f_X11_now f_X12_now
  rw [e7, e8, e11, q3, q4]
  by_cases h0 : x = 0
  · rw [if_pos h0, if_pos h0]; exact ⟨_, rfl, _, rfl, rfl, hI _ _ _⟩
  · rw [if_neg h0, if_neg h0]
    by_cases h1 : x = 1
    · rw [if_pos h1, if_pos h1]
      obtain ⟨xD', g1⟩ := mhas_ok hM (by omega : 20 ≤ N) (gi uG 12) (gi uG 13) xD
      simp only [holder_ok hN (by omega : 20 ≤ N), g1, Option.bind_some]
      exact ⟨_, rfl, _, rfl, rfl, hI _ _ _⟩
    · rw [if_neg h1, if_neg h1]
      by_cases h2 : x = 2
      · rw [if_pos h2, if_pos h2]
        simp only [cOpen_ok hN, mOpenNow_ok hM, bitCount_ok, bits_ok, Option.bind_some]
        rw [e7, e8]
        exact ⟨_, rfl, _, rfl, rfl, hI _ _ _⟩
      · rw [if_neg h2, if_neg h2]
        by_cases h3 : x = 3
        · rw [if_pos h3, if_pos h3]
          simp only [bitCount_ok, bits_ok, Option.bind_some]
          exact ⟨_, rfl, _, rfl, rfl, hI _ _ _⟩
        · rw [if_neg h3, if_neg h3]
          by_cases h4 : x = 4
          · rw [if_pos h4, if_pos h4]
            simp only [bitCount_ok, bits_ok, Option.bind_some]
            exact ⟨_, rfl, _, rfl, rfl, hI _ _ _⟩
          · rw [if_neg h4, if_neg h4]
            by_cases h5 : x = 5
            · rw [if_pos h5, if_pos h5]
              obtain ⟨p, p1, p2⟩ := placesBy_ok hN (by omega : 20 ≤ N) (gi uG 12)
              obtain ⟨b1, c1, c2⟩ := heads_ok (by omega : 20 ≤ N) p2 (la_lt8 _ _ _) hK
              obtain ⟨xD', xE', d1, d2⟩ := laysPlaces_ok hM (by omega : 20 ≤ N) (gi uG 12) xD xE
              obtain ⟨b2, f1, f2⟩ := placeBits_ok hM (by omega : 20 ≤ N) (xE := xE') (fun k hk => ⟨d2 k hk, la_lt8 _ _ _ k (by omega)⟩)
              unfold f_X12_placesNow
              rw [e7, hN.1]
              simp only [p1, c1, d1, f1, bitCount_ok, bits_ok, Option.bind_some]
              refine ⟨_, rfl, _, rfl, ?_, hI _ _ _⟩
              rw [qc_iff c2 f2]
            · rw [if_neg h5, if_neg h5]
              by_cases h6 : x = 6
              · rw [if_pos h6, if_pos h6]; exact ⟨_, rfl, _, rfl, rfl, hI _ _ _⟩
              · rw [if_neg h6, if_neg h6]; exact ⟨_, rfl, _, rfl, rfl, hI _ _ _⟩
theorem knotsOf_ok {p : Int32} {f : Nat → Nat} (hf : 20 ≤ N) (hp : pk p f) (hf8 : ∀ k, k < 8 → f k < 8) {K c : Nat} (hK : K ≤ 8) (hc8 : c < 8) : ∃ m, f_X8_knotsOf N p (nI c) (nI K) = some m ∧ ∀ z, bt m z = true ↔ z < K ∧ f z = c := by
  have loop : ∀ n k (m : Int32), 8 - k < n → k ≤ K → (∀ z, bt m z = true ↔ z < k ∧ f z = c) → ∃ m', f_X8_knotsOf_5 N n p (nI c) (nI K) m (nI k) = some m' ∧ ∀ z, bt m' z = true ↔ z < K ∧ f z = c := by
    intro n
    induction n with
    | zero => intro k m hn; omega
    | succ n ih =>
      intro k m hn hk hm
      unfold f_X8_knotsOf_5
      by_cases hc : K ≤ k
      · rw [if_pos ((nle (by omega) (by omega)).mpr hc)]
        have : k = K := by omega
        subst this
        exact ⟨m, rfl, hm⟩
      · have h8 := hf8 k (by omega)
        rw [if_neg (fun h => hc ((nle (by omega) (by omega)).mp h)), if_neg (fun h => by have := (nle (a := 8) (by omega) (by omega)).mp h; omega), num_ok hp (by omega) h8, Option.bind_some]
        unfold f_X8_knotsOf_35
        rw [show nI k + 1 = nI (k + 1) from nadd k 1]
        by_cases e : f k = c
        · rw [if_pos (by rw [e])]
          refine ih (k + 1) _ (by omega) (by omega) (fun z => ?_)
          rw [b_or, bit_all (by omega), Bool.or_eq_true, hm z, decide_eq_true_iff]
          constructor
          · rintro (⟨z1, z2⟩ | h)
            · exact ⟨by omega, z2⟩
            · exact ⟨by omega, by rw [h]; exact e⟩
          · rintro ⟨z1, z2⟩
            by_cases e2 : z = k
            · exact Or.inr e2
            · exact Or.inl ⟨by omega, z2⟩
        · rw [if_neg (fun h => e ((neq (by omega) (by omega)).mp h))]
          refine ih (k + 1) _ (by omega) (by omega) (fun z => ?_)
          rw [hm z]
          constructor
          · rintro ⟨z1, z2⟩; exact ⟨by omega, z2⟩
          · rintro ⟨z1, z2⟩
            refine ⟨?_, z2⟩
            by_cases e2 : z = k
            · rw [e2] at z2; exact absurd z2 e
            · omega
  unfold f_X8_knotsOf
  exact loop N 0 0 (by omega) (by omega) (fun z => by rw [b_0]; exact ⟨fun h => (by cases h), fun h => by omega⟩)
theorem mreach_ok {xA xD : sx_C} {K L A B : Nat} {u v : Nat → Nat} (hM : mNet xA K L A B u v) (hf : 20 ≤ N) {f : Nat → Nat} (hf8 : ∀ k, k < 8 → f k < 8) (hD : ∀ k, k < K → ga xD 36 k = nI (f k)) {i : Nat} (hi : i < K) (xB : sx_C) : ∃ m, f_X12_reaches_55 N xA N (nI i) 0 0 xB xD = some (m, xB, xD) ∧ ∀ z, bt m z = true ↔ z < K ∧ f z = f i := by
  obtain ⟨h1, h2, h3, h4, h5, ⟨h6, h7, h8⟩, ⟨h9, h9'⟩, h10⟩ := id hM
  have loop : ∀ n k (m : Int32), K - k < n → k ≤ K → (∀ z, bt m z = true ↔ z < k ∧ f z = f i) → ∃ m', f_X12_reaches_55 N xA n (nI i) m (nI k) xB xD = some (m', xB, xD) ∧ ∀ z, bt m' z = true ↔ z < K ∧ f z = f i := by
    intro n
    induction n with
    | zero => intro k m hn; omega
    | succ n ih =>
      intro k m hn hk hm
      unfold f_X12_reaches_55
      rw [h1]
      by_cases hc : K ≤ k
      · rw [if_pos ((nle (by omega) (by omega)).mpr hc)]
        have : k = K := by omega
        subst this
        exact ⟨m, rfl, hm⟩
      · have fk8 := hf8 k (by omega)
        have fi8 := hf8 i (by omega)
        rw [if_neg (fun h => hc ((nle (by omega) (by omega)).mp h)), rd_ok (by omega) (by decide), rd_ok (by omega) (by decide), hD k (by omega), hD i hi]
        simp only [Option.bind_some]
        unfold f_X12_reaches_89
        rw [show nI k + 1 = nI (k + 1) from nadd k 1]
        by_cases e : f k = f i
        · rw [if_pos (by rw [e])]
          refine ih (k + 1) _ (by omega) (by omega) (fun z => ?_)
          rw [b_or, bit_all (by omega), Bool.or_eq_true, hm z, decide_eq_true_iff]
          constructor
          · rintro (⟨z1, z2⟩ | h)
            · exact ⟨by omega, z2⟩
            · exact ⟨by omega, by rw [h]; exact e⟩
          · rintro ⟨z1, z2⟩
            by_cases e2 : z = k
            · exact Or.inr e2
            · exact Or.inl ⟨by omega, z2⟩
        · rw [if_neg (fun h => e ((neq (by omega) (by omega)).mp h))]
          refine ih (k + 1) _ (by omega) (by omega) (fun z => ?_)
          rw [b_or, b_0, Bool.or_false, hm z]
          constructor
          · rintro ⟨z1, z2⟩; exact ⟨by omega, z2⟩
          · rintro ⟨z1, z2⟩
            refine ⟨?_, z2⟩
            by_cases e2 : z = k
            · rw [e2] at z2; exact absurd z2 e
            · omega
  exact loop N 0 0 (by omega) (by omega) (fun z => by rw [b_0]; exact ⟨fun h => (by cases h), fun h => by omega⟩)
theorem lo_reaches (hf : 300 ≤ N) : LO_reaches N (sI LK) := by
  rintro uG uN uD uR uF uP uL uT uA uM uH xA xB xC xD xE xF xG xH xI xJ xK xL x y ⟨K, L, A, B, u, v, hC, hR⟩
  have hI : ∀ xB' xD', sI LK uG uN uD uR uF uP uL uT uA uM uH xA xB' xC xD' xE xF xG xH xI xJ xK xL := fun _ _ => ⟨K, L, A, B, u, v, hC, hR⟩
  obtain ⟨hN, hM, hF, ⟨e7, e8, e11⟩, -⟩ := id hC
  have hK : K ≤ 8 := hN.2.2.2.2.2.1.2.1
  unfold f_X11_reaches f_X12_reaches
  rcases knot_cases hN hM x with ⟨a, b⟩ | ⟨i, i1, rfl, i3, i4⟩
  · simp only [a, b, Option.bind_some, Bool.false_eq_true, ↓reduceIte]
    exact ⟨_, rfl, _, rfl, rfl, hI _ _⟩
  · simp only [i3, i4, Option.bind_some, ↓reduceIte]
    have fin : ∀ X : Int32, ∃ r1, f_X11_reaches_51 N uG uN (nI i) X = some r1 ∧ ∃ r2, f_X12_reaches_47 N xA (nI i) X (si xB 0 0) xD = some r2 ∧ r1 = r2.1 ∧ sI LK uG uN uD uR uF uP uL uT uA uM uH xA (r2.2.1) xC (r2.2.2) xE xF xG xH xI xJ xK xL := by
      intro X
      obtain ⟨p, p1, p2⟩ := placesBy_ok hN (by omega : 20 ≤ N) X
      obtain ⟨xD', d1, d2⟩ := laysParts_ok hM (by omega : 20 ≤ N) X xD
      have n1 := num_ok p2 (k := i) (by omega) (la_lt8 _ _ _ i (by omega))
      obtain ⟨m1, c1, c2⟩ := knotsOf_ok (by omega : 20 ≤ N) p2 (la_lt8 _ _ _) hK (c := la u v (bL X L) i) (la_lt8 _ _ _ i (by omega))
      obtain ⟨m2, b1, b2⟩ := mreach_ok hM (by omega : 20 ≤ N) (la_lt8 u v (bL X L)) d2 i1 (si xB 0 0)
      unfold f_X11_reaches_51 f_X12_reaches_47
      rw [hN.1]
      simp only [p1, n1, c1, d1, b1, Option.bind_some]
      exact ⟨_, rfl, _, rfl, qc_iff c2 b2, hI _ _⟩
    rcases int_01 y with h | ⟨h, h2, -⟩ | ⟨m, m1, rfl, h, h2, -⟩
    · rw [if_pos h, if_pos h]; exact ⟨_, rfl, _, rfl, rfl, hI _ _⟩
    · rw [if_neg h, if_neg h, if_neg h2, if_neg h2]; exact ⟨_, rfl, _, rfl, rfl, hI _ _⟩
    · rw [if_neg h, if_neg h, if_pos h2, if_pos h2]
      by_cases h0 : nI m = 0
      · rw [if_pos h0, if_pos h0, e7]; exact fin _
      · rw [if_neg h0, if_neg h0, call_ok hN, mall_ok hM, e8, Option.bind_some, Option.bind_some]; exact fin _
end
