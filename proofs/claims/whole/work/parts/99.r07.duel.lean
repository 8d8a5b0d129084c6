/-! ===== duel ===== -/
theorem qL_apart {r : BS → Nat} {sp : BS → Nat → Bool} (M : qM r sp) {e : Nat} (he : e < 32) {j E : BS} (h : sp (qU j E) e = false) : qL r e j E 2 := by
  obtain ⟨m, hm⟩ := q_min_ex (fJ r j E)
  refine ⟨m, hm, ?_⟩
  have hsp : ∀ T, sp (qU j (qN T E)) e = false := fun T => by
    cases h9 : sp (qU j (qN T E)) e
    · rfl
    · rw [M.2.1 _ _ _ (fun i hi => by
        have hi : (j i || (T i && E i)) = true := hi
        show (j i || E i) = true
        cases hj : j i
        · rw [hj] at hi
          simp at hi
          simp [hi.2]
        · rfl) h9] at h
      cases h
  obtain ⟨⟨T, t1⟩, t2⟩ := hm
  constructor
  · refine ⟨qN T E, ?_⟩
    have a := fJ_cut M j E T
    have b := t2 (qN T E)
    rw [fJ_e M _ _ _ he, hsp, if_neg (by decide)]
    omega
  · intro T'
    have a := fJ_cut M (qI j e) E T'
    rw [fJ_e M j E (qN T' E) he, hsp, if_neg (by decide)] at a
    have b := t2 (qN T' E)
    omega
section
variable {N : Nat} {uN xA : sx_C} {K L A B : Nat} {u v : Nat → Nat}
/-- CUT has it: it lacks two -/
theorem hld_1 (hM : mNet xA K L A B u v) {J G : Int32} (hdis : ∀ z, ¬ (bt J z = true ∧ bt G z = true)) (h : hld u v L A B J G = 1) : mlk u v L A B J G 2 := by
  have hL : L ≤ 17 := hM.2.2.2.2.2.1.2.2
  have MU := gs_mat (mN_U hM)
  unfold hld at h
  by_cases h1 : la u v (bL J L) A = la u v (bL J L) B
  · rw [if_pos h1] at h; cases h
  · rw [if_neg h1] at h
    by_cases h2 : la u v (bL (alL L &&& (G ^^^ (-1))) L) A = la u v (bL (alL L &&& (G ^^^ (-1))) L) B
    · rw [if_pos h2] at h; cases h
    · refine qL_apart MU (by decide) ?_
      have e : qU (bL J L) (bt (opn L J G)) = bL (alL L &&& (G ^^^ (-1))) L := by
        funext z
        show ((bt J z && decide (z < L)) || bt (opn L J G) z) = (bt (alL L &&& (G ^^^ (-1))) z && decide (z < L))
        by_cases hz : z < 32
        · rw [opn_bit (by omega) _ _ hz, b_and, h_not _ hz, alL_bit (by omega) hz]
          cases hj : bt J z
          · cases decide (z < L) <;> cases bt G z <;> rfl
          · cases hg : bt G z
            · cases decide (z < L) <;> rfl
            · exact absurd ⟨hj, hg⟩ (hdis z)
        · rw [b_big (by omega), b_big (by omega), b_big (by omega)]; rfl
      rw [e]
      unfold gs
      rw [u31_la (fun i hi => by have := bL_lt hi; omega)]
      show (la u v (bL (alL L &&& (G ^^^ (-1))) L) A == la u v (bL (alL L &&& (G ^^^ (-1))) L) B) = false
      exact beq_eq_false_iff_ne.mpr h2
theorem hld_3 (J G : Int32) : hld u v L A B J G = 0 ∨ hld u v L A B J G = 1 ∨ hld u v L A B J G = 2 := by
  unfold hld
  split
  · exact Or.inl rfl
  · split
    · exact Or.inr (Or.inr rfl)
    · exact Or.inr (Or.inl rfl)
theorem hld_0 {J G : Int32} : hld u v L A B J G = 0 ↔ la u v (bL J L) A = la u v (bL J L) B := by
  unfold hld
  by_cases h1 : la u v (bL J L) A = la u v (bL J L) B
  · simp [h1]
  · rw [if_neg h1]
    constructor
    · intro h
      split at h <;> cases h
    · intro h; exact absurd h h1
theorem duel_sim (hf : 200000 ≤ N) (hN : cNet uN K L A B u v) (hM : mNet xA K L A B u v) (xB : sx_C) : ∀ c (J G : Int32) (n : Nat), n < 2147483648 → (∀ z, bt J z = true → z < L) → (∀ z, bt G z = true → z < L) → (∀ z, ¬ (bt J z = true ∧ bt G z = true)) → qc (bt (opn L J G)) = c → mlk u v L A B J G 0 → ∃ len : Nat,
    (∀ fu m rd uF uP uA, c < fu → rd + c ≤ 14 → (∃ u' v', fNet uF u' v') → gl uA 4 = lN n → ∃ uF' uP' uA', f_X1_movesOfDuel_18 N uN fu J G (nI m) (nI rd) uF uP uA = some (nI (m + len), uF', uP', uA') ∧ ∃ u' v', fNet uF' u' v') ∧
    (∀ fu m xD xE xF xG xH xL, c < fu → gl xL 52 = lN n → ∃ xD' xE' xF' xG' xH' xL', f_X12_duel_48 N xA fu J G (nI m) xB xD xE xF xG xH xL = some (nI (m + len), xB, xD', xE', xF', xG', xH', xL')) := by
  obtain ⟨c1, c2, c3, hL⟩ := cN_8 hN
  have h20 : 20 ≤ N := by omega
  intro c
  induction c using Nat.strongRecOn with
  | _ c ih =>
  intro J G n hn hJ hG hdis hc hmk
  have h01 : hld u v L A B J G = 0 ∨ hld u v L A B J G = 2 := by
    rcases hld_3 (u := u) (v := v) (L := L) (A := A) (B := B) J G with h | h | h
    · exact Or.inl h
    · have := mlk_one (hld_1 hM hdis h) hmk; omega
    · exact Or.inr h
  have hfind : ∀ uF uP, (∃ u' v', fNet uF u' v') → ∃ fb uF' uP', f_X7_find N uN J G uF uP = some (fb, uF', uP') ∧ (∃ u' v', fNet uF' u' v') ∧ (fb = true ↔ hld u v L A B J G = 2) := fun uF uP hFF => by
    obtain ⟨fb, uF1, uP1, _, _, _, _, _, a1, -, a3, a4, -⟩ := find_ok (uF := uF) (uP := uP) hf hN hM hFF J G z_0 z_0 z_0 z_0 z_0
    refine ⟨fb, uF1, uP1, a1, a3, a4.trans ⟨fun h => ?_, fun h => ⟨fun e => ?_, hmk⟩⟩⟩
    · rcases h01 with h9 | h9
      · exact absurd (hld_0.mp h9) h.1
      · exact h9
    · rw [hld_0.mpr e] at h; cases h
  rcases h01 with hh | hh
  · refine ⟨0, fun fu m rd uF uP uA hfu hrd hFF hA => ?_, fun fu m xD xE xF xG xH xL hfu hX => ?_⟩
    · obtain ⟨f', rfl⟩ : ∃ f', fu = f' + 1 := ⟨fu - 1, by omega⟩
      unfold f_X1_movesOfDuel_18
      obtain ⟨fb, uF1, uP1, a1, a2, a3⟩ := hfind uF uP hFF
      have hfb : ¬ fb = true := fun h => by rw [a3, hh] at h; cases h
      by_cases h14 : (14 : Int32) ≤ nI rd
      · rw [if_pos h14]; exact ⟨_, _, _, rfl, hFF⟩
      · rw [if_neg h14, a1, Option.bind_some, if_neg hfb]
        exact ⟨_, _, _, rfl, a2⟩
    · obtain ⟨f', rfl⟩ : ∃ f', fu = f' + 1 := ⟨fu - 1, by omega⟩
      unfold f_X12_duel_48
      obtain ⟨xD1, g1⟩ := mhas_ok hM h20 J G xD
      simp only [g1, Option.bind_some]
      rw [hh, if_neg (by decide)]
      exact ⟨_, _, _, _, _, _, rfl⟩
  · have hne : la u v (bL J L) A ≠ la u v (bL J L) B := fun e => by
      rw [hld_0.mpr e] at hh; cases hh
    obtain ⟨i0, i01, i02⟩ := hld_open hL hJ hh
    have hcpos : 1 ≤ qc (bt (opn L J G)) := fb_ct_pos.mpr ⟨i0, by omega, i02⟩
    have hOL : ∀ z, bt (opn L J G) z = true → z < L := fun z hz => opn_lt (by omega) hz
    obtain ⟨i, hio, hi2⟩ := draw_ex hcpos (drw n / 65536)
    have iL := hOL i hio
    have hk := uT_8 hN J
    obtain ⟨fb0, uF0, uP0, _, _, _, _, xH0, a1, a2, a3, a4, a5⟩ := find_ok (uF := z_0) (uP := z_0) hf hN hM fN_0 J G z_0 z_0 z_0 z_0 z_0
    obtain ⟨s, q3, q43, s256, q44, q45, q2, q5, sA, sB, q6, -⟩ := a5 (a4.mpr ⟨hne, hmk⟩)
    obtain ⟨j, j1, j2, j3⟩ := ans_ex hk q6 i
    obtain ⟨n1, n2, n3⟩ := pair_next hM hL s256 rfl sA sB q6 hio j2
    have jL := hOL j n2
    have hcc : qc (bt (opn L (J ||| sp_shl 1 (nI j)) (G ||| sp_shl 1 (nI i)))) + 2 = c := by
      rw [opn_join (by omega) J _ jL, opn_cut (by omega) J G iL, ← hc]
      have e1 : fb_ct (qE (qE (bt (opn L J G)) i) j) 32 + 1 = fb_ct (qE (bt (opn L J G)) i) 32 := qc_era (by omega) (by
        show (bt (opn L J G) j && !decide (j = i)) = true
        rw [n2]; simp [n1])
      have e2 : fb_ct (qE (bt (opn L J G)) i) 32 + 1 = fb_ct (bt (opn L J G)) 32 := qc_era (by omega) hio
      show fb_ct (qE (qE (bt (opn L J G)) i) j) 32 + 2 = fb_ct (bt (opn L J G)) 32
      omega
    have hset : ∀ (X : Int32) (y : Nat), y < L → (∀ z, bt X z = true → z < L) → ∀ z, bt (X ||| sp_shl 1 (nI y)) z = true → z < L := fun X y hy hX z hz => by
      rw [b_or, bit_all (by omega)] at hz
      by_cases e : z = y
      · omega
      · exact hX z (by simpa [e] using hz)
    have oni : bt J i = false ∧ bt G i = false := by
      rw [opn_bit (by omega) _ _ (by omega : i < 32)] at hio
      simp at hio
      exact hio.2
    have onj : bt J j = false ∧ bt G j = false := by
      rw [opn_bit (by omega) _ _ (by omega : j < 32)] at n2
      simp at n2
      exact n2.2
    have hdis' : ∀ z, ¬ (bt (J ||| sp_shl 1 (nI j)) z = true ∧ bt (G ||| sp_shl 1 (nI i)) z = true) := fun z hz => by
      obtain ⟨z1, z2⟩ := hz
      rw [b_or, bit_all (by omega)] at z1 z2
      by_cases e1 : z = j
      · by_cases e2 : z = i
        · omega
        · have : bt G z = true := by simpa [e2] using z2
          rw [e1, onj.2] at this; cases this
      · have h1 : bt J z = true := by simpa [e1] using z1
        by_cases e2 : z = i
        · rw [e2, oni.1] at h1; cases h1
        · exact hdis z ⟨h1, by simpa [e2] using z2⟩
    have hdisc : ∀ z, ¬ (bt J z = true ∧ bt (G ||| sp_shl 1 (nI i)) z = true) := fun z hz => by
      refine hdis' z ⟨?_, hz.2⟩
      rw [b_or, hz.1]; rfl
    -- after the cut nobody has it
    have hcut : hld u v L A B J (G ||| sp_shl 1 (nI i)) = 2 := by
      rcases hld_3 (u := u) (v := v) (L := L) (A := A) (B := B) J (G ||| sp_shl 1 (nI i)) with h | h | h
      · exact absurd (hld_0.mp h) hne
      · have h9 := hld_1 hM hdisc h
        rw [mlk_cut hM iL] at h9
        exact absurd h9 (qL_b (gs_mat (mN_U hM)) (by decide) (by omega) hio hmk)
      · exact h
    obtain ⟨len, b1, b2⟩ := ih (c - 2) (by omega) (J ||| sp_shl 1 (nI j)) (G ||| sp_shl 1 (nI i)) (drw n) (drw_lt n) (hset J j jL hJ) (hset G i iL hG) hdis' (by omega) n3
    refine ⟨2 + len, fun fu m rd uF uP uA hfu hrd hFF hA => ?_, fun fu m xD xE xF xG xH xL hfu hX => ?_⟩
    · obtain ⟨f', rfl⟩ : ∃ f', fu = f' + 1 := ⟨fu - 1, by omega⟩
      unfold f_X1_movesOfDuel_18
      rw [if_neg (show ¬ (14 : Int32) ≤ nI rd from fun h => by have := (nle (a := 14) (by omega) (by omega)).mp h; omega)]
      obtain ⟨fb, uF1, uP1, xD1, xE1, xF1, xG1, xH1, d1, d2, d3, d4, d5⟩ := find_ok (uF := uF) (uP := uP) hf hN hM hFF J G z_0 z_0 z_0 z_0 z_0
      have hfb := d4.mpr ⟨hne, hmk⟩
      obtain ⟨s2, p3, p43, -, p44, p45, p2, p5, -, -, p6, u', v', p7, p8⟩ := d5 hfb
      have e1 := Option.some.inj (d2.symm.trans a2)
      have e4 : xH1 = xH0 := congrArg (fun p => p.2.2.2.2.2) e1
      rw [e4] at p44 p45
      have e5 : gi uP1 4 = gi uP0 4 := by rw [← p44, q44]
      have e6 : gi uP1 5 = gi uP0 5 := by rw [← p45, q45]
      obtain ⟨uF2, r1, r2⟩ := reply_ok h20 p7 p8 hk p6 (by omega : i < 17) (j := j) (by rw [e5, e6]; exact j2) (by rw [e5, e6]; exact j3)
      obtain ⟨uA1, k1, k2⟩ := drawLine_ok (by omega : 300 ≤ N) (fun z hz => by have := hOL z hz; omega) hcpos hn hA hio hi2
      simp only [d1, copen_ok hN, k1, r1, Option.bind_some]
      rw [if_pos hfb, show nI m + 2 = nI (m + 2) from nadd m 2, show nI rd + 1 = nI (rd + 1) from nadd rd 1]
      obtain ⟨uF3, uP3, uA3, t1, t2⟩ := b1 f' (m + 2) (rd + 1) uF2 uP1 uA1 (by omega) (by omega) ⟨u', v', f4_net r2 p7⟩ k2
      rw [t1]
      exact ⟨_, _, _, by rw [show m + 2 + len = m + (2 + len) by omega], t2⟩
    · obtain ⟨f', rfl⟩ : ∃ f', fu = f' + 1 := ⟨fu - 1, by omega⟩
      unfold f_X12_duel_48
      obtain ⟨xD1, g1⟩ := mhas_ok hM h20 J G xD
      obtain ⟨xL1, k1, k2⟩ := drawn_ok (by omega : 300 ≤ N) hM hL hOL hcpos hn hX hio hi2
      simp only [g1, mopen_ok hM, k1, Option.bind_some]
      rw [if_pos hh]
      obtain ⟨fb, uF1, uP1, xD2, xE2, xF2, xG2, xH2, d1, d2, d3, d4, d5⟩ := find_ok (uF := z_0) (uP := z_0) hf hN hM fN_0 J G xD1 xE xF xG xH
      have hfb := d4.mpr ⟨hne, hmk⟩
      obtain ⟨s2, p3, p43, -, p44, p45, p2, p5, -, -, p6, -⟩ := d5 hfb
      have e1 := Option.some.inj (d1.symm.trans a1)
      have e4 : uP1 = uP0 := congrArg (fun p => p.2.2) e1
      rw [e4] at p44 p45 p6
      have hWL : ∀ z, qW (uT u v L A J u) (uT u v L B J v) (bt (opn L J G)) (bt (nI s2)) z = true → z < L := fun z hz => by
        unfold qW at hz
        simp at hz
        exact hOL z hz.1
      obtain ⟨xF3, r3⟩ := answerOf_ok h20 p5 hWL (xH := xH2) (by rw [p44, p45]; exact p6) (by omega : i < 17) (j := j) (by rw [p44, p45]; exact j2) (by rw [p44, p45]; exact j3) xF2
      obtain ⟨xD3, g3⟩ := mhas_ok hM h20 J (G ||| sp_shl 1 (nI i)) xD2
      simp only [d2, r3, g3, Option.bind_some]
      rw [if_pos hcut, show nI m + 1 + 1 = nI (m + 2) by rw [show nI m + 1 = nI (m + 1) from nadd m 1]; exact nadd (m + 1) 1]
      obtain ⟨xD4, xE4, xF4, xG4, xH4, xL4, t1⟩ := b2 f' (m + 2) xD3 xE2 xF3 xG2 xH2 xL1 (by omega) k2
      rw [t1]
      exact ⟨_, _, _, _, _, _, by rw [show m + 2 + len = m + (2 + len) by omega]⟩
end
theorem lo_duel {N : Nat} {LK : sLK} (hf : 200000 ≤ N) : LO_duel N (sI LK) := by
  rintro uG uN uD uR uF uP uL uTT uA uM uH xA xB xC xD xE xF xG xH xI xJ xK xL x ⟨K, L, A, B, u, v, hC, hR⟩
  have hI : ∀ uF' uP' uA' xB' xD' xE' xF' xG' xH' xL', (∃ u' v', fNet uF' u' v') → sI LK uG uN uD uR uF' uP' uL uTT uA' uM uH xA xB' xC xD' xE' xF' xG' xH' xI xJ xK xL' := fun _ _ _ _ _ _ _ _ _ _ h => ⟨K, L, A, B, u, v, sCore_F hC h, hR⟩
  obtain ⟨hN, hM, hF, ⟨e7, e8, e11⟩, -, hJ, hG, hdis⟩ := id hC
  have hL : L ≤ 14 := (cN_8 hN).2.2.2
  have hq := qc_opn14 hL (gi uG 12) (gi uG 13)
  unfold f_X11_duel f_X12_duel
  by_cases h0 : 0 ≤ x
  · rw [if_pos h0, if_pos h0]
    obtain ⟨n, n1, rfl⟩ := n_pos h0
    rw [e7, e8]
    obtain ⟨fb, uF1, uP1, xD1, xE1, xF1, xG1, xH1, a1, a2, a3, a4, a5⟩ := find_ok (uF := uF) (uP := uP) hf hN hM hF (gi uG 12) (gi uG 13) xD xE xF xG xH
    simp only [a1, a2, Option.bind_some]
    cases fb
    · exact ⟨_, rfl, _, rfl, rfl, hI _ _ _ _ _ _ _ _ _ _ a3⟩
    · rw [if_pos rfl, if_pos rfl]
      obtain ⟨len, b1, b2⟩ := duel_sim hf hN hM (si xB 0 0) _ (gi uG 12) (gi uG 13) n n1 hJ hG hdis rfl (a4.mp rfl).2
      unfold f_X1_movesOfDuel
      rw [nI_l (by omega)]
      obtain ⟨uF2, uP2, uA2, c1, c2⟩ := b1 N 0 0 uF1 uP1 (sl uA 4 (lN n)) (by omega) (by omega) a3 rfl
      obtain ⟨xD2, xE2, xF2, xG2, xH2, xL2, d1⟩ := b2 N 0 xD1 xE1 xF1 xG1 xH1 (sl xL 52 (lN n)) (by omega) rfl
      have c1 : f_X1_movesOfDuel_18 N uN N (gi uG 12) (gi uG 13) 0 0 uF1 uP1 (sl uA 4 (lN n)) = some (nI (0 + len), uF2, uP2, uA2) := c1
      have d1 : f_X12_duel_48 N xA N (gi uG 12) (gi uG 13) 0 (si xB 0 0) xD1 xE1 xF1 xG1 xH1 (sl xL 52 (lN n)) = some (nI (0 + len), si xB 0 0, xD2, xE2, xF2, xG2, xH2, xL2) := d1
      rw [c1, d1]
      exact ⟨_, rfl, _, rfl, rfl, hI _ _ _ _ _ _ _ _ _ _ c2⟩
  · rw [if_neg h0, if_neg h0]; exact ⟨_, rfl, _, rfl, rfl, hI _ _ _ _ _ _ _ _ _ _ hF⟩
