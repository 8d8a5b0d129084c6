/-! ===== the pair: find and laysPair ===== -/
/-- two trees over the lines W, c lines each -/
def trP (ut vt : Nat → Nat) (W : BS) (a b : Int32) (c : Nat) : Prop :=
  (∀ z, W z = true → z < 14) ∧ qS (bt a) W ∧ qS (bt b) W ∧ (∀ z, ¬ (bt a z = true ∧ bt b z = true)) ∧ qInd (rk ut vt) (bt a) ∧ qInd (rk ut vt) (bt b) ∧ qc (bt a) = c ∧ qc (bt b) = c ∧ rk ut vt W = c ∧ 1 ≤ c
section
variable {N : Nat} {uN uF uP xA : sx_C} {K L A B : Nat} {u v : Nat → Nat}
theorem uT_8 (hN : cNet uN K L A B u v) (J : Int32) : ∀ i, uT u v L A J u i < 8 ∧ uT u v L B J v i < 8 := fun i => by
  obtain ⟨c1, c2, c3, -⟩ := cN_8 hN
  unfold uT
  exact ⟨la_lt8 _ _ _ _ (u31_lt (fun i => (c1 i).1) c2 i), la_lt8 _ _ _ _ (u31_lt (fun i => (c1 i).2) c3 i)⟩
theorem find_ok (hf : 200000 ≤ N) (hN : cNet uN K L A B u v) (hM : mNet xA K L A B u v) (hF : ∃ u' v', fNet uF u' v') (J G : Int32) (xD xE xF xG xH : sx_C) :
    ∃ fb uF' uP' xD' xE' xF' xG' xH', f_X7_find N uN J G uF uP = some (fb, uF', uP') ∧ f_X12_laysPair N xA J G xD xE xF xG xH = some (fb, xD', xE', xF', xG', xH') ∧ (∃ u' v', fNet uF' u' v') ∧ (fb = true ↔ (la u v (bL J L) A ≠ la u v (bL J L) B ∧ mlk u v L A B J G 0)) ∧
      (fb = true → ∃ s, gi uP' 3 = nI s ∧ gi xH' 43 = nI s ∧ s < 256 ∧ gi xH' 44 = gi uP' 4 ∧ gi xH' 45 = gi uP' 5 ∧ gi uP' 2 = opn L J G ∧ mPl xA xE' K L A B u v (uT u v L A J u) (uT u v L B J v) (la u v (bL J L)) ∧ s.testBit (la u v (bL J L) A) = true ∧ s.testBit (la u v (bL J L) B) = true ∧
        trP (uT u v L A J u) (uT u v L B J v) (qW (uT u v L A J u) (uT u v L B J v) (bt (opn L J G)) (bt (nI s))) (gi uP' 4) (gi uP' 5) (qc (bt (nI s)) - 1) ∧ ∃ u' v', fNet uF' u' v' ∧ ∀ i, qW (uT u v L A J u) (uT u v L B J v) (bt (opn L J G)) (bt (nI s)) i = true → u' i = uT u v L A J u i ∧ v' i = uT u v L B J v i) := by
  obtain ⟨c1, c2, c3, hL⟩ := cN_8 hN
  have h20 : 20 ≤ N := by omega
  obtain ⟨r1, uF1, uP1, r2, xD1, xE1, xF1, xG1, a1, a2, a3, a4⟩ := sets_ok (uP := uP) hf hN hM hF J G (k := 0) (by omega) xD xE xF xG
  have a1 : f_X7_nthSet N uN J G 0 uF uP = some (r1, uF1, uP1) := a1
  have a2 : f_X12_setAt N xA J G 0 xD xE xF xG = some (r2, xD1, xE1, xF1, xG1) := a2
  unfold f_X7_find f_X12_laysPair
  simp only [a1, a2, Option.bind_some]
  rcases a4 with ⟨b1, b2, b3⟩ | ⟨s, b1, b2, b3, b4, b5, b6⟩
  · rw [b1, b2, if_neg (by decide), if_pos rfl]
    exact ⟨false, _, _, _, _, _, _, _, rfl, rfl, a3, ⟨fun h => (by cases h), fun h => absurd h (b3 rfl)⟩, fun h => (by cases h)⟩
  · obtain ⟨s1, s2, s3, s4, s5, s6, s7, s8, s9⟩ := b3
    rw [b1, b2, if_pos (fa_of_nlt (nI_ne_neg (by omega)).2.2), if_neg (nI_ne_neg (by omega)).1]
    obtain ⟨ut, hut⟩ : ∃ ut, ut = uT u v L A J u := ⟨_, rfl⟩
    obtain ⟨vt, hvt⟩ : ∃ vt, vt = uT u v L B J v := ⟨_, rfl⟩
    have hk : ∀ i, ut i < 8 ∧ vt i < 8 := fun i => by rw [hut, hvt]; exact uT_8 hN J i
    rw [← hut, ← hvt] at s4 s5 s6 b5 ⊢
    have M := gs_mat hk
    obtain ⟨O, hO⟩ : ∃ O, O = opn L J G := ⟨_, rfl⟩
    have hOL : ∀ z, bt O z = true → z < L := fun z hz => by rw [hO] at hz; exact opn_lt (by omega) hz
    obtain ⟨W, hW⟩ : ∃ W, W = qW ut vt (bt O) (bt (nI s)) := ⟨_, rfl⟩
    rw [← hO, ← hW] at s4 s5 s6
    rw [← hO]
    have hWO : ∀ z, W z = true → bt O z = true ∧ bt (nI s) (ut z) = true ∧ bt (nI s) (vt z) = true := fun z hz => by
      rw [hW] at hz
      unfold qW at hz
      simp at hz
      exact ⟨hz.1, hz.2.2⟩
    have hW14 : ∀ z, W z = true → z < 14 := fun z hz => by have := hOL z (hWO z hz).1; omega
    obtain ⟨uF2, l1, ⟨u2, v2, l2, l2'⟩, l3, l4, l5⟩ := lower_j h20 hk s5 s6 (fun z hz => by have := hW14 z hz; omega)
    rw [s7] at l3 l4
    obtain ⟨c, hc⟩ : ∃ c, c = qc (bt (nI s)) - 1 := ⟨_, rfl⟩
    rw [← hc] at l3 l4 s4
    -- the most of one tree
    have hs8 : ∀ z, bt (nI s) z = true → z < 8 := fun z hz => by
      by_cases h32 : z < 32
      · rw [h_nI z h32] at hz
        by_cases h : z < 8
        · exact h
        · rw [tb_small (k := 8) (by omega) (by omega)] at hz; cases hz
      · rw [b_big (by omega)] at hz; cases hz
    have fA8 : la u v (bL J L) A < 8 := la_lt8 _ _ _ _ c2
    have hct : fb_ct (bt (nI s)) 8 = qc (bt (nI s)) := (ct_gap (by omega) (fun t h8 _ => by
      cases hx : bt (nI s) t
      · rfl
      · have := hs8 t hx; omega)).symm
    have hrW : rk ut vt W ≤ c := by
      have := (rk_in (W := W) (P := bt (nI s)) (fun i _ hi => (hWO i hi).2) hs8 (a := la u v (bL J L) A) (by rw [h_nI _ (by omega)]; exact s8)).1
      rw [hct] at this
      omega
    have hrS : ∀ S, qS S W → rk ut vt S ≤ c := fun S hS => Nat.le_trans (q_mono M hS) hrW
    have hqD : ∀ X : BS, qS (qD W X) W := fun X i hi => by unfold qD at hi; simp at hi; exact hi.1
    have e5 := l3.2.1
    unfold qInd at e5
    have ha5 : qc (bt (gi uF2 5)) = c ∧ rk ut vt (qD W (bt (gi uF2 5))) = c := by
      have h1 := hrS _ l3.1
      have h2 := hrS _ (hqD (bt (gi uF2 5)))
      have h3 := l3.2.2
      omega
    have hb6 : bt (gi uF2 6) = bas (gs ut vt) (qD W (bt (gi uF2 5))) := funext l5
    obtain ⟨bs1, bs2⟩ := bas_all M (qD W (bt (gi uF2 5)))
    rw [← hb6] at bs1 bs2
    obtain ⟨a, n1, n2⟩ := wb_of32 (gi uF2 5)
    obtain ⟨b, n3, n4⟩ := wb_of32 (gi uF2 6)
    -- the model
    obtain ⟨Wm, w1, w2⟩ := within_ok h20 hM b5.2.1 (fun k hk2 => la_lt8 _ _ _ k (by have := hM.2.2.2.2.2.1.2.1; omega)) b5.2.2.2.2 O (nI s)
    rw [bL_sub hOL, ← hW] at w2
    obtain ⟨m, m1, m2⟩ := wb_of32 Wm
    have hmW : bt (nI m) = W := by rw [← m2]; exact funext w2
    have tb : ∀ x z, x < 2 ^ 32 → x.testBit z = bt (nI x) z := fun x z hx => by
      by_cases h : z < 32
      · rw [h_nI z h]
      · rw [b_big (by omega), tb_small hx (by omega)]
    have hmL : ∀ z, m.testBit z = true → z < L := fun z hz => by
      rw [tb m z m1, hmW] at hz
      exact hOL z (hWO z hz).1
    have hm17 : m < 2 ^ 17 := Nat.lt_pow_two_of_testBit m (fun i hi => by
      cases h9 : m.testBit i
      · rfl
      · have := hmL i h9; omega)
    rw [n2] at l3 l4 ha5 l5 hb6 e5
    obtain ⟨f1, f2⟩ := first_scan m1 n1 hmW l3 l4
    have hc100 : c < 100 := by have := qc_le32 (bt (nI s)); omega
    obtain ⟨xF2, t1⟩ := leastTree_ok hf b5 hm17 hmL f1 (tw := true) hc100 ⟨ha5.1, l3.2.1, fun _ => by rw [hmW]; exact ha5.2⟩ (fun t ht hlt h1 h2 h3 => by
      refine f2 t ht hlt ⟨fun z hz => ?_, h2, ?_⟩
      · rw [← tb t z (by have := sbs_le ht; omega)] at hz
        rw [← hmW, ← tb m z m1]
        exact sbs_iff.mp ht z hz
      · have := h3 rfl
        rw [hmW] at this
        omega) xF1
    have t1 : f_X12_leastTree N xA xE1 (nI m) (nI c) 1 xF1 = some (nI a, xF2) := t1
    obtain ⟨m', m1', m2'⟩ := wb_of32 (nI m &&& (nI a ^^^ (-1)))
    have hm'b : bt (nI m') = qD W (bt (nI a)) := by
      rw [← m2']
      funext z
      show _ = (W z && !bt (nI a) z)
      by_cases h32 : z < 32
      · rw [b_and, h_not _ h32, hmW]
      · rw [b_big (by omega), b_big (by omega)]
        cases hz : W z
        · rfl
        · have := hW14 z hz; omega
    rw [n4] at hb6
    obtain ⟨g1, g2, g3, g4⟩ := second_scan hk m1' (a := b) (fun z => by rw [hm'b, ← hb6]) n3
    rw [hm'b, ha5.2] at g2 g4
    have hm'L : ∀ z, m'.testBit z = true → z < L := fun z hz => by
      rw [tb m' z m1', hm'b] at hz
      exact hOL z (hWO z (hqD _ z hz)).1
    have hm'17 : m' < 2 ^ 17 := Nat.lt_pow_two_of_testBit m' (fun i hi => by
      cases h9 : m'.testBit i
      · rfl
      · have := hm'L i h9; omega)
    obtain ⟨xF3, t2⟩ := leastTree_ok hf b5 hm'17 hm'L g1 (tw := false) hc100 ⟨g2, g3, fun h => (by cases h)⟩ (fun t ht hlt h1 h2 _ => g4 t ht hlt h1 h2) xF2
    have t2 : f_X12_leastTree N xA xE1 (nI m') (nI c) 0 xF2 = some (nI b, xF3) := t2
    have e44 : gi (si (si xH 43 (nI s)) 44 (nI a)) 44 = nI a := rfl
    have ec : nI (qc (bt (nI s))) - 1 = nI c := by
      have := nsub c 1
      rw [show c + 1 = qc (bt (nI s)) by omega] at this
      exact this
    rw [mopen_ok hM, ← hO]
    simp only [l1, w1, bits_ok, Option.bind_some]
    rw [ec, m2]
    simp only [t1, Option.bind_some]
    rw [e44, m2']
    simp only [t2, Option.bind_some]
    refine ⟨true, _, _, _, _, _, _, _, rfl, rfl, ⟨u2, v2, l2⟩, ⟨fun _ => ⟨s2, b6⟩, fun _ => rfl⟩, fun _ => ⟨s, rfl, rfl, s1, n2.symm, n4.symm, ?_, b5, s8, s9, ?_, u2, v2, l2, fun i hi => l2' i (by rw [← hW] at hi; have := hW14 i hi; omega) (by rw [hW]; exact hi)⟩⟩
    · exact b4.trans hO.symm
    · have q4 : gi (si (si (si uP1 3 (nI s)) 4 (gi uF2 5)) 5 (gi uF2 6)) 4 = gi uF2 5 := rfl
      have q5 : gi (si (si (si uP1 3 (nI s)) 4 (gi uF2 5)) 5 (gi uF2 6)) 5 = gi uF2 6 := rfl
      rw [q4, q5, n2, n4, ← hW, ← hc]
      rw [n4] at bs1 bs2
      have hbW : qS (bt (nI b)) (qD W (bt (nI a))) := by rw [hb6]; exact bas_s _
      refine ⟨hW14, l3.1, fun i hi => hqD _ i (hbW i hi), fun z hz => ?_, l3.2.1, bs1, ha5.1, g2, ?_, by omega⟩
      · have := hbW z hz.2
        unfold qD at this
        rw [hz.1] at this
        simp at this
      · have := q_mono M l3.1
        omega
end
theorem int_03 (x : Int32) : x < 0 ∨ (¬ x < 0 ∧ ¬ x ≤ 3) ∨ (¬ x < 0 ∧ x ≤ 3) := by
  by_cases h : x < 0
  · exact Or.inl h
  · by_cases h2 : x ≤ 3
    · exact Or.inr (Or.inr ⟨h, h2⟩)
    · exact Or.inr (Or.inl ⟨h, h2⟩)
theorem lo_pair {N : Nat} {LK : sLK} (hf : 200000 ≤ N) : LO_pair N (sI LK) := by
  rintro uG uN uD uR uF uP uL uT uA uM uH xA xB xC xD xE xF xG xH xI xJ xK xL x ⟨K, L, A, B, u, v, hC, hR⟩
  have hI : ∀ uF' uP' xB' xD' xE' xF' xG' xH', (∃ u' v', fNet uF' u' v') → sI LK uG uN uD uR uF' uP' uL uT uA uM uH xA xB' xC xD' xE' xF' xG' xH' xI xJ xK xL := fun _ _ _ _ _ _ _ _ h => ⟨K, L, A, B, u, v, sCore_F hC h, hR⟩
  obtain ⟨hN, hM, hF, ⟨e7, e8, e11⟩, -⟩ := id hC
  unfold f_X11_pair f_X12_pair
  rcases int_03 x with h | ⟨h, h2⟩ | ⟨h, h2⟩
  · rw [if_pos h, if_pos h]; exact ⟨_, rfl, _, rfl, rfl, hI _ _ _ _ _ _ _ _ hF⟩
  · rw [if_neg h, if_neg h, if_neg h2, if_neg h2]; exact ⟨_, rfl, _, rfl, rfl, hI _ _ _ _ _ _ _ _ hF⟩
  · rw [if_neg h, if_neg h, if_pos h2, if_pos h2, e7, e8]
    obtain ⟨fb, uF', uP', xD', xE', xF', xG', xH', a1, a2, a3, a4, a5⟩ := find_ok (uP := uP) hf hN hM hF (gi uG 12) (gi uG 13) xD xE xF xG xH
    simp only [a1, a2, Option.bind_some]
    cases fb
    · exact ⟨_, rfl, _, rfl, rfl, hI _ _ _ _ _ _ _ _ a3⟩
    · obtain ⟨s, q3, q43, -, q44, q45, -⟩ := a5 rfl
      rw [if_pos rfl, if_pos rfl, q3, q43, q44, q45]
      by_cases h0 : x = 0
      · rw [if_pos h0, if_pos h0]; exact ⟨_, rfl, _, rfl, rfl, hI _ _ _ _ _ _ _ _ a3⟩
      · rw [if_neg h0, if_neg h0]
        by_cases h1 : x = 1
        · rw [if_pos h1, if_pos h1]; exact ⟨_, rfl, _, rfl, rfl, hI _ _ _ _ _ _ _ _ a3⟩
        · rw [if_neg h1, if_neg h1]
          by_cases h3 : x = 2
          · rw [if_pos h3, if_pos h3]; exact ⟨_, rfl, _, rfl, rfl, hI _ _ _ _ _ _ _ _ a3⟩
          · rw [if_neg h3, if_neg h3, bitCount_ok, bits_ok]
            exact ⟨_, rfl, _, rfl, rfl, hI _ _ _ _ _ _ _ _ a3⟩
