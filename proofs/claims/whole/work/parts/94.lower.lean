/-! ===== leastForest, bringAny, lower ===== -/
section
variable {u' v' : Nat → Nat} {N : Nat}
theorem leastForest_ok (hN20 : 20 ≤ N) {X : Int32} {uF : sx_C} (hN : fNet uF u' v') (hX : ∀ i, 17 ≤ i → bt X i = false) : ∃ Y uF', f_X0_leastForest N X uF = some (Y, uF') ∧ f4 uF' uF ∧ ∀ z, bt Y z = bas (gs u' v') (bt X) z := by
  have M := gs_mat hN.2
  have loop : ∀ n i (Y : Int32) (w : sx_C), 17 - i < n → i ≤ 17 → f4 w uF → (∀ z, bt Y z = qR (bas (gs u' v') (bt X)) i z) → ∃ Y' uF', f_X0_leastForest_4 N n X Y (nI i) w = some (Y', uF') ∧ f4 uF' uF ∧ ∀ z, bt Y' z = bas (gs u' v') (bt X) z := by
    intro n
    induction n with
    | zero => intro i Y w hn; omega
    | succ n ih =>
      intro i Y w hn hi hw hY
      unfold f_X0_leastForest_4
      by_cases hc : 17 ≤ i
      · rw [if_pos (show (17 : Int32) ≤ nI i from (nle (a := 17) (by omega) (by omega)).mpr hc)]
        refine ⟨Y, w, rfl, hw, fun z => ?_⟩
        rw [hY z]
        unfold qR
        by_cases hz : z < i
        · simp [hz]
        · have : bas (gs u' v') (bt X) z = false := by unfold bas; rw [hX z (by omega)]; rfl
          rw [this]; rfl
      · rw [if_neg (show ¬ (17 : Int32) ≤ nI i from fun h => hc ((nle (a := 17) (by omega) (by omega)).mp h)), has_ok X (by omega), Option.bind_some]
        unfold f_X0_leastForest_34
        rw [show nI i + 1 = nI (i + 1) from nadd i 1]
        cases hb : bt X i
        · rw [if_neg (by decide)]
          refine ih (i + 1) Y w (by omega) (by omega) hw (fun z => ?_)
          rw [hY z, qR_N (by unfold bas; rw [hb]; rfl)]
        · rw [if_pos rfl]
          have hYb : bt Y = qR (bas (gs u' v') (bt X)) i := funext hY
          have hind : qInd (rk u' v') (bt Y) := by
            rw [hYb]
            exact q_ind_sub M (bas_all M (bt X)).1 (qR_s _ _)
          have hY17 : ∀ z, 17 ≤ z → bt Y z = false := fun z hz => by
            rw [hY z]
            unfold qR
            have : ¬ z < i := by omega
            simp [this]
          obtain ⟨res, w', r1, r2, r3⟩ := ring_ok hN20 (f4_net hw hN) (FF := Y) hY17 (x := i) (by omega) hind
          simp only [r1, Option.bind_some]
          rw [hYb, bas_sp M (bt X) (by omega)] at r3
          have hbb : bas (gs u' v') (bt X) i = !gs u' v' (qR (bt X) i) i := by unfold bas; rw [hb]; rfl
          rcases r3 with ⟨g, e⟩ | ⟨g, e, -⟩
          · rw [if_pos e]
            refine ih (i + 1) _ w' (by omega) (by omega) (f4_t r2 hw) (fun z => ?_)
            rw [b_or, bit_all (by omega), hY z, ← qR_I (by rw [hbb, g]; rfl)]
            rfl
          · rw [if_neg e]
            refine ih (i + 1) Y w' (by omega) (by omega) (f4_t r2 hw) (fun z => ?_)
            rw [hY z, qR_N (by rw [hbb, g]; rfl)]
  unfold f_X0_leastForest
  exact loop N 0 0 uF (by omega) (by omega) (f4_r uF) (fun z => by rw [b_0]; unfold qR; simp)
theorem bringAny_ok (hN20 : 20 ≤ N) {uF : sx_C} (hN : fNet uF u' v') {E : BS} (hE : E = bt (gi uF 7)) (hE17 : ∀ z, E z = true → z < 17) (hTwo : qTwo (rr u' v' (bt (gi uF 8))) (fmk uF)) (hs : qS (qUn (fmk uF)) E) :
    ∃ b uF', f_X0_bringAny N uF = some (b, uF') ∧ fNet uF' u' v' ∧ gi uF' 7 = gi uF 7 ∧ gi uF' 8 = gi uF 8 ∧ ((b = true ∧ qTwo (rr u' v' (bt (gi uF 8))) (fmk uF') ∧ qS (qUn (fmk uF')) E ∧ qSz (fmk uF') = qSz (fmk uF) + 1) ∨ (b = false ∧ gi uF' 5 = gi uF 5 ∧ gi uF' 6 = gi uF 6 ∧ qDone (rr u' v' (bt (gi uF 8))) E (fmk uF))) := by
  have M := rr_mat hN.2 (bt (gi uF 8))
  have hFE : ∀ t z, fmk uF t z = true → E z = true := fun t z hz => hs z (by
    show (fmk uF true z || fmk uF false z) = true
    cases t <;> simp [hz])
  have hsp : ∀ z, z < 32 → bt ((gi uF 7) &&& (((gi uF 5) ||| (gi uF 6)) ^^^ (-1))) z = (E z && !(qUn (fmk uF) z)) := fun z hz => by
    rw [b_and, h_not _ hz, b_or, hE]
    rfl
  have hc : qc q0 = 0 := fb_ct_zero.mpr (fun k _ => rfl)
  have loop : ∀ n i (w : sx_C), 17 - i < n → i ≤ 17 → fNet w u' v' → (gi w 5 = gi uF 5 ∧ gi w 6 = gi uF 6 ∧ gi w 7 = gi uF 7 ∧ gi w 8 = gi uF 8) → (∃ T : BS, qTight (rr u' v' (bt (gi uF 8))) (fmk uF) T ∧ ∀ z, z < i → E z = true → qUn (fmk uF) z = false → T z = true) → ∃ b uF', f_X0_bringAny_19 N n ((gi uF 7) &&& (((gi uF 5) ||| (gi uF 6)) ^^^ (-1))) (nI i) w = some (b, uF') ∧ fNet uF' u' v' ∧ gi uF' 7 = gi uF 7 ∧ gi uF' 8 = gi uF 8 ∧ ((b = true ∧ qTwo (rr u' v' (bt (gi uF 8))) (fmk uF') ∧ qS (qUn (fmk uF')) E ∧ qSz (fmk uF') = qSz (fmk uF) + 1) ∨ (b = false ∧ gi uF' 5 = gi uF 5 ∧ gi uF' 6 = gi uF 6 ∧ qDone (rr u' v' (bt (gi uF 8))) E (fmk uF))) := by
    intro n
    induction n with
    | zero => intro i w hn; omega
    | succ n ih =>
      intro i w hn hi hNw ⟨g5, g6, g7, g8⟩ hT
      unfold f_X0_bringAny_19
      have hFw : fmk w = fmk uF := fmk_eq g5 g6
      by_cases hcc : 17 ≤ i
      · rw [if_pos (show (17 : Int32) ≤ nI i from (nle (a := 17) (by omega) (by omega)).mpr hcc)]
        obtain ⟨T, t1, t2⟩ := hT
        exact ⟨false, w, rfl, hNw, g7, g8, Or.inr ⟨rfl, g5, g6, hTwo, hs, T, t1, fun z _ hz hz2 => t2 z (by have := hE17 z hz; omega) hz hz2⟩⟩
      · rw [if_neg (show ¬ (17 : Int32) ≤ nI i from fun h => hcc ((nle (a := 17) (by omega) (by omega)).mp h)), has_ok _ (by omega), Option.bind_some, hsp i (by omega)]
        unfold f_X0_bringAny_43
        rw [show nI i + 1 = nI (i + 1) from nadd i 1]
        cases hb : (E i && !(qUn (fmk uF) i))
        · rw [if_neg (by decide)]
          obtain ⟨T, t1, t2⟩ := hT
          refine ih (i + 1) w (by omega) (by omega) hNw ⟨g5, g6, g7, g8⟩ ⟨T, t1, fun z z1 z2 z3 => ?_⟩
          by_cases e : z = i
          · rw [e] at z2 z3
            rw [z2, z3] at hb; cases hb
          · exact t2 z (by omega) z2 z3
        · rw [if_pos rfl]
          simp at hb
          obtain ⟨hEi, hui⟩ := hb
          have hui : (fmk uF true i || fmk uF false i) = false := hui
          have hxF : ∀ t, fmk w t i = false := fun t => by
            rw [hFw]
            cases h1 : fmk uF true i <;> cases h2 : fmk uF false i <;> rw [h1, h2] at hui <;> first | (cases t <;> assumption) | cases hui
          obtain ⟨b, w', r1, r2, r3, r4, r5⟩ := bring_ok hN20 hNw (x := i) (by omega) (by rw [g8, hFw]; exact hTwo) (fun t z hz => by rw [hFw] at hz; exact hE17 z (hFE t z hz)) hxF
          simp only [r1, Option.bind_some]
          have g7' : gi w' 7 = gi uF 7 := by
            rw [r3, g7]
            refine b_ext (fun z hz => ?_)
            rw [b_or, bit_all (by omega)]
            by_cases e : z = i
            · rw [e]
              have : bt (gi uF 7) i = true := by rw [← hE]; exact hEi
              rw [this]; rfl
            · simp [e]
          have g8' : gi w' 8 = gi uF 8 := by rw [r4, g8]
          rw [g8, hFw] at r5
          rcases r5 with ⟨rfl, ⟨a5, a6⟩, S, s1, s2⟩ | ⟨rfl, a1, a2⟩
          · rw [if_neg (by decide)]
            obtain ⟨T, t1, t2⟩ := hT
            refine ih (i + 1) w' (by omega) (by omega) r2 ⟨by rw [a5, g5], by rw [a6, g6], g7', g8'⟩ ⟨qU T S, q_tight_un M hTwo t1 s1, fun z z1 z2 z3 => ?_⟩
            by_cases e : z = i
            · rw [e]; exact qU_r T S i s2
            · exact qU_l T S z (t2 z (by omega) z2 z3)
          · rw [if_pos rfl]
            refine ⟨true, w', rfl, r2, g7', g8', Or.inl ⟨rfl, a1, fun z hz => ?_, ?_⟩⟩
            · rw [a2 z] at hz
              have hz : (qUn (fmk uF) z || decide (z = i)) = true := hz
              by_cases e : z = i
              · rw [e]; exact hEi
              · exact hs z (by simpa [e] using hz)
            · rw [qSz_un a1.2, qSz_un hTwo.2]
              have e : qUn (fmk w') = qI (qUn (fmk uF)) i := funext a2
              rw [e]
              exact qc_ins (by omega) hui
  unfold f_X0_bringAny
  refine loop N 0 uF (by omega) (by omega) hN ⟨rfl, rfl, rfl, rfl⟩ ⟨q0, ?_, fun z hz => by omega⟩
  unfold qTight
  have e : ∀ t, qN (fmk uF t) q0 = q0 := fun t => by funext z; show (fmk uF t z && false) = false; simp
  rw [(M true).2.2.2, (M false).2.2.2, e, e, hc]
/-- barred, and free of what is barred -/
theorem two_bar (hk : ∀ i, u' i < 8 ∧ v' i < 8) {Bq : BS} {F : Bool → BS} (hF32 : ∀ t z, F t z = true → z < 32) : qTwo (rr u' v' Bq) F ↔ qTwo (fun _ => rk u' v') F ∧ ∀ z, F true z = true → Bq z = false := by
  have M := gs_mat hk
  have hD : (∀ z, F true z = true → Bq z = false) → qD (F true) Bq = F true := fun h => by
    funext z
    show (F true z && !Bq z) = F true z
    cases hz : F true z
    · rfl
    · rw [h z hz]; rfl
  constructor
  · rintro ⟨h1, h2⟩
    have hfree : ∀ z, F true z = true → Bq z = false := fun z hz => rB_free M (h1 true) (hF32 true z hz) hz
    refine ⟨⟨fun t => ?_, h2⟩, hfree⟩
    cases t
    · exact h1 false
    · have : rk u' v' (qD (F true) Bq) = qc (F true) := h1 true
      rw [hD hfree] at this
      exact this
  · rintro ⟨⟨h1, h2⟩, hfree⟩
    refine ⟨fun t => ?_, h2⟩
    cases t
    · exact h1 false
    · show rk u' v' (qD (F true) Bq) = qc (F true)
      rw [hD hfree]
      exact h1 true
theorem lower_ok (hN20 : 20 ≤ N) {uF : sx_C} (hN : fNet uF u' v') {E : BS} (hE : E = bt (gi uF 7)) (hE17 : ∀ z, E z = true → z < 17) {m : Nat} (hm : qMost (fun _ => rk u' v') E m) (h8 : gi uF 8 = 0) (hTwo : qTwo (fun _ => rk u' v') (fmk uF)) (hs : qS (qUn (fmk uF)) E) (hz : qSz (fmk uF) = m) :
    ∃ uF', f_X0_lower N uF = some uF' ∧ fNet uF' u' v' ∧ gi uF' 7 = gi uF 7 ∧ isFst (rk u' v') E m (bt (gi uF' 5)) ∧ (∀ Y, isFst (rk u' v') E m Y → ∀ p, bt (gi uF' 5) p = true → Y p = false → (∀ q, p < q → Y q = bt (gi uF' 5) q) → False) ∧ ∀ z, bt (gi uF' 6) z = bas (gs u' v') (qD E (bt (gi uF' 5))) z := by
  have hk := hN.2
  have M := gs_mat hk
  have h32 : ∀ (w : sx_C) t z, fmk w t z = true → z < 32 := fun w t z hz => by
    by_cases h : z < 32
    · exact h
    · cases t
      · have hz : bt (gi w 6) z = true := hz
        rw [b_big (by omega)] at hz; cases hz
      · have hz : bt (gi w 5) z = true := hz
        rw [b_big (by omega)] at hz; cases hz
  -- the loop
  have loop : ∀ n i (w : sx_C), i < n → i ≤ 17 → fNet w u' v' → gi w 7 = gi uF 7 → (∀ z, bt (gi w 8) z = true → i ≤ z ∧ z < 17) → qTwo (rr u' v' (bt (gi w 8))) (fmk w) → qS (qUn (fmk w)) E → qSz (fmk w) = m → (∀ z, i ≤ z → z < 17 → bt (gi w 8) z = false → ∀ G : Bool → BS, qTwo (fun _ => rk u' v') G → qS (qUn G) E → qSz G = m → (∀ y, z ≤ y → (bt (gi w 8) y = true ∨ y = z) → G true y = false) → False) → ∃ uF', f_X0_lower_3 N n (if i = 0 then -1 else nI (i - 1)) w = some uF' ∧ fNet uF' u' v' ∧ gi uF' 7 = gi uF 7 ∧ isFst (rk u' v') E m (bt (gi uF' 5)) ∧ (∀ Y, isFst (rk u' v') E m Y → ∀ p, bt (gi uF' 5) p = true → Y p = false → (∀ q, p < q → Y q = bt (gi uF' 5) q) → False) ∧ ∀ z, bt (gi uF' 6) z = bas (gs u' v') (qD E (bt (gi uF' 5))) z := by
    intro n
    induction n with
    | zero => intro i w hn; omega
    | succ n ih =>
      intro i w hn hi hNw g7 hB hTw hsw hzw hfrc
      unfold f_X0_lower_3
      obtain ⟨tw1, tw2⟩ := (two_bar hk (h32 w)).mp hTw
      by_cases h0 : i = 0
      · rw [if_pos h0, if_pos (by decide)]
        have hX : ∀ z, 17 ≤ z → bt ((gi w 7) &&& ((gi w 5) ^^^ (-1))) z = false := fun z hz2 => by
          by_cases hz32 : z < 32
          · rw [b_and, g7, ← hE]
            cases hEz : E z
            · rfl
            · have := hE17 z hEz; omega
          · exact b_big (by omega)
        obtain ⟨Y, w', l1, l2, l3⟩ := leastForest_ok hN20 hNw hX
        simp only [l1, Option.bind_some]
        have hX2 : bt ((gi w 7) &&& ((gi w 5) ^^^ (-1))) = qD E (bt (gi w 5)) := by
          funext z
          show _ = (E z && !bt (gi w 5) z)
          by_cases hz32 : z < 32
          · rw [b_and, h_not _ hz32, g7, ← hE]
          · rw [b_big (by omega)]
            cases hEz : E z
            · rfl
            · have := hE17 z hEz; omega
        have f5 : gi (si w' 6 Y) 5 = gi w 5 := by rw [gi_si, if_neg (by decide), l2.1]
        have f6 : gi (si w' 6 Y) 6 = Y := rfl
        refine ⟨si w' 6 Y, rfl, ?_, ?_, ?_, ?_, ?_⟩
        · exact ⟨fun i hi2 => (f4_net l2 hNw).1 i hi2, hk⟩
        · rw [gi_si, if_neg (by decide), l2.1]; exact g7
        · rw [f5]
          exact fst_two M hm tw1 hsw hzw
        · rw [f5]
          intro Y' hY' p p1 p2 p3
          obtain ⟨G, gg1, gg2, gg3, gg4⟩ := two_fst M hY'
          have hp17 : p < 17 := hE17 p (hsw p (by show (bt (gi w 5) p || _) = true; rw [p1]; rfl))
          refine hfrc p (by omega) hp17 (tw2 p p1) G gg2 gg3 gg4 (fun y hy hyB => ?_)
          rw [gg1]
          rcases hyB with hyB | hyB
          · by_cases e : y = p
            · rw [e]; exact p2
            · rw [p3 y (by omega)]
              cases hx : bt (gi w 5) y
              · rfl
              · rw [tw2 y hx] at hyB; cases hyB
          · rw [hyB]; exact p2
        · intro z
          rw [f5, f6, l3 z, hX2]
      · rw [if_neg h0, if_neg (nI_ne_neg (by omega)).2.2]
        obtain ⟨x, hx⟩ : ∃ x, i = x + 1 := ⟨i - 1, by omega⟩
        subst hx
        rw [show x + 1 - 1 = x by omega]
        obtain ⟨B1, hB1⟩ : ∃ B1, B1 = gi w 8 ||| sp_shl 1 (nI x) := ⟨_, rfl⟩
        rw [← hB1]
        have hB1b : ∀ z, bt B1 z = (bt (gi w 8) z || decide (z = x)) := fun z => by rw [hB1, b_or, bit_all (by omega)]
        have hxB : bt (gi w 8) x = false := by
          cases h : bt (gi w 8) x
          · rfl
          · have := hB x h; omega
        have w15 : gi (si w 8 B1) 5 = gi w 5 := rfl
        have w16 : gi (si w 8 B1) 6 = gi w 6 := rfl
        rw [w15, w16, has_ok _ (by omega), Option.bind_some]
        unfold f_X0_lower_85
        have em1 : nI x + (-1) = if x = 0 then -1 else nI (x - 1) := by
          by_cases e : x = 0
          · rw [if_pos e, e]; rfl
          · rw [if_neg e]; exact n_m1 (by omega)
        rw [em1]
        have hB1z : ∀ z, bt B1 z = true → x ≤ z ∧ z < 17 := fun z hz2 => by
          rw [hB1b] at hz2
          by_cases e : z = x
          · omega
          · have := hB z (by simpa [e] using hz2); omega
        -- what is forced stays so, x being barred
        have frc1 : ∀ z, x ≤ z → z < 17 → bt B1 z = false → ∀ G : Bool → BS, qTwo (fun _ => rk u' v') G → qS (qUn G) E → qSz G = m → (∀ y, z ≤ y → (bt B1 y = true ∨ y = z) → G true y = false) → False := fun z z1 z2 z3 G a1 a2 a3 a4 => by
          rw [hB1b] at z3
          simp at z3
          refine hfrc z (by omega) z2 z3.1 G a1 a2 a3 (fun y y1 y2 => a4 y y1 ?_)
          rcases y2 with y2 | y2
          · left; rw [hB1b, y2]; rfl
          · exact Or.inr y2
        cases hx5 : bt (gi w 5) x
        · rw [if_neg (by decide)]
          refine ih x (si w 8 B1) (by omega) (by omega) hNw g7 hB1z ?_ hsw hzw frc1
          refine (two_bar hk (h32 _)).mpr ⟨tw1, fun z hz2 => ?_⟩
          show bt B1 z = false
          have hz2 : bt (gi w 5) z = true := hz2
          rw [hB1b, tw2 z hz2]
          by_cases e : z = x
          · rw [e, hx5] at hz2; cases hz2
          · simp [e]
        · rw [if_pos rfl]
          obtain ⟨w1, hw1⟩ : ∃ w1, w1 = si (si w 8 B1) 5 (gi w 5 &&& (sp_shl 1 (nI x) ^^^ (-1))) := ⟨_, rfl⟩
          rw [← hw1]
          have hN1 : fNet w1 u' v' := by rw [hw1]; exact hNw
          have a7 : gi w1 7 = gi uF 7 := by rw [hw1]; exact g7
          have a8 : gi w1 8 = B1 := by rw [hw1]; rfl
          have hF1 : fmk w1 true = qE (fmk w true) x := by
            funext z
            rw [hw1]
            show bt (gi w 5 &&& (sp_shl 1 (nI x) ^^^ (-1))) z = (bt (gi w 5) z && !decide (z = x))
            by_cases hz32 : z < 32
            · rw [b_and, h_not _ hz32, bit_all (by omega)]
            · rw [b_big (by omega), b_big (by omega)]; rfl
          have hF0 : fmk w1 false = fmk w false := by rw [hw1]; rfl
          have hT1 : qTwo (rr u' v' (bt (gi w1 8))) (fmk w1) := by
            refine (two_bar hk (h32 _)).mpr ⟨⟨fun t => ?_, fun z hz2 => ?_⟩, fun z hz2 => ?_⟩
            · cases t
              · rw [hF0]; exact tw1.1 false
              · rw [hF1]; exact q_ind_sub M (tw1.1 true) (qE_s _ _)
            · rw [hF1, hF0] at hz2
              exact tw1.2 z ⟨qE_s _ _ z hz2.1, hz2.2⟩
            · rw [hF1] at hz2
              rw [a8, hB1b, tw2 z (qE_s _ _ z hz2)]
              have : (fmk w true z && !decide (z = x)) = true := hz2
              simp at this
              simp [this.2]
          have hs1 : qS (qUn (fmk w1)) E := fun z hz2 => by
            have hz2 : (fmk w1 true z || fmk w1 false z) = true := hz2
            rw [hF1, hF0] at hz2
            refine hsw z ?_
            show (fmk w true z || fmk w false z) = true
            have hz2 : ((fmk w true z && !decide (z = x)) || fmk w false z) = true := hz2
            cases h1 : fmk w true z
            · rw [h1] at hz2; simpa using hz2
            · rfl
          have hz1 : qSz (fmk w1) + 1 = m := by
            unfold qSz
            rw [hF1, hF0]
            have h9 : fb_ct (qE (fmk w true) x) 32 + 1 = fb_ct (fmk w true) 32 := qc_era (by omega) hx5
            have h10 : qc (fmk w true) + qc (fmk w false) = m := hzw
            show fb_ct (qE (fmk w true) x) 32 + qc (fmk w false) + 1 = m
            have h10 : fb_ct (fmk w true) 32 + qc (fmk w false) = m := h10
            omega
          obtain ⟨b, w2, r1, r2, r3, r4, r5⟩ := bringAny_ok hN20 hN1 (E := E) (by rw [a7]; exact hE) hE17 hT1 hs1
          simp only [r1, Option.bind_some]
          rw [a8] at r4 r5
          rcases r5 with ⟨rfl, c1, c2, c3⟩ | ⟨rfl, c1, c2, c3⟩
          · rw [if_pos rfl]
            exact ih x w2 (by omega) (by omega) r2 (by rw [r3]; exact a7) (by rw [r4]; exact hB1z) (by rw [r4]; exact c1) c2 (by rw [c3]; exact hz1) (by rw [r4]; exact frc1)
          · rw [if_neg (by decide)]
            obtain ⟨w3, hw3⟩ : ∃ w3, w3 = si (si (si w2 5 (gi w 5)) 6 (gi w 6)) 8 ((gi (si (si w2 5 (gi w 5)) 6 (gi w 6)) 8) &&& ((sp_shl 1 (nI x)) ^^^ (-1))) := ⟨_, rfl⟩
            rw [← hw3]
            have b8 : gi w3 8 = gi w 8 := by
              rw [hw3]
              show gi w2 8 &&& (sp_shl 1 (nI x) ^^^ (-1)) = gi w 8
              rw [r4]
              refine b_ext (fun z hz32 => ?_)
              rw [b_and, h_not _ hz32, bit_all (by omega), hB1b]
              by_cases e : z = x
              · rw [e, hxB]; simp
              · simp [e]
            have hF3 : fmk w3 = fmk w := fmk_eq (by rw [hw3]; rfl) (by rw [hw3]; rfl)
            refine ih x w3 (by omega) (by omega) (by rw [hw3]; exact r2) (by rw [hw3]; exact r3.trans a7) (fun z hz2 => ?_) (by rw [b8, hF3]; exact hTw) (by rw [hF3]; exact hsw) (by rw [hF3]; exact hzw) (fun z z1 z2 z3 G a1 a2 a3 a4 => ?_)
            · rw [b8] at hz2
              have := hB z hz2; omega
            · rw [b8] at z3 a4
              by_cases e : z = x
              · -- no pair has as many without x in the first
                have hG32 : ∀ t z, G t z = true → z < 32 := fun t z hz2 => by
                  have := hE17 z (a2 z (by show (G true z || G false z) = true; cases t <;> simp [hz2]))
                  omega
                have hGB : qTwo (rr u' v' (bt B1)) G := (two_bar hk hG32).mpr ⟨a1, fun y hy => by
                  cases hyB : bt B1 y
                  · rfl
                  · rw [hB1b] at hyB
                    have := a4 y (by
                      by_cases e2 : y = x
                      · omega
                      · have := hB y (by simpa [e2] using hyB); omega) (by
                      by_cases e2 : y = x
                      · right; omega
                      · left; simpa [e2] using hyB)
                    rw [hy] at this; cases this⟩
                obtain ⟨-, T, hT⟩ := q_done_most (rr_mat hk (bt B1)) c3
                have := q_bound (rr_mat hk (bt B1)) hGB a2 T
                omega
              · exact hfrc z (by omega) z2 z3 G a1 a2 a3 a4
  unfold f_X0_lower
  have e0 : ∀ z, bt (0 : Int32) z = false := b_0
  refine loop N 17 uF (by omega) (by omega) hN rfl (fun z hz2 => by rw [h8, e0] at hz2; cases hz2) ?_ hs hz (fun z z1 z2 => by omega)
  rw [h8, rr_0]; exact hTwo
end
