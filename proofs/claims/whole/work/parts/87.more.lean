/-! ===== ifEnds, ifMore, lacks ===== -/
/-- all that a call may leave in the model: lines beyond the last -/
def mEq (L : Nat) (a b : sx_C) : Prop := (∀ k, gi a k = gi b k) ∧ (∀ k, k ≠ 5 → k ≠ 6 → ga a k = ga b k) ∧ ∀ i, i < L → ga a 5 i = ga b 5 i ∧ ga a 6 i = ga b 6 i
theorem qL_moved {u v : Nat → Nat} (hk : ∀ i, u i < 8 ∧ v i < 8) {e x x' k : Nat} (he : e < 32) (hx : x < 32) (hx' : x' < 32) (hu : u x = u x') (hv : v x = v x') {j E : BS} (hE : E x = false) (hE' : E x' = false) (h : qL (rk u v) e j (qI E x) k) : qL (rk u v) e j (qI E x') k := by
  have M := gs_mat hk
  obtain ⟨a, ha⟩ := q_min_ex (fJ (rk u v) j E)
  obtain ⟨b, hb⟩ := q_min_ex (fJ (rk u v) (qI j x) E)
  obtain ⟨c, hc⟩ := q_min_ex (fJ (rk u v) (qI j e) E)
  obtain ⟨d, hd⟩ := q_min_ex (fJ (rk u v) (qI (qI j e) x) E)
  obtain ⟨m, m1, m2⟩ := h
  have e1 := q_min_one m1 (fJ_more M hx hE ha hb)
  have e2 := q_min_one m2 (fJ_more M hx hE hc hd)
  rw [fJ_par hx hx' hu hv] at hb hd
  refine ⟨m, ?_, ?_⟩
  · rw [e1]; exact fJ_more M hx' hE' ha hb
  · rw [e2]; exact fJ_more M hx' hE' hc hd
theorem qL_less {u v : Nat → Nat} (hk : ∀ i, u i < 8 ∧ v i < 8) {e x k : Nat} (he : e < 32) (hx : x < 32) (hne : x ≠ e) (hu : u x = u e) (hv : v x = v e) {j E : BS} (hE : E x = false) (h : qL (rk u v) e j E k) : qL (rk u v) e j (qI E x) (k - 1) := by
  have M := gs_mat hk
  obtain ⟨m, m1, m2⟩ := h
  have m3 := m2
  rw [← fJ_par hx he hu hv] at m3
  have t1 := fJ_more M hx hE m1 m3
  have t2 := fJ_twice hk hx he hne hu hv hE m3
  refine ⟨min (m + 1) (m + k), t1, ?_⟩
  rw [show min (m + 1) (m + k) + (k - 1) = m + k by omega]
  exact t2
section
variable {N : Nat} {uG uN uF xA : sx_C} {K L A B : Nat} {u v : Nat → Nat}
theorem o_ifEnds (hf : 300 ≤ N) (hC : sCore K L A B u v uG uN uF xA) (x y : Int32) (xB xD xE xF xG : sx_C) : ∃ r1, f_X11_ifEnds N uG uN x y uF = some r1 ∧ ∃ r2, f_X12_ifEnds N x y xA xB xD xE xF xG = some r2 ∧ r1.1 = r2.1 ∧ (∃ u' v', fNet r1.2 u' v') ∧ mEq L r2.2.1 xA := by
  obtain ⟨hN, hM, hF, ⟨e7, e8, e11⟩, -⟩ := hC
  obtain ⟨c1, c2, c3, c4⟩ := cN_8 hN
  have hr : mEq L xA xA := ⟨fun _ => rfl, fun _ _ _ => rfl, fun _ _ => ⟨rfl, rfl⟩⟩
  unfold f_X11_ifEnds f_X12_ifEnds f_X11_areTwoKnots
  rcases knot_cases hN hM x with ⟨a, b⟩ | ⟨i, i1, rfl, i3, i4⟩
  · simp only [a, b, Option.bind_some, Bool.false_eq_true, ↓reduceIte]
    exact ⟨_, rfl, _, rfl, rfl, hF, hr⟩
  · rcases knot_cases hN hM y with ⟨a, b⟩ | ⟨j, j1, rfl, j3, j4⟩
    · simp only [i3, i4, a, b, Option.bind_some, Bool.false_eq_true, ↓reduceIte]
      exact ⟨_, rfl, _, rfl, rfl, hF, hr⟩
    · simp only [i3, i4, j3, j4, Option.bind_some, ↓reduceIte]
      by_cases hij : nI i = nI j
      · rw [if_pos hij, if_pos hij]
        exact ⟨_, rfl, _, rfl, rfl, hF, hr⟩
      · rw [if_neg hij, if_neg hij]
        obtain ⟨h1, h2, h3, h4, h5, ⟨h6, h7, h8⟩, ⟨h9, h9'⟩, h10⟩ := id hM
        have hM' : mNet (si (si xA 9 (nI i)) 10 (nI j)) K L i j u v := ⟨h1, rfl, rfl, h4, h5, ⟨h6, h7, h8⟩, ⟨i1, j1⟩, h10⟩
        obtain ⟨u0, v0, hF0⟩ := hF
        obtain ⟨k, uF1, a1, a2, a3, a4⟩ := lackB_ok (by omega : 20 ≤ N) hN hF0 (gi uG 12) (gi uG 13) i1 j1
        have a3 := (mlk_iff (K := K) c4 c1 (by omega : i < 8) (by omega : j < 8) _ _ k).mpr a3
        obtain ⟨xD1, xE1, xF1, xG1, b1⟩ := outcomeOf_ok hf hM' (gi uG 12) (gi uG 13) xD xE xF xG a3
        have q7 : gi (si (si xA 9 (nI i)) 10 (nI j)) 7 = gi uG 12 := e7
        have q8 : gi (si (si xA 9 (nI i)) 10 (nI j)) 8 = gi uG 13 := e8
        simp only [Option.bind_some, ↓reduceIte, a2, outBy_ok a1, q7, q8, b1]
        refine ⟨_, rfl, _, rfl, rfl, a4, fun k => ?_, fun _ _ _ => rfl, fun _ _ => ⟨rfl, rfl⟩⟩
        show gi (si (si (si (si xA 9 (nI i)) 10 (nI j)) 9 (gi xA 9)) 10 (gi xA 10)) k = gi xA k
        rw [gi_si, gi_si, gi_si, gi_si]
        by_cases k1 : k = 10
        · rw [if_pos k1, k1]
        · by_cases k2 : k = 9
          · rw [if_neg k1, if_pos k2, k2]
          · rw [if_neg k1, if_neg k2, if_neg k1, if_neg k2]
/-- one line more in the model -/
theorem more_ok (hM : mNet xA K L A B u v) (hL : L < 17) {a b : Nat} (ha : a < K) (hb : b < K) : ∃ xA', f_X12_more (nI a) (nI b) xA = some xA' ∧ mNet xA' K (L + 1) A B (fun i => if i = L then a else u i) (fun i => if i = L then b else v i) ∧ mEq L (si xA' 4 (nI L)) xA ∧ gi xA' 4 = nI (L + 1) ∧ ∀ k, k ≠ 4 → gi xA' k = gi xA k := by
  obtain ⟨h1, h2, h3, h4, h5, ⟨h6, h7, h8⟩, ⟨h9, h9'⟩, h10⟩ := id hM
  unfold f_X12_more
  rw [gi_sa, h4, if_pos (in_ok hL (by decide)), nI_clamp (by omega)]
  have q4 : gi (sa (sa xA 5 L (nI a)) 6 L (nI b)) 4 = nI L := h4
  have q4' : gi (sa xA 5 L (nI a)) 4 = nI L := h4
  rw [if_pos (in_ok hL (by decide)), q4, show nI L + 1 = nI (L + 1) from nadd L 1]
  obtain ⟨w, hw⟩ : ∃ w, w = si (sa (sa xA 5 L (nI a)) 6 L (nI b)) 4 (nI (L + 1)) := ⟨_, rfl⟩
  rw [← hw]
  have g5 : ∀ i, ga w 5 i = if i = L then nI a else ga xA 5 i := fun i => by
    rw [hw, ga_si, ga_sa, if_neg (by decide), ga_up]
  have g6 : ∀ i, ga w 6 i = if i = L then nI b else ga xA 6 i := fun i => by
    rw [hw, ga_si, ga_up]
    rfl
  have gk : ∀ k, k ≠ 4 → gi w k = gi xA k := fun k hk => by
    rw [hw, gi_si, if_neg hk]; rfl
  have g4 : gi w 4 = nI (L + 1) := by rw [hw]; rfl
  refine ⟨w, rfl, ⟨by rw [gk 3 (by decide)]; exact h1, by rw [gk 9 (by decide)]; exact h2, by rw [gk 10 (by decide)]; exact h3, g4, fun i hi => ?_, ⟨h6, h7, by omega⟩, ⟨h9, h9'⟩, fun i => ?_⟩, ⟨fun k => ?_, fun k k5 k6 => ?_, fun i hi => ?_⟩, g4, gk⟩
  · rw [g5, g6]
    by_cases e : i = L
    · simp [e]
    · simp only [e, ↓reduceIte]; exact h5 i (by omega)
  · dsimp only
    by_cases e : i = L
    · rw [if_pos e, if_pos e]; exact ⟨ha, hb⟩
    · rw [if_neg e, if_neg e]; exact h10 i
  · rw [gi_si]
    by_cases e : k = 4
    · rw [if_pos e, e, h4]
    · rw [if_neg e]; exact gk k e
  · rw [ga_si, hw, ga_si, ga_sa, if_neg k6, ga_sa, if_neg k5]
  · refine ⟨(g5 i).trans (if_neg (by omega)), (g6 i).trans (if_neg (by omega))⟩
/-- the model's sets with one line more -/
theorem bL_more {J : Int32} (hJ : ∀ z, bt J z = true → z < L) : bL J (L + 1) = bL J L := by
  rw [bL_sub hJ, bL_sub (fun z hz => by have := hJ z hz; omega)]
theorem opn_more {J G : Int32} (hL : L < 17) (hJ : ∀ z, bt J z = true → z < L) (hG : ∀ z, bt G z = true → z < L) : bt (opn (L + 1) J G) = qI (bt (opn L J G)) L := by
  funext z
  show _ = (bt (opn L J G) z || decide (z = L))
  by_cases hz : z < 32
  · rw [opn_bit (by omega) _ _ hz, opn_bit (by omega) _ _ hz]
    by_cases e : z = L
    · have a : bt J z = false := by
        cases h : bt J z
        · rfl
        · have := hJ z h; omega
      have b : bt G z = false := by
        cases h : bt G z
        · rfl
        · have := hG z h; omega
      rw [a, b]; simp [e]
    · have : decide (z < L + 1) = decide (z < L) := by by_cases h2 : z < L <;> simp [h2] <;> omega
      rw [this]; simp [e]
  · rw [b_big (by omega), b_big (by omega)]
    have : ¬ z = L := by omega
    simp [this]
theorem opn_off {J G : Int32} (hL : L < 31) {z : Nat} (hz : L ≤ z) : bt (opn L J G) z = false := by
  cases h : bt (opn L J G) z
  · rfl
  · have := opn_lt hL h; omega
theorem o_ifMore (hf : 300 ≤ N) (hC : sCore K L A B u v uG uN uF xA) (x y : Int32) (xB xD xE xF xG : sx_C) : ∃ r1, f_X11_ifMore N uG uN x y uF = some r1 ∧ ∃ r2, f_X12_ifMore N x y xA xB xD xE xF xG = some r2 ∧ r1.1 = r2.1 ∧ (∃ u' v', fNet r1.2 u' v') ∧ mEq L r2.2.1 xA := by
  obtain ⟨hN, hM, hF, ⟨e7, e8, e11⟩, -, hJ, hG, -⟩ := hC
  obtain ⟨c1, c2, c3, c4⟩ := cN_8 hN
  have hr : mEq L xA xA := ⟨fun _ => rfl, fun _ _ _ => rfl, fun _ _ => ⟨rfl, rfl⟩⟩
  have h20 : 20 ≤ N := by omega
  unfold f_X11_ifMore f_X12_ifMore f_X11_areTwoKnots
  rcases knot_cases hN hM x with ⟨a, b⟩ | ⟨a, i1, rfl, i3, i4⟩
  · simp only [a, b, Option.bind_some, Bool.false_eq_true, ↓reduceIte]
    exact ⟨_, rfl, _, rfl, rfl, hF, hr⟩
  · rcases knot_cases hN hM y with ⟨q, q'⟩ | ⟨b, j1, rfl, j3, j4⟩
    · simp only [i3, i4, q, q', Option.bind_some, Bool.false_eq_true, ↓reduceIte]
      exact ⟨_, rfl, _, rfl, rfl, hF, hr⟩
    · simp only [i3, i4, j3, j4, Option.bind_some, ↓reduceIte]
      by_cases hij : nI a = nI b
      · rw [if_pos hij, if_pos hij]
        exact ⟨_, rfl, _, rfl, rfl, hF, hr⟩
      · rw [if_neg hij, if_neg hij]
        obtain ⟨h1, h2, h3, h4, h5, ⟨h6, h7, h8⟩, ⟨h9, h9'⟩, h10⟩ := id hN
        obtain ⟨J, hJd⟩ : ∃ J, J = gi uG 12 := ⟨_, rfl⟩
        obtain ⟨G, hGd⟩ : ∃ G, G = gi uG 13 := ⟨_, rfl⟩
        rw [← hJd] at hJ e7
        rw [← hGd] at hG e8
        rw [← hJd, ← hGd]
        -- the model
        obtain ⟨xA1, m1, m2, m3, m4, m5⟩ := more_ok hM (by omega) i1 j1
        have q7 : gi xA1 7 = J := by rw [m5 7 (by decide)]; exact e7
        have q8 : gi xA1 8 = G := by rw [m5 8 (by decide)]; exact e8
        have hback : mEq L (si xA1 4 ((gi xA1 4) - 1)) xA := by
          have : gi xA1 4 - 1 = nI L := by rw [m4]; exact nsub L 1
          rw [this]; exact m3
        -- one net for both
        obtain ⟨w, hw⟩ : ∃ w : Nat → Nat, w = fun i => if i = 14 ∨ i = L then a else if i = 15 ∨ i = 16 ∨ i = 31 then A else u i := ⟨_, rfl⟩
        obtain ⟨t, ht⟩ : ∃ t : Nat → Nat, t = fun i => if i = 14 ∨ i = L then b else if i = 15 ∨ i = 16 ∨ i = 31 then B else v i := ⟨_, rfl⟩
        have hwt : ∀ i, w i < K ∧ t i < K := fun i => by
          rw [hw, ht]
          dsimp only
          by_cases e : i = 14 ∨ i = L
          · rw [if_pos e, if_pos e]; exact ⟨i1, j1⟩
          · rw [if_neg e, if_neg e]
            by_cases e2 : i = 15 ∨ i = 16 ∨ i = 31
            · rw [if_pos e2, if_pos e2]; exact ⟨h9, h9'⟩
            · rw [if_neg e2, if_neg e2]; exact h10 i
        have hwt8 : ∀ i, w i < 8 ∧ t i < 8 := fun i => by have := hwt i; omega
        have hlow : ∀ i, i < L → w i = u i ∧ t i = v i := fun i hi => by
          rw [hw, ht]
          dsimp only
          rw [if_neg (by omega), if_neg (by omega), if_neg (by omega), if_neg (by omega)]
          exact ⟨rfl, rfl⟩
        have w14 : w 14 = a ∧ t 14 = b := by rw [hw, ht]; exact ⟨if_pos (Or.inl rfl), if_pos (Or.inl rfl)⟩
        have wL : w L = a ∧ t L = b := by rw [hw, ht]; exact ⟨if_pos (Or.inr rfl), if_pos (Or.inr rfl)⟩
        have w15 : ∀ i, i = 15 ∨ i = 16 ∨ i = 31 → w i = A ∧ t i = B := fun i hi => by
          rw [hw, ht]
          dsimp only
          have hn : ¬ (i = 14 ∨ i = L) := by omega
          rw [if_neg hn, if_neg hn, if_pos hi, if_pos hi]
          exact ⟨rfl, rfl⟩
        have MW := gs_mat hwt8
        have hbL : ∀ z, bL J L z = true → z < L := fun z hz => bL_lt hz
        have hla : la w t (bL J L) = la u v (bL J L) := la_cong2 (fun i _ hi => hlow i (hbL i hi))
        have hOL : ∀ z, bt (opn L J G) z = true → z < L := fun z hz => opn_lt (by omega) hz
        -- what the model asks
        have key : ∀ k, mlk (fun i => if i = L then a else u i) (fun i => if i = L then b else v i) (L + 1) A B J G k ↔ qL (rk w t) 15 (bL J L) (qI (bt (opn L J G)) 14) k := fun k => by
          have MU := gs_mat (mN_U m2)
          unfold mlk
          rw [bL_more hJ, opn_more (by omega) hJ hG]
          have cg : ∀ T, qS T (qI (qU (bL J L) (qI (bt (opn L J G)) L)) 31) → rk (u31 (fun i => if i = L then a else u i) A) (u31 (fun i => if i = L then b else v i) B) T = rk w t T := fun T hT => rk_cong2 (fun i hi hTi => by
            have hh : ((bL J L i || (bt (opn L J G) i || decide (i = L))) || decide (i = 31)) = true := hT i hTi
            by_cases e31 : i = 31
            · rw [e31, (w15 31 (by omega)).1, (w15 31 (by omega)).2]; exact ⟨rfl, rfl⟩
            · rw [u31]
              unfold u31
              rw [if_neg e31, if_neg e31]
              dsimp only
              by_cases eL : i = L
              · rw [if_pos eL, if_pos eL, eL, wL.1, wL.2]; exact ⟨rfl, rfl⟩
              · have hiL : i < L := by
                  cases hb1 : bL J L i
                  · rw [hb1] at hh
                    exact hOL i (by simpa [e31, eL] using hh)
                  · exact hbL i hb1
                rw [if_neg eL, if_neg eL, (hlow i hiL).1, (hlow i hiL).2]; exact ⟨rfl, rfl⟩)
          have E1 : bt (opn L J G) L = false := opn_off (by omega) (Nat.le_refl _)
          have E2 : bt (opn L J G) 14 = false := opn_off (by omega) (by omega)
          have p31 : w 31 = w 15 ∧ t 31 = t 15 := by rw [(w15 31 (by omega)).1, (w15 31 (by omega)).2, (w15 15 (by omega)).1, (w15 15 (by omega)).2]; exact ⟨rfl, rfl⟩
          constructor
          · intro h
            refine qL_moved hwt8 (by omega) (by omega) (by omega) (by rw [wL.1, w14.1]) (by rw [wL.2, w14.2]) E1 E2 ?_
            exact qL_par (by omega) (by omega) p31.1 p31.2 (qL_cong2 MU MW cg h)
          · intro h
            refine qL_cong2 MW MU (fun T hT => (cg T hT).symm) (qL_par (by omega) (by omega) p31.1.symm p31.2.symm ?_)
            exact qL_moved hwt8 (by omega) (by omega) (by omega) (by rw [wL.1, w14.1]) (by rw [wL.2, w14.2]) E2 E1 h
        -- the class
        obtain ⟨p, p1, p2⟩ := placesBy_ok hN h20 J
        have hf8 := la_lt8 u v (bL J L)
        have n1 := num_ok p2 (k := a) (by omega) (hf8 a (by omega))
        have n2 := num_ok p2 (k := b) (by omega) (hf8 b (by omega))
        have n3 := num_ok p2 (k := A) (by omega) (hf8 A (by omega))
        have n4 := num_ok p2 (k := B) (by omega) (hf8 B (by omega))
        have cls : ∃ k uF', k ≤ 2 ∧ f_X3_lackingWithMore N uN J G (nI a) (nI b) uF = some (nI k, uF') ∧ qL (rk w t) 15 (bL J L) (qI (bt (opn L J G)) 14) k ∧ ∃ u' v', fNet uF' u' v' := by
          unfold f_X3_lackingWithMore
          simp only [p1, meet_ok hN p2 hf8, Option.bind_some]
          by_cases hh : la u v (bL J L) A = la u v (bL J L) B
          · rw [if_pos (decide_eq_true hh)]
            refine ⟨0, uF, by omega, rfl, qL_zero MW (by omega) ?_, hF⟩
            unfold gs
            rw [hla, (w15 15 (by omega)).1, (w15 15 (by omega)).2, hh]; simp
          · rw [if_neg (fun h => hh (of_decide_eq_true h))]
            obtain ⟨u0, v0, hF0⟩ := hF
            obtain ⟨w1, b1, b2⟩ := bringOpen_ok h20 hN p2 hf8 hOL (ut := fun i => la w t (bL J L) (w i)) (vt := fun i => la w t (bL J L) (t i)) (fun i => ⟨la_lt8 _ _ _ _ (hwt8 i).1, la_lt8 _ _ _ _ (hwt8 i).2⟩) (fun i hi => by
              rw [hla, (hlow i hi).1, (hlow i hi).2]; exact ⟨rfl, rfl⟩) hF0
            obtain ⟨w2, bb, w3, d1, d2, d3, -, -⟩ := j_bring h20 (ut := fun i => la w t (bL J L) (w i)) (vt := fun i => la w t (bL J L) (t i)) (fun i => ⟨la_lt8 _ _ _ _ (hwt8 i).1, la_lt8 _ _ _ _ (hwt8 i).2⟩) b2 (x := 14) (by omega) (fun z hz => by have := hOL z hz; omega) (opn_off (by omega) (by omega))
            rw [hla, w14.1, w14.2] at d1
            have d1 : f_X0_lay 14 (nI (la u v (bL J L) a)) (nI (la u v (bL J L) b)) w1 = some w2 := d1
            have d2 : f_X0_bring N 14 w2 = some (bb, w3) := d2
            obtain ⟨k, w4, s1, s2, s3, s4⟩ := stillTaken_ok h20 hwt8 (j := bL J L) (E := qI (bt (opn L J G)) 14) (fun z hz => by
              have hz : (bt (opn L J G) z || decide (z = 14)) = true := hz
              by_cases e : z = 14
              · omega
              · have := hOL z (by simpa [e] using hz); omega) (by rw [(w15 15 (by omega)).1, (w15 16 (by omega)).1]) (by rw [(w15 15 (by omega)).2, (w15 16 (by omega)).2]) d3
            rw [hla, (w15 15 (by omega)).1, (w15 15 (by omega)).2] at s2
            simp only [copen_ok hN, h2, h3, b1, n1, n2, n3, n4, d1, d2, s2, Option.bind_some]
            exact ⟨k, w4, s1, rfl, s3, s4⟩
        obtain ⟨k, uF1, a1, a2, a3, a4⟩ := cls
        obtain ⟨xD1, xE1, xF1, xG1, b1⟩ := outcomeOf_ok hf m2 J G xD xE xF xG ((key k).mpr a3)
        simp only [Option.bind_some, ↓reduceIte, a2, outBy_ok a1, m1, q7, q8, b1]
        exact ⟨_, rfl, _, rfl, rfl, a4, hback⟩
/-- lines between the ends, one after the other -/
theorem o_lacks (hf : 300 ≤ N) (hC : sCore K L A B u v uG uN uF xA) (xB xD xE xF xG : sx_C) : ∃ r1, f_X11_lacks N uG uN uF = some r1 ∧ ∃ r2, f_X12_lacks N xA xB xD xE xF xG = some r2 ∧ r1.1 = r2.1 ∧ (∃ u' v', fNet r1.2 u' v') ∧ mEq L r2.2.1 xA := by
  obtain ⟨hN, hM, hF, ⟨e7, e8, e11⟩, -, hJ, hG, -⟩ := hC
  obtain ⟨c1, c2, c3, c4⟩ := cN_8 hN
  obtain ⟨h1, h2, h3, h4, h5, ⟨h6, h7, h8⟩, ⟨h9, h9'⟩, h10⟩ := id hM
  obtain ⟨J, hJd⟩ : ∃ J, J = gi uG 12 := ⟨_, rfl⟩
  obtain ⟨G, hGd⟩ : ∃ G, G = gi uG 13 := ⟨_, rfl⟩
  rw [← hJd] at hJ e7
  rw [← hGd] at hG e8
  unfold f_X11_lacks f_X12_lacks
  obtain ⟨k, uF1, a1, a2, a3, a4⟩ := lacking_ok (by omega : 20 ≤ N) hN hF J G
  rw [← hJd, ← hGd]
  simp only [a2, Option.bind_some]
  -- with n more
  have loop : ∀ fu n (xa : sx_C) (u1 v1 : Nat → Nat) (l : Nat) xD xE xF xG, k - n < fu → n ≤ k → l = L + n → mNet xa K l A B u1 v1 → mEq L (si xa 4 (nI L)) xA → (∀ q, q ≠ 4 → gi xa q = gi xA q) → (∀ z, bt J z = true → z < l) → (∀ z, bt G z = true → z < l) → mlk u1 v1 l A B J G (k - n) → ∃ r2, f_X12_lacks_10 N fu (nI L) xa (si xB 0 0) xD xE xF xG = some r2 ∧ nI k = r2.1 ∧ mEq L r2.2.1 xA := by
    intro fu
    induction fu with
    | zero => intro n xa u1 v1 l xD xE xF xG hn; omega
    | succ fu ih =>
      intro n xa u1 v1 l xD xE xF xG hn hnk hl hm heq hgi hj hg hk
      unfold f_X12_lacks_10
      obtain ⟨b, xD1, xE1, xF1, xG1, s1, s2⟩ := isSafe_ok hf hm J G xD xE xF xG
      rw [hgi 7 (by decide), hgi 8 (by decide), e7, e8]
      simp only [s1, Option.bind_some]
      by_cases hb : b = true
      · rw [if_pos hb]
        have : k - n = 0 := mlk_one hk (s2.mp hb)
        refine ⟨_, rfl, ?_, heq⟩
        show nI k = gi xa 4 - nI L
        have h4' : gi xa 4 = nI l := hm.2.2.2.1
        rw [h4', hl, show L + n = k + L by omega, nsub]
      · rw [if_neg hb]
        have hkn : k - n ≠ 0 := fun e => hb (s2.mpr (by rw [← e]; exact hk))
        obtain ⟨xa1, m1, m2, m3, m4, m5⟩ := more_ok hm (by omega) h9 h9'
        have q9 : gi xa 9 = nI A := hm.2.1
        have q10 : gi xa 10 = nI B := hm.2.2.1
        rw [q9, q10]
        simp only [m1, Option.bind_some]
        have hm8 := mN_U hm
        refine ih (n + 1) xa1 _ _ (l + 1) xD1 xE1 xF1 xG1 (by omega) (by omega) (by omega) m2 ⟨fun q => ?_, fun q q5 q6 => ?_, fun i hi => ?_⟩ (fun q hq => by rw [m5 q hq]; exact hgi q hq) (fun z hz => by have := hj z hz; omega) (fun z hz => by have := hg z hz; omega) ?_
        · rw [gi_si]
          by_cases e : q = 4
          · rw [if_pos e, e, h4]
          · rw [if_neg e, m5 q e]; exact hgi q e
        · have := m3.2.1 q q5 q6
          have h11 := heq.2.1 q q5 q6
          rw [ga_si] at this h11 ⊢
          rw [this]; exact h11
        · have := m3.2.2 i (by omega)
          have h11 := heq.2.2 i hi
          exact ⟨Eq.trans (b := ga xa 5 i) this.1 h11.1, Eq.trans (b := ga xa 6 i) this.2 h11.2⟩
        · -- one line more between the ends: one less is lacking
          have MU := gs_mat hm8
          obtain ⟨w, hw⟩ : ∃ w : Nat → Nat, w = u31 (fun i => if i = l then A else u1 i) A := ⟨_, rfl⟩
          obtain ⟨t, ht⟩ : ∃ t : Nat → Nat, t = u31 (fun i => if i = l then B else v1 i) B := ⟨_, rfl⟩
          have hwt8 : ∀ i, w i < 8 ∧ t i < 8 := by rw [hw, ht]; exact mN_U m2
          have hlo : ∀ i, i ≠ l → w i = u31 u1 A i ∧ t i = u31 v1 B i := fun i hi => by
            rw [hw, ht]
            unfold u31
            by_cases e : i = 31
            · rw [if_pos e, if_pos e, if_pos e, if_pos e]; exact ⟨rfl, rfl⟩
            · rw [if_neg e, if_neg e, if_neg e, if_neg e]; dsimp only; rw [if_neg hi, if_neg hi]; exact ⟨rfl, rfl⟩
          have hk2 : qL (rk w t) 31 (bL J l) (bt (opn l J G)) (k - n) := by
            refine qL_cong2 MU (gs_mat hwt8) (fun T hT => rk_cong2 (fun i hi hTi => ?_)) hk
            have hh : ((bL J l i || bt (opn l J G) i) || decide (i = 31)) = true := hT i hTi
            have hne : i ≠ l := by
              intro e
              rw [e] at hh
              have z1 : bL J l l = false := by
                cases h : bL J l l
                · rfl
                · have := bL_lt h; omega
              have z2 : bt (opn l J G) l = false := opn_off (by omega) (Nat.le_refl _)
              have z3 : ¬ l = 31 := by omega
              rw [z1, z2] at hh
              simp [z3] at hh
            exact ⟨(hlo i hne).1.symm, (hlo i hne).2.symm⟩
          have wl : w l = w 31 ∧ t l = t 31 := by
            rw [hw, ht]
            unfold u31
            have z3 : ¬ l = 31 := by omega
            rw [if_neg z3, if_neg z3]
            simp
          have := qL_less hwt8 (e := 31) (x := l) (by omega) (by omega) (by omega) wl.1 wl.2 (opn_off (by omega) (Nat.le_refl _)) hk2
          unfold mlk
          rw [bL_more hj, opn_more (by omega) hj hg, ← hw, ← ht, show k - (n + 1) = k - n - 1 by omega]
          exact this
  obtain ⟨r2, l1, l2, l3⟩ := loop N 0 xA u v L xD xE xF xG (by omega) (by omega) rfl hM ⟨fun q => by
      rw [gi_si]
      by_cases e : q = 4
      · rw [if_pos e, e, h4]
      · rw [if_neg e], fun _ _ _ => rfl, fun _ _ => ⟨rfl, rfl⟩⟩ (fun _ _ => rfl) hJ hG a3
  rw [h4]
  exact ⟨_, rfl, r2, l1, l2, a4, l3⟩
end
