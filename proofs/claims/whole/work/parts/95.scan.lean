/-! ===== the model's rank, leastTree, forests ===== -/
section
variable {N : Nat} {xA xE : sx_C} {K L A B : Nat} {u v u' v' : Nat → Nat} {f : Nat → Nat}
/-- what the model's rows over the places mean -/
def mPl (xA xE : sx_C) (K L A B : Nat) (u v u' v' f : Nat → Nat) : Prop := mNet xA K L A B u v ∧ (∀ k, k < K → ga xE 37 k = nI (f k)) ∧ (∀ k, k < K → f k < K) ∧ (∀ i, u' i < 8 ∧ v' i < 8) ∧ ∀ i, i < L → u' i = f (u i) ∧ v' i = f (v i)
theorem isF_ok (hf : 20 ≤ N) (H : mPl xA xE K L A B u v u' v' f) (x : Int32) (xF : sx_C) : ∃ b xF', f_X12_isForest N xA xE x xF = some (b, xF') ∧ (b = true ↔ qInd (rk u' v') (bL x L)) := isForest_ok hf H.1 H.2.1 H.2.2.1 H.2.2.2.1 H.2.2.2.2 x xF
theorem rank_ok (hf : 20 ≤ N) (H : mPl xA xE K L A B u v u' v' f) (x : Int32) (xF : sx_C) : ∃ xF', f_X12_rank N xA xE x xF = some (nI (rk u' v' (bL x L)), xF') := by
  obtain ⟨h1, h2, h3, h4, h5, ⟨h6, h7, h8⟩, h9, h10⟩ := id H.1
  have M := gs_mat H.2.2.2.1
  obtain ⟨S, hS⟩ : ∃ S, S = bL x L := ⟨_, rfl⟩
  have hSL : ∀ z, S z = true → z < L := fun z hz => by rw [hS] at hz; exact bL_lt hz
  have loop : ∀ n i (Y : Int32) (w : sx_C), L - i < n → i ≤ L → (∀ z, bt Y z = qR (bas (gs u' v') S) i z) → ∃ xF', f_X12_rank_7 N xA xE n x (nI (fb_ct (bas (gs u' v') S) i)) Y (nI i) w = some (nI (rk u' v' S), xF') := by
    intro n
    induction n with
    | zero => intro i Y w hn; omega
    | succ n ih =>
      intro i Y w hn hi hY
      unfold f_X12_rank_7
      rw [h4]
      by_cases hc : L ≤ i
      · rw [if_pos ((nle (by omega) (by omega)).mpr hc)]
        refine ⟨w, ?_⟩
        have e : fb_ct (bas (gs u' v') S) i = rk u' v' S := by
          rw [← (bas_all M S).2]
          exact (ct_gap (by omega) (fun t t1 t2 => by
            unfold bas
            cases hz : S t
            · rfl
            · have := hSL t hz; omega)).symm
        rw [e]
      · rw [if_neg (fun h => hc ((nle (by omega) (by omega)).mp h))]
        unfold f_X12_rank_51
        rw [show nI i + 1 = nI (i + 1) from nadd i 1]
        have hSi : S i = bt x i := by
          rw [hS]
          show (bt x i && decide (i < L)) = bt x i
          have : i < L := by omega
          simp [this]
        cases hb : bt x i
        · rw [if_pos ((shr_ok x (by omega : i < 32)).2.mpr hb)]
          have hbas : bas (gs u' v') S i = false := by unfold bas; rw [hSi, hb]; rfl
          have := ih (i + 1) Y w (by omega) (by omega) (fun z => by rw [hY z, qR_N hbas])
          rw [fb_ct_succ, hbas] at this
          simpa using this
        · have n1 : ¬ (sp_shr x (nI i)) &&& 1 = 0 := fun h => by rw [(shr_ok _ (by omega)).2, hb] at h; cases h
          rw [if_neg n1]
          have hYb : bt Y = qR (bas (gs u' v') S) i := funext hY
          have hind : qInd (rk u' v') (qR (bas (gs u' v') S) i) := q_ind_sub M (bas_all M S).1 (qR_s _ _)
          obtain ⟨b, w', f1, f2⟩ := isF_ok hf H (Y ||| sp_shl 1 (nI i)) w
          have hset : bL (Y ||| sp_shl 1 (nI i)) L = qI (qR (bas (gs u' v') S) i) i := by
            rw [bL_set (by omega) h8]
            congr 1
            rw [bL_sub (fun z hz => ?_)]
            · exact hYb
            · rw [hY z] at hz
              unfold qR at hz
              simp at hz
              omega
          rw [hset] at f2
          have hni : qR (bas (gs u' v') S) i i = false := by unfold qR; simp
          have hiff : b = true ↔ gs u' v' (qR S i) i = false := by
            rw [f2, ← bas_sp M S (by omega : i < 32)]
            exact ⟨fun h => q_ind_not M (by omega) h hni, fun h => (q_ind_ins M hind (by omega) h).1⟩
          simp only [f1, Option.bind_some]
          have hbb : bas (gs u' v') S i = !gs u' v' (qR S i) i := by unfold bas; rw [hSi, hb]; rfl
          cases hg : gs u' v' (qR S i) i
          · have hbt : bas (gs u' v') S i = true := by rw [hbb, hg]; rfl
            rw [if_pos (hiff.mpr hg), show nI (fb_ct (bas (gs u' v') S) i) + 1 = nI (fb_ct (bas (gs u' v') S) i + 1) from nadd _ 1]
            have := ih (i + 1) (Y ||| sp_shl 1 (nI i)) w' (by omega) (by omega) (fun z => by
              rw [b_or, bit_all (by omega), hY z, ← qR_I hbt]; rfl)
            rw [fb_ct_succ, hbt] at this
            exact this
          · have hbf : bas (gs u' v') S i = false := by rw [hbb, hg]; rfl
            rw [if_neg (fun h => by rw [hiff.mp h] at hg; cases hg)]
            have := ih (i + 1) Y w' (by omega) (by omega) (fun z => by rw [hY z, qR_N hbf])
            rw [fb_ct_succ, hbf] at this
            simpa using this
  unfold f_X12_rank
  rw [← hS]
  exact loop N 0 0 xF (by omega) (by omega) (fun z => by rw [b_0]; unfold qR; simp)
theorem rk_le8 (u' v' : Nat → Nat) (S : BS) : rk u' v' S ≤ 8 := by unfold rk; omega
/-- the model's search for the least tree -/
theorem leastTree_ok (hf : 200000 ≤ N) (H : mPl xA xE K L A B u v u' v' f) {m a c : Nat} (hm : m < 2 ^ 17) (hmL : ∀ z, m.testBit z = true → z < L) (ha : sbs a m) {tw : Bool} (hc : c < 100)
    (hgood : qc (bt (nI a)) = c ∧ qInd (rk u' v') (bt (nI a)) ∧ (tw = true → rk u' v' (qD (bt (nI m)) (bt (nI a))) = c))
    (hbad : ∀ t, sbs t m → t < a → qc (bt (nI t)) = c → qInd (rk u' v') (bt (nI t)) → (tw = true → rk u' v' (qD (bt (nI m)) (bt (nI t))) = c) → False) (xF : sx_C) : ∃ xF', f_X12_leastTree N xA xE (nI m) (nI c) (if tw = true then 1 else 0) xF = some (nI a, xF') := by
  have h20 : 20 ≤ N := by omega
  have hL17 : L ≤ 17 := H.1.2.2.2.2.2.1.2.2
  have hale := sbs_le ha
  have hbit : ∀ t, sbs t m → bL (nI t) L = bt (nI t) := fun t ht => bL_sub (fun z hz => by
    by_cases h32 : z < 32
    · rw [h_nI z h32] at hz
      exact hmL z (sbs_iff.mp ht z hz)
    · rw [b_big (by omega)] at hz; cases hz)
  have hrest : ∀ t, sbs t m → bL (nI m &&& (nI t ^^^ (-1))) L = qD (bt (nI m)) (bt (nI t)) := fun t ht => by
    rw [bL_sub (fun z hz => ?_)]
    · funext z
      show _ = (bt (nI m) z && !bt (nI t) z)
      by_cases h32 : z < 32
      · rw [b_and, h_not _ h32]
      · rw [b_big (by omega), b_big (by omega)]; rfl
    · rw [b_and] at hz
      simp at hz
      by_cases h32 : z < 32
      · rw [h_nI z h32] at hz
        exact hmL z hz.1
      · rw [b_big (by omega)] at hz; cases hz.1
  have loop : ∀ n s w, a - s < n → sbs s m → s ≤ a → ∃ xF', f_X12_leastTree_3 N xA xE n (nI m) (nI c) (if tw = true then 1 else 0) (nI s) w = some (nI a, xF') := by
    intro n
    induction n with
    | zero => intro s w hn; omega
    | succ n ih =>
      intro s w hn hs hsa
      unfold f_X12_leastTree_3
      have hq := qc_le32 (bt (nI s))
      -- on to the next
      have next : ∀ w, s < a → ∃ xF', f_X12_leastTree_43 N (f_X12_leastTree_3 N xA xE n) xA xE (nI m) (nI c) (if tw = true then 1 else 0) (nI s) w = some (nI a, xF') := by
        intro w hlt
        unfold f_X12_leastTree_43 f_X12_leastTree_44
        rw [if_pos rfl, int_up (by omega)]
        obtain ⟨up1, up2⟩ := sub_up 32 s m a (by omega) hs ha hlt
        exact ih _ w (by omega) (sbs_and _ _) up2
      have hit : ∀ w, s = a → ∃ xF', f_X12_leastTree_39 N (f_X12_leastTree_3 N xA xE n) xA xE (nI m) (nI c) (if tw = true then 1 else 0) (nI s) w = some (nI a, xF') := by
        intro w e
        unfold f_X12_leastTree_39 f_X12_leastTree_44
        rw [if_neg (by decide), e]
        exact ⟨w, rfl⟩
      simp only [bits_ok, Option.bind_some]
      obtain ⟨b, w1, f1, f2⟩ := isF_ok h20 H (nI s) w
      rw [hbit s hs] at f2
      by_cases e : s = a
      · obtain ⟨g1, g2, g3⟩ := hgood
        rw [← e] at g1 g2 g3
        rw [if_pos (by rw [g1])]
        simp only [f1, Option.bind_some]
        rw [if_pos (f2.mpr g2)]
        cases tw
        · rw [if_pos (by decide)]; exact hit _ e
        · obtain ⟨w2, r1⟩ := rank_ok h20 H (nI m &&& (nI s ^^^ (-1))) w1
          rw [hrest s hs, g3 rfl] at r1
          rw [if_neg (by decide)]
          simp only [r1, Option.bind_some]
          rw [if_pos trivial]; exact hit _ e
      · have hlt : s < a := by omega
        by_cases q1 : qc (bt (nI s)) = c
        · rw [if_pos (by rw [q1])]
          simp only [f1, Option.bind_some]
          by_cases q2 : b = true
          · rw [if_pos q2]
            cases tw
            · exact absurd (hbad s hs hlt q1 (f2.mp q2) (fun h => by cases h)) id
            · obtain ⟨w2, r1⟩ := rank_ok h20 H (nI m &&& (nI s ^^^ (-1))) w1
              rw [hrest s hs] at r1
              rw [if_neg (by decide)]
              simp only [r1, Option.bind_some]
              by_cases q3 : rk u' v' (qD (bt (nI m)) (bt (nI s))) = c
              · exact absurd (hbad s hs hlt q1 (f2.mp q2) (fun _ => q3)) id
              · have := rk_le8 u' v' (qD (bt (nI m)) (bt (nI s)))
                rw [if_neg (fun h => q3 ((neq (by omega) (by omega)).mp h))]
                exact next _ hlt
          · rw [if_neg q2]; exact next _ hlt
        · rw [if_neg (fun h => q1 ((neq (by omega) (by omega)).mp h))]
          exact next _ hlt
  unfold f_X12_leastTree
  exact loop N 0 xF (by omega) (by unfold sbs; simp) (Nat.zero_le _)
/-- the least second -/
theorem second_scan (hk : ∀ i, u' i < 8 ∧ v' i < 8) {m a : Nat} (hm : m < 2 ^ 32) (hma : ∀ z, bt (nI a) z = bas (gs u' v') (bt (nI m)) z) (ha32 : a < 2 ^ 32) : sbs a m ∧ qc (bt (nI a)) = rk u' v' (bt (nI m)) ∧ qInd (rk u' v') (bt (nI a)) ∧ ∀ t, sbs t m → t < a → qc (bt (nI t)) = rk u' v' (bt (nI m)) → qInd (rk u' v') (bt (nI t)) → False := by
  have M := gs_mat hk
  have e : bt (nI a) = bas (gs u' v') (bt (nI m)) := funext hma
  obtain ⟨b1, b2⟩ := bas_all M (bt (nI m))
  have tb : ∀ x z, x < 2 ^ 32 → x.testBit z = bt (nI x) z := fun x z hx => by
    by_cases h : z < 32
    · rw [h_nI z h]
    · rw [b_big (by omega), tb_small hx (by omega)]
  refine ⟨sbs_iff.mpr (fun z hz => ?_), by rw [e]; exact b2, by rw [e]; exact b1, fun t ht hlt hc hi => ?_⟩
  · rw [tb a z ha32, e] at hz
    rw [tb m z hm]
    exact bas_s _ z hz
  · obtain ⟨p, p1, p2, p3, p4⟩ := top_bit 32 t a ha32 hlt
    have htm := sbs_le ht
    rw [tb a p ha32, e] at p2
    rw [tb t p (by omega)] at p3
    refine bas_min M (S := bt (nI m)) (T := bt (nI t)) (fun z hz => ?_) hi hc p1 p2 p3 (fun q q1 q2 => ?_)
    · rw [← tb t z (by omega)] at hz
      rw [← tb m z hm]
      exact sbs_iff.mp ht z hz
    · rw [← tb t q (by omega), p4 q q1, tb a q ha32, e]
/-- the least first -/
theorem first_scan {r : BS → Nat} {E : BS} {k : Nat} {m a : Nat} (hm : m < 2 ^ 32) (ha32 : a < 2 ^ 32) (hE : bt (nI m) = E) (h1 : isFst r E k (bt (nI a))) (h2 : ∀ Y, isFst r E k Y → ∀ p, bt (nI a) p = true → Y p = false → (∀ q, p < q → Y q = bt (nI a) q) → False) : sbs a m ∧ ∀ t, sbs t m → t < a → isFst r E k (bt (nI t)) → False := by
  have tb : ∀ x z, x < 2 ^ 32 → x.testBit z = bt (nI x) z := fun x z hx => by
    by_cases h : z < 32
    · rw [h_nI z h]
    · rw [b_big (by omega), tb_small hx (by omega)]
  refine ⟨sbs_iff.mpr (fun z hz => ?_), fun t ht hlt hF => ?_⟩
  · rw [tb a z ha32] at hz
    rw [tb m z hm, hE]
    exact h1.1 z hz
  · obtain ⟨p, p1, p2, p3, p4⟩ := top_bit 32 t a ha32 hlt
    have htm := sbs_le ht
    refine h2 _ hF p (by rw [← tb a p ha32]; exact p2) (by rw [← tb t p (by omega)]; exact p3) (fun q hq => ?_)
    rw [← tb t q (by omega), p4 q hq, tb a q ha32]
end
