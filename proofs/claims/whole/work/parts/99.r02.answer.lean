/-! ===== answers and exchanges ===== -/
def aV (ut vt : Nat → Nat) (a b : Int32) (i : Nat) : Nat → Bool := if bt a i = true then (fun j => bt b j && !gs ut vt (qE (bt a) i) j) else if bt b i = true then (fun j => bt a j && !gs ut vt (qE (bt b) i) j) else (fun j => bt a j || bt b j)
def xV (ut vt : Nat → Nat) (own oth : Int32) (i : Nat) : Nat → Bool := fun j => bt oth j && (!gs ut vt (qE (bt own) i) j && !gs ut vt (qE (bt oth) j) i)
section
variable {N : Nat} {uF uP xA xE xH : sx_C} {K L A B : Nat} {u v ut vt : Nat → Nat} {f : Nat → Nat} {W : BS} {a b : Int32} {c : Nat}
theorem trP_sym (h : trP ut vt W a b c) : trP ut vt W b a c := by
  obtain ⟨h1, h2, h3, h4, h5, h6, h7, h8, h9, h10⟩ := h
  exact ⟨h1, h3, h2, fun z hz => h4 z ⟨hz.2, hz.1⟩, h6, h5, h8, h7, h9, h10⟩
/-- what a tree lacks, the other one has -/
theorem tr_link (hk : ∀ i, ut i < 8 ∧ vt i < 8) (h : trP ut vt W a b c) {i : Nat} (hi : bt a i = true) : ∃ j, j < 14 ∧ bt b j = true ∧ gs ut vt (qE (bt a) i) j = false := by
  obtain ⟨h1, h2, h3, h4, h5, h6, h7, h8, h9, h10⟩ := h
  have M := gs_mat hk
  have i14 := h1 i (h2 i hi)
  refine Classical.byContradiction (fun hn => ?_)
  have hall : ∀ y, y < 32 → bt b y = true → gs ut vt (qE (bt a) i) y = true := fun y _ hy => by
    cases hg : gs ut vt (qE (bt a) i) y
    · exact absurd ⟨y, h1 y (h3 y hy), hy, hg⟩ hn
    · rfl
  have h11 := q_span M hall
  have h12 := q_mono M (qU_r (qE (bt a) i) (bt b))
  have h13 : fb_ct (qE (bt a) i) 32 + 1 = fb_ct (bt a) 32 := qc_era (by omega) hi
  have h14 := q_ind_sub M h5 (qE_s (bt a) i)
  unfold qInd at h6 h14
  have h7 : fb_ct (bt a) 32 = c := h7
  have h14 : rk ut vt (qE (bt a) i) = fb_ct (qE (bt a) i) 32 := h14
  omega
theorem tr_swap (hk : ∀ i, ut i < 8 ∧ vt i < 8) (h : trP ut vt W a b c) {i : Nat} (hi : bt a i = true) : ∃ j, j < 14 ∧ xV ut vt a b i j = true := by
  obtain ⟨h1, h2, h3, h4, h5, h6, h7, h8, h9, h10⟩ := h
  have M := gs_mat hk
  have i14 := h1 i (h2 i hi)
  -- the other spans the line
  have hsp : gs ut vt (bt b) i = true := by
    rw [q_spn M (by omega)]
    have a1 := q_mono M (A := qI (bt b) i) (B := W) (qS_I h3 (h2 i hi))
    have a2 := q_mono M (qI_s (bt b) i)
    unfold qInd at h6
    omega
  have hcirc := q_circ M h6 (by omega : i < 32) hsp
  refine Classical.byContradiction (fun hn => ?_)
  have hall : ∀ y, y < 32 → qC (gs ut vt) (bt b) i y = true → gs ut vt (qE (bt a) i) y = true := fun y _ hy => by
    unfold qC at hy
    simp at hy
    cases hg : gs ut vt (qE (bt a) i) y
    · exfalso
      refine hn ⟨y, h1 y (h3 y hy.1), ?_⟩
      unfold xV
      rw [hy.1, hg, hy.2]; rfl
    · rfl
  have h11 := q_span M hall
  have h12 : gs ut vt (qU (qE (bt a) i) (qC (gs ut vt) (bt b) i)) i = true := M.2.1 _ _ _ (qU_r _ _) hcirc
  rw [q_spn M (by omega)] at h12
  have h13 : gs ut vt (qE (bt a) i) i = true := by
    rw [q_spn M (by omega)]
    have a1 := q_mono M (A := qI (qE (bt a) i) i) (B := qI (qU (qE (bt a) i) (qC (gs ut vt) (bt b) i)) i) (fun y hy => by
      unfold qI at *
      simp at *
      rcases hy with hy | hy
      · exact Or.inl (qU_l _ _ y hy)
      · exact Or.inr hy)
    have a2 := q_mono M (qI_s (qE (bt a) i) i)
    omega
  rw [q_ind_era M (by omega) h5 hi] at h13
  cases h13
theorem ans_ex (hk : ∀ i, ut i < 8 ∧ vt i < 8) (h : trP ut vt W a b c) (i : Nat) : ∃ j, j < 14 ∧ aV ut vt a b i j = true ∧ fb_ct (aV ut vt a b i) j = 0 := by
  have hpos : ∃ j, j < 14 ∧ aV ut vt a b i j = true := by
    unfold aV
    by_cases h1 : bt a i = true
    · rw [if_pos h1]
      obtain ⟨j, j1, j2, j3⟩ := tr_link hk h h1
      exact ⟨j, j1, by rw [j2, j3]; rfl⟩
    · rw [if_neg h1]
      by_cases h2 : bt b i = true
      · rw [if_pos h2]
        obtain ⟨j, j1, j2, j3⟩ := tr_link hk (trP_sym h) h2
        exact ⟨j, j1, by rw [j2, j3]; rfl⟩
      · rw [if_neg h2]
        obtain ⟨h1, h2, -, -, -, -, h7, -, -, h10⟩ := h
        have : 0 < fb_ct (bt a) 32 := by
          have h7 : fb_ct (bt a) 32 = c := h7
          omega
        obtain ⟨j, -, j2⟩ := fb_ct_pos.mp this
        exact ⟨j, h1 j (h2 j j2), by rw [j2]; rfl⟩
  obtain ⟨j, j1, j2, j3⟩ := fb_ct_kth (k := 0) (n := 14) (fb_ct_pos.mpr hpos)
  exact ⟨j, j1, j2, j3⟩
theorem links_ok (hN20 : 20 ≤ N) {u' v' : Nat → Nat} (hF : fNet uF u' v') (hag : ∀ i, W i = true → u' i = ut i ∧ v' i = vt i) (hW : ∀ z, W z = true → z < 14) {own : Int32} (ho : qS (bt own) W) (hi : qInd (rk ut vt) (bt own)) (hk : ∀ i, ut i < 8 ∧ vt i < 8) {i j : Nat} (hi32 : i < 17) (hj : W j = true) : ∃ uF', f_X7_links N own (nI i) (nI j) uF = some (!gs ut vt (qE (bt own) i) j, uF') ∧ f4 uF' uF := by
  have M := gs_mat hk
  have hset : bt (own &&& (sp_shl 1 (nI i) ^^^ (-1))) = qE (bt own) i := by
    funext z
    show _ = (bt own z && !decide (z = i))
    by_cases hz : z < 32
    · rw [b_and, h_not _ hz, bit_all hi32]
    · rw [b_big (by omega), b_big (by omega)]; rfl
  have hsW : ∀ z, qE (bt own) i z = true → W z = true := fun z hz => ho z (qE_s _ _ z hz)
  have hind : qInd (rk u' v') (bt (own &&& (sp_shl 1 (nI i) ^^^ (-1)))) := by
    rw [hset]
    have := q_ind_sub M hi (qE_s (bt own) i)
    unfold qInd at *
    rw [← this]
    exact rk_cong2 (fun z _ hz => hag z (hsW z hz))
  have j14 := hW j hj
  obtain ⟨res, uF', r1, r2, r3⟩ := ring_ok hN20 hF (FF := own &&& (sp_shl 1 (nI i) ^^^ (-1))) (fun z hz => by
    rw [hset]
    cases h : qE (bt own) i z
    · rfl
    · have := hW z (hsW z h); omega) (x := j) (by omega) hind
  rw [hset, gs_cong2 (u2 := ut) (v2 := vt) (fun z _ hz => hag z (hsW z hz)) (hag j hj)] at r3
  unfold f_X7_links
  simp only [r1, Option.bind_some]
  rcases r3 with ⟨g, e⟩ | ⟨g, e, -⟩
  · rw [if_pos e, g]; exact ⟨uF', rfl, r2⟩
  · rw [if_neg e, g]; exact ⟨uF', rfl, r2⟩
/-- the class's reply -/
theorem reply_ok (hN20 : 20 ≤ N) {u' v' : Nat → Nat} (hF : fNet uF u' v') (hag : ∀ i, W i = true → u' i = ut i ∧ v' i = vt i) (hk : ∀ i, ut i < 8 ∧ vt i < 8) (h : trP ut vt W (gi uP 4) (gi uP 5) c) {i j : Nat} (hi : i < 17) (hj1 : aV ut vt (gi uP 4) (gi uP 5) i j = true) (hj2 : fb_ct (aV ut vt (gi uP 4) (gi uP 5) i) j = 0) : ∃ uF', f_X7_reply N uP (nI i) uF = some (nI j, uF') ∧ f4 uF' uF := by
  have key : ∀ own oth : Int32, trP ut vt W own oth c → ∀ n z (w : sx_C), 14 - z < n → z ≤ 14 → f4 w uF → (bt oth j = true ∧ gs ut vt (qE (bt own) i) j = false) → (∀ y, y < j → ¬ (bt oth y = true ∧ gs ut vt (qE (bt own) i) y = false)) → z ≤ j → ∃ uF', f_X7_reply_79 N uP n (nI i) own oth (nI z) w = some (nI j, uF') ∧ f4 uF' uF := by
    intro own oth ht n
    obtain ⟨t1, t2, t3, t4, t5, t6, t7, t8, t9, t10⟩ := ht
    induction n with
    | zero => intro z w hn; omega
    | succ n ih =>
      intro z w hn hz hw hgood hbad hzj
      have j14 := t1 j (t3 j hgood.1)
      unfold f_X7_reply_79
      rw [if_neg (show ¬ (14 : Int32) ≤ nI z from fun h => by have := (nle (a := 14) (by omega) (by omega)).mp h; omega), has_ok _ (by omega), Option.bind_some]
      unfold f_X7_reply_109
      rw [show nI z + 1 = nI (z + 1) from nadd z 1]
      cases hb : bt oth z
      · rw [if_neg (by decide)]
        exact ih (z + 1) w (by omega) (by omega) hw hgood hbad (by
          by_cases e : z = j
          · rw [e, hgood.1] at hb; cases hb
          · omega)
      · rw [if_pos rfl]
        obtain ⟨w', l1, l2⟩ := links_ok hN20 (f4_net hw hF) hag t1 t2 t5 hk hi (t3 z hb)
        simp only [l1, Option.bind_some]
        cases hg : gs ut vt (qE (bt own) i) z
        · rw [if_pos (by rfl)]
          have : z = j := by
            by_cases e : z = j
            · exact e
            · exact absurd ⟨hb, hg⟩ (hbad z (by omega))
          rw [this]
          exact ⟨w', rfl, f4_t l2 hw⟩
        · rw [if_neg (by decide)]
          exact ih (z + 1) w' (by omega) (by omega) (f4_t l2 hw) hgood hbad (by
            by_cases e : z = j
            · rw [e, hgood.2] at hg; cases hg
            · omega)
  have hlow : ∀ y, y < j → aV ut vt (gi uP 4) (gi uP 5) i y = false := fun y hy => fb_ct_zero.mp hj2 y hy
  unfold f_X7_reply
  rw [has_ok _ (by omega), Option.bind_some, b_or, has_ok _ (by omega), Option.bind_some]
  unfold f_X7_reply_52 f_X7_reply_75
  rw [has_ok _ (by omega), Option.bind_some, Option.bind_some]
  unfold aV at hj1 hlow
  cases ha : bt (gi uP 4) i
  · rw [ha] at hj1 hlow
    simp only [Bool.false_eq_true, ↓reduceIte] at hj1 hlow
    cases hb : bt (gi uP 5) i
    · rw [hb] at hj1 hlow
      simp only [Bool.false_eq_true, ↓reduceIte] at hj1 hlow
      simp only [Bool.or_false, Bool.false_eq_true, ↓reduceIte]
      obtain ⟨r, r1, r2⟩ := nth_ok hN20 (gi uP 4 ||| gi uP 5) (k := 0) (by omega)
      have r1 : f_X11_nth N (gi uP 4 ||| gi uP 5) 0 = some r := r1
      rw [r1]
      have hjb : bt (gi uP 4 ||| gi uP 5) j = true := by rw [b_or]; exact hj1
      have j14 : j < 14 := by
        obtain ⟨t1, t2, t3, -⟩ := h
        cases h9 : bt (gi uP 4) j
        · rw [h9] at hj1; exact t1 j (t3 j (by simpa using hj1))
        · exact t1 j (t2 j h9)
      have hz : fb_ct (bt (gi uP 4 ||| gi uP 5)) j = 0 := fb_ct_zero.mpr (fun y hy => by rw [b_or]; exact hlow y hy)
      rcases r2 with ⟨y, y1, y2, y3, y4⟩ | ⟨y1, -⟩
      · have : y = j := fb_ct_kth_one y2 hjb (by rw [y3, hz])
        rw [y4, this]
        exact ⟨uF, rfl, f4_r uF⟩
      · have := fb_ct_zero.mp (by omega : fb_ct (bt (gi uP 4 ||| gi uP 5)) 14 = 0) j j14
        rw [hjb] at this; cases this
    · rw [hb] at hj1 hlow
      simp only [↓reduceIte] at hj1 hlow
      simp only [Bool.or_true, Bool.false_eq_true, ↓reduceIte]
      refine key _ _ (trP_sym h) N 0 uF (by omega) (by omega) (f4_r uF) ?_ (fun y hy h9 => ?_) (Nat.zero_le _)
      · simp at hj1; exact hj1
      · have := hlow y hy
        rw [h9.1, h9.2] at this; cases this
  · rw [ha] at hj1 hlow
    simp only [↓reduceIte] at hj1 hlow
    simp only [Bool.true_or, ↓reduceIte]
    refine key _ _ h N 0 uF (by omega) (by omega) (f4_r uF) ?_ (fun y hy h9 => ?_) (Nat.zero_le _)
    · simp at hj1; exact hj1
    · have := hlow y hy
      rw [h9.1, h9.2] at this; cases this
/-- one line more in a tree without a line: the model's question -/
theorem mlink_ok (hf : 20 ≤ N) (H : mPl xA xE K L A B u v ut vt f) (hWL : ∀ z, W z = true → z < L) {own : Int32} (ho : qS (bt own) W) (hi : qInd (rk ut vt) (bt own)) {i j : Nat} (hi17 : i < 17) (hj : W j = true) (hjo : bt own j = false) (xF : sx_C) : ∃ xF', f_X12_isForest N xA xE ((own &&& (sp_shl 1 (nI i) ^^^ (-1))) ||| sp_shl 1 (nI j)) xF = some (!gs ut vt (qE (bt own) i) j, xF') := by
  have M := gs_mat H.2.2.2.1
  have hL17 : L ≤ 17 := H.1.2.2.2.2.2.1.2.2
  have jL := hWL j hj
  obtain ⟨b, xF', f1, f2⟩ := isF_ok hf H ((own &&& (sp_shl 1 (nI i) ^^^ (-1))) ||| sp_shl 1 (nI j)) xF
  have hset : bL ((own &&& (sp_shl 1 (nI i) ^^^ (-1))) ||| sp_shl 1 (nI j)) L = qI (qE (bt own) i) j := by
    rw [bL_set jL hL17]
    congr 1
    funext z
    show (bt _ z && decide (z < L)) = (bt own z && !decide (z = i))
    by_cases hz : z < 32
    · rw [b_and, h_not _ hz, bit_all hi17]
      cases hoz : bt own z
      · rfl
      · have := hWL z (ho z hoz); simp [this]
    · rw [b_big (by omega), b_big (by omega)]; rfl
  rw [hset] at f2
  have hne : qE (bt own) i j = false := by show (bt own j && _) = false; rw [hjo]; rfl
  have hind := q_ind_sub M hi (qE_s (bt own) i)
  refine ⟨xF', ?_⟩
  rw [f1]
  congr 2
  cases hg : gs ut vt (qE (bt own) i) j
  · exact f2.mpr (q_ind_ins M hind (by omega) hg).1
  · cases hb : b
    · rfl
    · have := q_ind_not M (by omega) (f2.mp hb) hne
      rw [hg] at this; cases this
theorem b_bit0 {x : Int32} {i : Nat} (hi : i < 17) : x &&& sp_shl 1 (nI i) = 0 ↔ bt x i = false := goal_bit x (by omega)
/-- the model's answer -/
theorem answerOf_ok (hf : 20 ≤ N) (H : mPl xA xE K L A B u v ut vt f) (hWL : ∀ z, W z = true → z < L) (h : trP ut vt W (gi xH 44) (gi xH 45) c) {i j : Nat} (hi : i < 17) (hj1 : aV ut vt (gi xH 44) (gi xH 45) i j = true) (hj2 : fb_ct (aV ut vt (gi xH 44) (gi xH 45) i) j = 0) (xF : sx_C) : ∃ xF', f_X12_answerOf N xA xE xH (nI i) xF = some (nI j, xF') := by
  have h4 : gi xA 4 = nI L := H.1.2.2.2.1
  have hL17 : L ≤ 17 := H.1.2.2.2.2.2.1.2.2
  have key : ∀ own oth : Int32, trP ut vt W own oth c → ∀ n z (w : sx_C), L - z < n → z ≤ L → (bt oth j = true ∧ gs ut vt (qE (bt own) i) j = false) → (∀ y, y < j → ¬ (bt oth y = true ∧ gs ut vt (qE (bt own) i) y = false)) → z ≤ j → ∃ xF', f_X12_answerOf_86 N xA xE xH n (own &&& (sp_shl 1 (nI i) ^^^ (-1))) oth (nI z) w = some (nI j, xF') := by
    intro own oth ht n
    obtain ⟨t1, t2, t3, t4, t5, t6, t7, t8, t9, t10⟩ := ht
    induction n with
    | zero => intro z w hn; omega
    | succ n ih =>
      intro z w hn hz hgood hbad hzj
      have jL := hWL j (t3 j hgood.1)
      unfold f_X12_answerOf_86
      rw [h4, if_neg (fun h => by have := (nle (by omega) (by omega)).mp h; omega)]
      unfold f_X12_answerOf_123
      rw [show nI z + 1 = nI (z + 1) from nadd z 1]
      cases hb : bt oth z
      · have n1 : ¬ (sp_shr oth (nI z)) &&& 1 = 1 := fun h => by rw [(shr_ok _ (by omega)).1, hb] at h; cases h
        rw [if_neg n1]
        exact ih (z + 1) w (by omega) (by omega) hgood hbad (by
          by_cases e : z = j
          · rw [e, hgood.1] at hb; cases hb
          · omega)
      · rw [if_pos ((shr_ok oth (by omega : z < 32)).1.mpr hb)]
        have hown : bt own z = false := by
          cases h9 : bt own z
          · rfl
          · exact absurd ⟨h9, hb⟩ (t4 z)
        obtain ⟨w', l1⟩ := mlink_ok hf H hWL t2 t5 hi (t3 z hb) hown w
        simp only [l1, Option.bind_some]
        cases hg : gs ut vt (qE (bt own) i) z
        · rw [if_pos (by rfl)]
          have : z = j := by
            by_cases e : z = j
            · exact e
            · exact absurd ⟨hb, hg⟩ (hbad z (by omega))
          rw [this]
          exact ⟨w', rfl⟩
        · rw [if_neg (by decide)]
          exact ih (z + 1) w' (by omega) (by omega) hgood hbad (by
            by_cases e : z = j
            · rw [e, hgood.2] at hg; cases hg
            · omega)
  have hlow : ∀ y, y < j → aV ut vt (gi xH 44) (gi xH 45) i y = false := fun y hy => fb_ct_zero.mp hj2 y hy
  unfold f_X12_answerOf f_X12_answerOf_18 f_X12_answerOf_45 f_X12_answerOf_60 f_X12_answerOf_81
  unfold aV at hj1 hlow
  cases ha : bt (gi xH 44) i
  · rw [ha] at hj1 hlow
    simp only [Bool.false_eq_true, ↓reduceIte] at hj1 hlow
    rw [if_pos ((b_bit0 hi).mpr ha)]
    simp only [↓reduceIte]
    cases hb : bt (gi xH 45) i
    · rw [hb] at hj1 hlow
      simp only [Bool.false_eq_true, ↓reduceIte] at hj1 hlow
      rw [if_pos ((b_bit0 hi).mpr hb)]
      have j14 : j < 14 := by
        obtain ⟨t1, t2, t3, -⟩ := h
        cases h9 : bt (gi xH 44) j
        · rw [h9] at hj1; exact t1 j (t3 j (by simpa using hj1))
        · exact t1 j (t2 j h9)
      rw [ntz_ok (i := j) (by omega) (by rw [b_or]; exact hj1) (fun y hy => by rw [b_or]; exact hlow y hy)]
      exact ⟨xF, rfl⟩
    · rw [hb] at hj1 hlow
      simp only [↓reduceIte] at hj1 hlow
      have n1 : ¬ gi xH 45 &&& sp_shl 1 (nI i) = 0 := fun h9 => by rw [b_bit0 hi, hb] at h9; cases h9
      rw [if_neg n1]
      refine key _ _ (trP_sym h) N 0 xF (by omega) (by omega) ?_ (fun y hy h9 => ?_) (Nat.zero_le _)
      · simp at hj1; exact hj1
      · have := hlow y hy
        rw [h9.1, h9.2] at this; cases this
  · rw [ha] at hj1 hlow
    simp only [↓reduceIte] at hj1 hlow
    have n1 : ¬ gi xH 44 &&& sp_shl 1 (nI i) = 0 := fun h9 => by rw [b_bit0 hi, ha] at h9; cases h9
    rw [if_neg n1]
    have e10 : ¬ (1 : Int32) = 0 := by decide
    simp only [e10, ↓reduceIte]
    refine key _ _ h N 0 xF (by omega) (by omega) ?_ (fun y hy h9 => ?_) (Nat.zero_le _)
    · simp at hj1; exact hj1
    · have := hlow y hy
      rw [h9.1, h9.2] at this; cases this
end
theorem lo_answer {N : Nat} {LK : sLK} (hf : 200000 ≤ N) : LO_answer N (sI LK) := by
  rintro uG uN uD uR uF uP uL uTT uA uM uH xA xB xC xD xE xF xG xH xI xJ xK xL x ⟨K, L, A, B, u, v, hC, hR⟩
  have hI : ∀ uF' uP' xB' xD' xE' xF' xG' xH', (∃ u' v', fNet uF' u' v') → sI LK uG uN uD uR uF' uP' uL uTT uA uM uH xA xB' xC xD' xE' xF' xG' xH' xI xJ xK xL := fun _ _ _ _ _ _ _ _ h => ⟨K, L, A, B, u, v, sCore_F hC h, hR⟩
  obtain ⟨hN, hM, hF, ⟨e7, e8, e11⟩, -⟩ := id hC
  have hL : L ≤ 14 := (cN_8 hN).2.2.2
  unfold f_X11_answer f_X12_answer
  rcases line_cases hN hM x with ⟨a, b⟩ | ⟨i, i1, rfl, i3, i4⟩
  · simp only [a, b, Option.bind_some, Bool.false_eq_true, ↓reduceIte]
    exact ⟨_, rfl, _, rfl, rfl, hI _ _ _ _ _ _ _ _ hF⟩
  · simp only [i3, i4, cisOpen_ok hN (by omega : i < 32), misOpen_ok hM (by omega : i < 32), Option.bind_some, ↓reduceIte]
    rw [e7, e8]
    cases ho : bt (opn L (gi uG 12) (gi uG 13)) i
    · exact ⟨_, rfl, _, rfl, rfl, hI _ _ _ _ _ _ _ _ hF⟩
    · rw [if_pos rfl, if_pos rfl]
      obtain ⟨fb, uF', uP', xD', xE', xF', xG', xH', a1, a2, a3, a4, a5⟩ := find_ok (uP := uP) hf hN hM hF (gi uG 12) (gi uG 13) xD xE xF xG xH
      simp only [a1, a2, Option.bind_some]
      cases fb
      · exact ⟨_, rfl, _, rfl, rfl, hI _ _ _ _ _ _ _ _ a3⟩
      · obtain ⟨s, q3, q43, -, q44, q45, -, q5, -, -, q6, u', v', q7, q8⟩ := a5 rfl
        have hk := uT_8 hN (gi uG 12)
        obtain ⟨j, j1, j2, j3⟩ := ans_ex hk q6 i
        obtain ⟨uF2, r1, r2⟩ := reply_ok (by omega : 20 ≤ N) q7 q8 hk q6 (by omega : i < 17) j2 j3
        have hWL : ∀ z, qW (uT u v L A (gi uG 12) u) (uT u v L B (gi uG 12) v) (bt (opn L (gi uG 12) (gi uG 13))) (bt (nI s)) z = true → z < L := fun z hz => by
          unfold qW at hz
          simp at hz
          exact opn_lt (by omega) hz.1
        obtain ⟨xF2, r3⟩ := answerOf_ok (by omega : 20 ≤ N) q5 hWL (xH := xH') (by rw [q44, q45]; exact q6) (by omega : i < 17) (j := j) (by rw [q44, q45]; exact j2) (by rw [q44, q45]; exact j3) xF'
        simp only [r1, r3, Option.bind_some, ↓reduceIte]
        exact ⟨_, rfl, _, rfl, rfl, hI _ _ _ _ _ _ _ _ ⟨u', v', f4_net r2 q7⟩⟩
