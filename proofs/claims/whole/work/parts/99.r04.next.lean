/-! ===== a pair stays, when CUT takes a line and JOIN the answer ===== -/
theorem qL_two {r : BS → Nat} {sp : BS → Nat → Bool} (M : qM r sp) {e : Nat} (he : e < 32) {j E V X Y : BS} (hV : qS V E) (hX : qS X V) (hY : qS Y V) (hd : ∀ z, ¬ (X z = true ∧ Y z = true)) (h1 : r (qU j X) = r (qU j V)) (h2 : r (qU j Y) = r (qU j V)) (h3 : sp (qU j V) e = true) : qL r e j E 0 := by
  obtain ⟨m, hm⟩ := q_min_ex (fJ r j E)
  refine ⟨m, hm, ?_⟩
  rw [Nat.add_zero]
  obtain ⟨⟨T, t1⟩, t2⟩ := hm
  have hle : ∀ T, fJ r j E T ≤ fJ r (qI j e) E T := fun T => by
    rw [fJ_e M _ _ _ he]; omega
  refine ⟨⟨qU T V, ?_⟩, fun T' => Nat.le_trans (t2 T') (hle T')⟩
  -- with V it is least, too
  have hsub := fJ_sub M j E T V
  have hX' : r (qU j V) ≤ r (qU j (qN T V)) + qc (qD X (qN T V)) := by
    rw [← h1]
    have a := q_add M (qU j (qN T V)) (qD X (qN T V))
    have b := q_mono M (A := qU j X) (B := qU (qU j (qN T V)) (qD X (qN T V))) (fun i hi => by
      unfold qU qD at *
      cases hj : j i
      · rw [hj] at hi
        have hi : X i = true := by simpa using hi
        rw [hi]
        cases hn : qN T V i <;> simp
      · simp)
    omega
  have hY' : r (qU j V) ≤ r (qU j (qN T V)) + qc (qD Y (qN T V)) := by
    rw [← h2]
    have a := q_add M (qU j (qN T V)) (qD Y (qN T V))
    have b := q_mono M (A := qU j Y) (B := qU (qU j (qN T V)) (qD Y (qN T V))) (fun i hi => by
      unfold qU qD at *
      cases hj : j i
      · rw [hj] at hi
        have hi : Y i = true := by simpa using hi
        rw [hi]
        cases hn : qN T V i <;> simp
      · simp)
    omega
  have hXY : qc (qD X (qN T V)) + qc (qD Y (qN T V)) ≤ qc (qD V (qN T V)) := by
    have a := qc_un (qD X (qN T V)) (qD Y (qN T V)) 32
    have b : fb_ct (qN (qD X (qN T V)) (qD Y (qN T V))) 32 = 0 := fb_ct_zero.mpr (fun i _ => by
      unfold qN qD
      cases hx : X i
      · simp
      · cases hy : Y i
        · simp
        · exact absurd ⟨hx, hy⟩ (hd i))
    have c : fb_ct (qU (qD X (qN T V)) (qD Y (qN T V))) 32 ≤ fb_ct (qD V (qN T V)) 32 := fb_ct_sub (fun i _ hi => by
      unfold qU qD at *
      cases hx : X i
      · rw [hx] at hi
        simp at hi
        simp [hY i hi.1, hi.2]
      · rw [hx] at hi
        rw [hX i hx]
        cases hn : qN T V i
        · rfl
        · rw [hn] at hi; simp at hi)
    show fb_ct (qD X (qN T V)) 32 + fb_ct (qD Y (qN T V)) 32 ≤ fb_ct (qD V (qN T V)) 32
    omega
  have hcE : qc (qD E (qN T V)) = qc (qD E V) + qc (qD V (qN T V)) := by
    have a := qc_un (qD E V) (qD V (qN T V)) 32
    have b : fb_ct (qN (qD E V) (qD V (qN T V))) 32 = 0 := fb_ct_zero.mpr (fun i _ => by
      unfold qN qD
      cases V i <;> simp)
    have c : fb_ct (qU (qD E V) (qD V (qN T V))) 32 = fb_ct (qD E (qN T V)) 32 := fb_ct_cong (fun i _ => by
      unfold qU qD qN
      cases hv : V i
      · simp
      · rw [hV i hv]; simp)
    show fb_ct (qD E (qN T V)) 32 = fb_ct (qD E V) 32 + fb_ct (qD V (qN T V)) 32
    omega
  have hfV : fJ r j E V ≤ fJ r j E (qN T V) := by
    unfold fJ
    omega
  have h9 := t2 (qU T V)
  have h10 : fJ r j E (qU T V) = m := by omega
  rw [fJ_e M _ _ _ he, h10, if_pos, Nat.add_zero]
  exact M.2.1 _ _ _ (fun i hi => by
    unfold qU at *
    cases hj : j i
    · rw [hj] at hi
      have : V i = true := by simpa using hi
      simp [this]
    · simp) h3
section
variable {xA : sx_C} {K L A B : Nat} {u v : Nat → Nat}
theorem uT_ct (hM : mNet xA K L A B u v) (J G : Int32) : ∀ i, i < 32 → qI (bt (opn L J G)) 31 i = true → uT u v L A J u i = la (u31 u A) (u31 v B) (bL J L) (u31 u A i) ∧ uT u v L B J v i = la (u31 u A) (u31 v B) (bL J L) (u31 v B i) := fun i _ _ => by
  have hL : L ≤ 17 := hM.2.2.2.2.2.1.2.2
  rw [u31_la (fun i hi => by have := bL_lt hi; omega)]
  exact ⟨rfl, rfl⟩
/-- after a cut and its answer it is safe again -/
theorem pair_next (hM : mNet xA K L A B u v) (hL : L ≤ 14) {J G : Int32} {s : Nat} {a b : Int32} {c : Nat} (hs : s < 256) (hc : c = qc (bt (nI s)) - 1) (sA : s.testBit (la u v (bL J L) A) = true) (sB : s.testBit (la u v (bL J L) B) = true) (h : trP (uT u v L A J u) (uT u v L B J v) (qW (uT u v L A J u) (uT u v L B J v) (bt (opn L J G)) (bt (nI s))) a b c) {i j : Nat} (hi : bt (opn L J G) i = true) (hj : aV (uT u v L A J u) (uT u v L B J v) a b i j = true) : j ≠ i ∧ bt (opn L J G) j = true ∧ mlk u v L A B (J ||| sp_shl 1 (nI j)) (G ||| sp_shl 1 (nI i)) 0 := by
  obtain ⟨ut, hut⟩ : ∃ ut, ut = uT u v L A J u := ⟨_, rfl⟩
  obtain ⟨vt, hvt⟩ : ∃ vt, vt = uT u v L B J v := ⟨_, rfl⟩
  have hct := uT_ct hM J G
  rw [← hut, ← hvt] at h hj hct
  obtain ⟨O, hO⟩ : ∃ O, O = opn L J G := ⟨_, rfl⟩
  rw [← hO] at h hi hct ⊢
  have hU := mN_U hM
  have MU := gs_mat hU
  have hk : ∀ i, ut i < 8 ∧ vt i < 8 := fun i => by
    rw [hut, hvt]
    unfold uT
    exact ⟨la_lt8 _ _ _ _ (hU i).1, la_lt8 _ _ _ _ (hU i).2⟩
  have M := gs_mat hk
  obtain ⟨W, hW⟩ : ∃ W, W = qW ut vt (bt O) (bt (nI s)) := ⟨_, rfl⟩
  rw [← hW] at h
  have hWO : ∀ z, W z = true → bt O z = true ∧ bt (nI s) (ut z) = true ∧ bt (nI s) (vt z) = true := fun z hz => by
    rw [hW] at hz
    unfold qW at hz
    simp at hz
    exact ⟨hz.1, hz.2.2⟩
  have hOL : ∀ z, bt O z = true → z < L := fun z hz => by rw [hO] at hz; exact opn_lt (by omega) hz
  obtain ⟨t1, t2, t3, t4, t5, t6, t7, t8, t9, t10⟩ := id h
  have iL := hOL i hi
  -- what the answer is
  have hjab : bt a j = true ∨ bt b j = true := by
    unfold aV at hj
    by_cases h1 : bt a i = true
    · rw [if_pos h1] at hj; simp at hj; exact Or.inr hj.1
    · rw [if_neg h1] at hj
      by_cases h2 : bt b i = true
      · rw [if_pos h2] at hj; simp at hj; exact Or.inl hj.1
      · rw [if_neg h2] at hj; simpa using hj
  have hji : j ≠ i := fun e => by
    rw [e] at hj hjab
    unfold aV at hj
    by_cases h1 : bt a i = true
    · rw [if_pos h1] at hj; simp at hj
      exact t4 i ⟨h1, hj.1⟩
    · rw [if_neg h1] at hj
      by_cases h2 : bt b i = true
      · rw [if_pos h2] at hj; simp at hj
        exact h1 hj.1
      · rcases hjab with h9 | h9
        · exact h1 h9
        · exact h2 h9
  have hWj : W j = true := by
    rcases hjab with h9 | h9
    · exact t2 j h9
    · exact t3 j h9
  have j14 := t1 j hWj
  have hOj := (hWO j hWj).1
  have jL := hOL j hOj
  refine ⟨hji, hOj, ?_⟩
  -- ranks over the joined lines
  have hrk : ∀ S, qS S W → rk (u31 u A) (u31 v B) (qU (bL J L) S) = rk (u31 u A) (u31 v B) (bL J L) + rk ut vt S := fun S hS => rk_ct hU hk hct (fun z _ hz => qI_s _ _ z (hWO z (hS z hz)).1)
  have full : ∀ S, qS S W → (c ≤ rk ut vt S) → rk (u31 u A) (u31 v B) (qU (bL J L) S) = rk (u31 u A) (u31 v B) (qU (bL J L) W) := fun S hS hcS => by
    rw [hrk S hS, hrk W (qS_r W)]
    have := q_mono M hS
    omega
  -- both trees without the cut one, with the answer
  have tree : ∀ X Y : Int32, trP ut vt W X Y c → (bt X i = true → bt Y j = true ∧ gs ut vt (qE (bt X) i) j = false) → c ≤ rk ut vt (qI (qE (bt X) i) j) := by
    intro X Y ht hx
    obtain ⟨p1, p2, p3, p4, p5, p6, p7, p8, p9, p10⟩ := ht
    cases hXi : bt X i
    · have e : qE (bt X) i = bt X := by
        funext z
        show (bt X z && !decide (z = i)) = bt X z
        by_cases e : z = i
        · rw [e, hXi]; rfl
        · simp [e]
      rw [e]
      have := q_mono M (qI_s (bt X) j)
      unfold qInd at p5
      omega
    · obtain ⟨x1, x2⟩ := hx hXi
      have hind := q_ind_sub M p5 (qE_s (bt X) i)
      have h9 := (q_ind_ins M hind (by omega : j < 32) x2).1
      have h10 : fb_ct (qE (bt X) i) 32 + 1 = fb_ct (bt X) 32 := qc_era (by omega) hXi
      have h11 : fb_ct (qI (qE (bt X) i) j) 32 = fb_ct (qE (bt X) i) 32 + 1 := qc_ins (by omega) (by
        show (bt X j && _) = false
        cases h12 : bt X j
        · rfl
        · exact absurd ⟨h12, x1⟩ (p4 j))
      unfold qInd at h9
      have p7 : fb_ct (bt X) 32 = c := p7
      have h9 : rk ut vt (qI (qE (bt X) i) j) = fb_ct (qI (qE (bt X) i) j) 32 := h9
      omega
  have ta := tree a b h (fun h1 => by
    unfold aV at hj
    rw [if_pos h1] at hj
    simp at hj
    exact hj)
  have tbb := tree b a (trP_sym h) (fun h1 => by
    unfold aV at hj
    have h2 : ¬ bt a i = true := fun h2 => t4 i ⟨h2, h1⟩
    rw [if_neg h2, if_pos h1] at hj
    simp at hj
    exact hj)
  have fa := full (qI (qE (bt a) i) j) (qS_I (qS_t (qE_s _ _) t2) hWj) ta
  have fb := full (qI (qE (bt b) i) j) (qS_I (qS_t (qE_s _ _) t3) hWj) tbb
  have shuf : ∀ X : BS, qU (bL J L) (qI (qE X i) j) = qU (qI (bL J L) j) (qE (qE X i) j) := fun X => by
    funext z
    show (bL J L z || ((X z && !decide (z = i)) || decide (z = j))) = ((bL J L z || decide (z = j)) || ((X z && !decide (z = i)) && !decide (z = j)))
    cases bL J L z <;> cases X z <;> cases decide (z = i) <;> cases decide (z = j) <;> rfl
  rw [shuf] at fa fb
  have hV1 : rk (u31 u A) (u31 v B) (qU (qI (bL J L) j) (qE (qE W i) j)) ≤ rk (u31 u A) (u31 v B) (qU (bL J L) W) := q_mono MU (fun z hz => by
    have hz : ((bL J L z || decide (z = j)) || ((W z && !decide (z = i)) && !decide (z = j))) = true := hz
    show (bL J L z || W z) = true
    by_cases e : z = j
    · rw [e, hWj]; simp
    · simp [e] at hz
      rcases hz with hz | hz
      · rw [hz]; rfl
      · rw [hz.1]; simp)
  have hV2 : rk (u31 u A) (u31 v B) (qU (qI (bL J L) j) (qE (qE (bt a) i) j)) ≤ rk (u31 u A) (u31 v B) (qU (qI (bL J L) j) (qE (qE W i) j)) := q_mono MU (fun z hz => by
    have hz : (qI (bL J L) j z || qE (qE (bt a) i) j z) = true := hz
    show (qI (bL J L) j z || qE (qE W i) j z) = true
    cases h9 : qI (bL J L) j z
    · rw [h9] at hz
      have hz2 : qE (qE (bt a) i) j z = true := by simpa using hz
      have hz : ((bt a z && !decide (z = i)) && !decide (z = j)) = true := hz2
      simp at hz
      show (false || ((W z && !decide (z = i)) && !decide (z = j))) = true
      rw [t2 z hz.1.1]
      simp [hz.1.2, hz.2]
    · rfl)
  have hV3 : rk (u31 u A) (u31 v B) (qU (qI (bL J L) j) (qE (qE W i) j)) = rk (u31 u A) (u31 v B) (qU (bL J L) W) := by omega
  -- the ends hang together by W
  have hs8 : ∀ z, bt (nI s) z = true → z < 8 := fun z hz => by
    by_cases h32 : z < 32
    · rw [h_nI z h32] at hz
      by_cases h : z < 8
      · exact h
      · rw [tb_small (k := 8) (by omega) (by omega)] at hz; cases hz
    · rw [b_big (by omega)] at hz; cases hz
  have hc8 : fb_ct (bt (nI s)) 8 = qc (bt (nI s)) := (ct_gap (by omega) (fun t h8 _ => by
    cases hx : bt (nI s) t
    · rfl
    · have := hs8 t hx; omega)).symm
  have hf8 := la_lt8 u v (bL J L)
  have hA8 : A < 8 := (hU 31).1
  have hB8 : B < 8 := (hU 31).2
  have hsA : bt (nI s) (la u v (bL J L) A) = true := by rw [h_nI _ (by have := hf8 A hA8; omega)]; exact sA
  have hsB : bt (nI s) (la u v (bL J L) B) = true := by rw [h_nI _ (by have := hf8 B hB8; omega)]; exact sB
  have hgsW : gs (u31 u A) (u31 v B) (qU (bL J L) W) 31 = true := by
    rw [← gs_ct hct (fun z _ hz => qI_s _ _ z (hWO z hz).1) (by decide : 31 < 32) (by show (bt O 31 || decide (31 = 31)) = true; simp)]
    have hin := rk_in (W := W) (P := bt (nI s)) (fun z _ hz => (hWO z hz).2) hs8 (a := la u v (bL J L) B) hsB
    have h9 := hin.2.mp (by
      have h10 := hin.1
      rw [hc8] at h10 ⊢
      omega) _ hsA
    unfold gs
    have e1 : ut 31 = la u v (bL J L) A := by rw [hut]; rfl
    have e2 : vt 31 = la u v (bL J L) B := by rw [hvt]; rfl
    rw [e1, e2, h9]; simp
  have hsp : gs (u31 u A) (u31 v B) (qU (qI (bL J L) j) (qE (qE W i) j)) 31 = true := by
    rw [q_spn MU (by decide)] at hgsW ⊢
    have h9 := q_mono MU (A := qI (qU (qI (bL J L) j) (qE (qE W i) j)) 31) (B := qI (qU (bL J L) W) 31) (fun z hz => by
      have hz : (((bL J L z || decide (z = j)) || ((W z && !decide (z = i)) && !decide (z = j))) || decide (z = 31)) = true := hz
      show ((bL J L z || W z) || decide (z = 31)) = true
      by_cases e : z = j
      · rw [e, hWj]; simp
      · simp [e] at hz
        rcases hz with (hz | hz) | hz
        · rw [hz]; rfl
        · rw [hz.1]; simp
        · simp [hz])
    have h10 := q_mono MU (qI_s (qU (qI (bL J L) j) (qE (qE W i) j)) 31)
    omega
  have hL17 : L ≤ 17 := by omega
  unfold mlk
  rw [bL_set jL hL17, opn_join hL17 J _ jL, opn_cut hL17 J G iL, ← hO]
  have hsub : ∀ X : BS, qS X W → qS (qE (qE X i) j) (qE (qE W i) j) := fun X hX z hz => by
    have hz : ((X z && !decide (z = i)) && !decide (z = j)) = true := hz
    simp at hz
    show ((W z && !decide (z = i)) && !decide (z = j)) = true
    rw [hX z hz.1.1]
    simp [hz.1.2, hz.2]
  refine qL_two MU (by decide) (V := qE (qE W i) j) (X := qE (qE (bt a) i) j) (Y := qE (qE (bt b) i) j) (fun z hz => ?_) (hsub _ t2) (hsub _ t3) (fun z hz => ?_) (by rw [fa, hV3]) (by rw [fb, hV3]) hsp
  · have hz : ((W z && !decide (z = i)) && !decide (z = j)) = true := hz
    simp at hz
    show ((bt O z && !decide (z = i)) && !decide (z = j)) = true
    rw [(hWO z hz.1.1).1]
    simp [hz.1.2, hz.2]
  · have h1 := qE_s _ _ z (qE_s _ _ z hz.1)
    have h2 := qE_s _ _ z (qE_s _ _ z hz.2)
    exact t4 z ⟨h1, h2⟩
end
