/-! ===== wins, cutAnswer ===== -/
section
variable {N : Nat} {uG uN uF xA : sx_C} {K L A B : Nat} {u v : Nat → Nat}
theorem winsFor_ok (hf : 300 ≤ N) (hM : mNet xA K L A B u v) (J G : Int32) {who i : Nat} (hw : who < 2) (hi : bt (opn L J G) i = true) (xD xE xF xG : sx_C) : ∃ b xD' xE' xF' xG', f_X12_winsFor N xA (nI who) (nI i) J G xD xE xF xG = some (b, xD', xE', xF', xG') ∧ b = wnW u v L A B J G who i := by
  unfold f_X12_winsFor
  have h01 : who = 0 ∨ who = 1 := by omega
  have hb : ∀ b : Bool, (b = true ↔ wnP u v L A B J G who i) → b = wnW u v L A B J G who i := fun b h => by
    cases hx : wnW u v L A B J G who i
    · cases b
      · rfl
      · exact absurd (h.mp rfl) (wnW_f.mp hx)
    · exact h.mpr (wnW_t.mp hx)
  rcases h01 with h0 | h0
  · obtain ⟨b, xD', xE', xF', xG', s1, s2⟩ := isSafe_ok hf hM (J ||| sp_shl 1 (nI i)) G xD xE xF xG
    rw [h0, if_pos (show nI 0 = 0 from rfl), s1]
    refine ⟨b, _, _, _, _, rfl, ?_⟩
    rw [← h0]
    refine hb b (s2.trans ?_)
    unfold wnP
    rw [h0, if_pos rfl]
    exact ⟨fun h => ⟨hi, h⟩, fun h => h.2⟩
  · obtain ⟨b, xD', xE', xF', xG', s1, s2⟩ := isKeen_ok hf hM J (G ||| sp_shl 1 (nI i)) xD xE xF xG
    rw [h0, if_neg (by decide), s1]
    have hiff : (¬ b = true) ↔ wnP u v L A B J G who i := by
      unfold wnP
      rw [h0, if_neg (by decide)]
      constructor
      · intro h
        exact ⟨hi, Classical.byContradiction (fun h2 => h (s2.mpr h2))⟩
      · intro h h2
        exact s2.mp h2 h.2
    rw [← h0]
    simp only [Option.bind_some]
    by_cases hbb : b = true
    · rw [if_pos hbb]
      exact ⟨false, _, _, _, _, rfl, hb false ⟨fun h => (by cases h), fun h => absurd hbb (hiff.mpr h)⟩⟩
    · rw [if_neg hbb]
      exact ⟨true, _, _, _, _, rfl, hb true ⟨fun _ => hiff.mp hbb, fun _ => rfl⟩⟩
/-- the model's k-th winning line -/
theorem winAt_ok (hf : 300 ≤ N) (hM : mNet xA K L A B u v) (hL14 : L ≤ 14) (J G : Int32) {who k : Nat} (hw : who < 2) (hk : k < 2147483648) (xD xE xF xG : sx_C) : ∃ r xD' xE' xF' xG', f_X12_winAt N xA (nI who) J G (nI k) xD xE xF xG = some (r, xD', xE', xF', xG') ∧ ((hld u v L A B J G ≠ 2 ∧ r = -1) ∨ (hld u v L A B J G = 2 ∧ kth (wnW u v L A B J G who) 14 k r (-1))) := by
  obtain ⟨h1, h2, h3, h4, h5, ⟨h6, h7, h8⟩, ⟨h9, h9'⟩, h10⟩ := id hM
  obtain ⟨W, hW⟩ : ∃ W, W = wnW u v L A B J G who := ⟨_, rfl⟩
  have hWo : ∀ z, W z = true → bt (opn L J G) z = true := fun z hz => by rw [hW] at hz; exact (wnW_t.mp hz).1
  unfold f_X12_winAt
  obtain ⟨xD1, g1⟩ := mhas_ok hM (by omega : 20 ≤ N) J G xD
  simp only [g1, Option.bind_some]
  rw [← hW]
  by_cases hh : hld u v L A B J G = 2
  · rw [if_pos hh, mopen_ok hM, Option.bind_some]
    have loop : ∀ n i xD xE xF xG, L - i < n → i ≤ L → fb_ct W i ≤ k → ∃ r xD' xE' xF' xG', f_X12_winAt_27 N xA n (nI who) J G (nI (k - fb_ct W i)) (opn L J G) (nI i) xD xE xF xG = some (r, xD', xE', xF', xG') ∧ kth W 14 k r (-1) := by
      intro n
      induction n with
      | zero => intro i xD xE xF xG hn; omega
      | succ n ih =>
        intro i xD xE xF xG hn hi hc
        unfold f_X12_winAt_27
        rw [h4]
        have e1 : nI i + 1 = nI (i + 1) := nadd i 1
        by_cases hcL : L ≤ i
        · rw [if_pos ((nle (by omega) (by omega)).mpr hcL)]
          refine ⟨-1, _, _, _, _, rfl, Or.inr ⟨?_, rfl⟩⟩
          rw [ct_gap (a := i) (b := 14) (by omega) (fun t t1 t2 => ?_)]
          · exact hc
          · cases hx : W t
            · rfl
            · have := opn_lt (by omega : L < 31) (hWo t hx); omega
        · rw [if_neg (fun h => hcL ((nle (by omega) (by omega)).mp h))]
          unfold f_X12_winAt_72
          rw [e1]
          cases hb : bt (opn L J G) i
          · rw [if_pos ((shr_ok _ (by omega)).2.mpr hb)]
            have hWi : W i = false := by
              cases hx : W i
              · rfl
              · rw [hWo i hx] at hb; cases hb
            have := ih (i + 1) xD xE xF xG (by omega) (by omega) (by rw [fb_ct_succ, hWi]; simpa using hc)
            rw [fb_ct_succ, hWi] at this
            simpa using this
          · rw [if_neg (fun h => by rw [(shr_ok _ (by omega)).2, hb] at h; cases h)]
            obtain ⟨b, xD2, xE2, xF2, xG2, s1, s2⟩ := winsFor_ok hf hM J G hw hb xD xE xF xG
            simp only [s1, Option.bind_some]
            rw [← hW] at s2
            cases hWi : W i
            · rw [if_neg (by rw [s2, hWi]; decide)]
              have := ih (i + 1) xD2 xE2 xF2 xG2 (by omega) (by omega) (by rw [fb_ct_succ, hWi]; simpa using hc)
              rw [fb_ct_succ, hWi] at this
              simpa using this
            · rw [if_pos (by rw [s2, hWi])]
              by_cases h0 : k - fb_ct W i = 0
              · rw [if_pos ((nz (by omega)).mpr h0)]
                exact ⟨nI i, _, _, _, _, rfl, Or.inl ⟨i, by omega, hWi, by omega, rfl⟩⟩
              · rw [if_neg (fun h => h0 ((nz (by omega)).mp h)), n_m1 (by omega)]
                have := ih (i + 1) xD2 xE2 xF2 xG2 (by omega) (by omega) (by rw [fb_ct_succ, hWi]; simp; omega)
                rw [fb_ct_succ, hWi] at this
                rw [show k - fb_ct W i - 1 = k - (fb_ct W i + 1) by omega]
                simpa using this
    obtain ⟨r, xD', xE', xF', xG', l1, l2⟩ := loop N 0 xD1 xE xF xG (by omega) (by omega) (Nat.zero_le _)
    exact ⟨r, xD', xE', xF', xG', l1, Or.inr ⟨hh, l2⟩⟩
  · rw [if_neg hh]
    exact ⟨-1, _, _, _, _, rfl, Or.inl ⟨hh, rfl⟩⟩
theorem kth_ne {W : Nat → Bool} {n k : Nat} {r x : Int32} (hn : n ≤ 32) (h : kth W n k r x) : r = x ∨ (∃ i, i < n ∧ r = nI i) := by
  rcases h with ⟨i, i1, -, -, i4⟩ | ⟨-, h⟩
  · exact Or.inr ⟨i, i1, i4⟩
  · exact Or.inl h
theorem nI_ne_neg {i : Nat} (hi : i < 2147483648) : ¬ nI i = -1 ∧ ¬ nI i = -2 ∧ ¬ nI i < 0 := by
  refine ⟨fun h => ?_, fun h => ?_, fun h => ?_⟩
  · have h2 := congrArg Int32.toInt h
    rw [nI_toInt (by omega), show (-1 : Int32).toInt = -1 by decide] at h2
    omega
  · have h2 := congrArg Int32.toInt h
    rw [nI_toInt (by omega), show (-2 : Int32).toInt = -2 by decide] at h2
    omega
  · have := (nlt (b := 0) hi (by omega)).mp h
    omega
/-- the class's k-th: from the first on -/
theorem nthWin_ok (hf : 300 ≤ N) (hN : cNet uN K L A B u v) (hM : mNet xA K L A B u v) (hF : ∃ u' v', fNet uF u' v') {who k : Nat} (hw : who < 2) (hk : k < 2147483648) : ∃ r uF', f_X11_nthWinning N uG uN (nI who) (nI k) uF = some (r, uF') ∧ kth (wnW u v L A B (gi uG 12) (gi uG 13) who) 14 k r (-2) ∧ ∃ u' v', fNet uF' u' v' := by
  obtain ⟨W, hW⟩ : ∃ W, W = wnW u v L A B (gi uG 12) (gi uG 13) who := ⟨_, rfl⟩
  have h20 : 20 ≤ N := by omega
  unfold f_X11_nthWinning
  obtain ⟨r0, uF0, a1, a2, a3⟩ := winFrom_ok h20 hN hM hF (gi uG 12) (gi uG 13) (p := 0) (by omega) hw
  have e0 : (0 : Int32) = nI 0 := rfl
  rw [e0]
  simp only [a1, Option.bind_some]
  rw [← hW] at a2 ⊢
  have hle14 : fb_ct W 14 ≤ 14 := fb_ct_le W 14
  have hmin : f_J9_min_7cf53 (nI k) 14 = some (nI (min k 14)) := by
    unfold f_J9_min_7cf53
    have e14 : (14 : Int32) = nI 14 := rfl
    rw [e14]
    by_cases h : 14 < k
    · rw [if_pos ((nlt (by omega) hk).mpr h), Nat.min_eq_right (by omega)]
    · rw [if_neg (fun h2 => h ((nlt (by omega) hk).mp h2)), Nat.min_eq_left (by omega)]
  rw [hmin, Option.bind_some]
  -- after c more steps
  have loop : ∀ n d c r uF, d < n → c + d = min k 14 → kth W 14 c r (-2) → (∃ u' v', fNet uF u' v') → ∃ r' uF', f_X11_nthWinning_26 N uG uN n (nI who) r (nI d) uF = some (r', uF') ∧ kth W 14 (min k 14) r' (-2) ∧ ∃ u' v', fNet uF' u' v' := by
    intro n
    induction n with
    | zero => intro d c r uF hn; omega
    | succ n ih =>
      intro d c r uF hn hcd hr hF
      unfold f_X11_nthWinning_26
      by_cases hd : d = 0
      · rw [if_pos (by rw [hd]; decide)]
        refine ⟨r, uF, rfl, ?_, hF⟩
        rw [← hcd, hd]; exact hr
      · rw [if_neg (fun h => hd (by have := (nle (b := 0) (by omega) (by omega)).mp h; omega))]
        rcases hr with ⟨i, i1, i2, i3, i4⟩ | ⟨i1, i2⟩
        · rw [i4, if_neg (nI_ne_neg (by omega)).2.2, show nI i + 1 = nI (i + 1) from nadd i 1]
          obtain ⟨r1, uF1, b1, b2, b3⟩ := winFrom_ok h20 hN hM hF (gi uG 12) (gi uG 13) (p := i + 1) (by omega) hw
          rw [← hW] at b2
          simp only [b1, Option.bind_some]
          rw [n_m1 (by omega)]
          refine ih (d - 1) (c + 1) r1 uF1 (by omega) (by omega) ?_ b3
          have hs : fb_ct W (i + 1) = c + 1 := by rw [fb_ct_succ, i2, i3]; rfl
          rcases b2 with ⟨j, j1, j2, j3, j4⟩ | ⟨j1, j2⟩
          · exact Or.inl ⟨j, j1, j2, by rw [j3, hs], j4⟩
          · exact Or.inr ⟨by rw [j1, hs]; exact Nat.le_refl _, j2⟩
        · rw [i2, if_pos (by decide)]
          exact ⟨-2, uF, rfl, Or.inr ⟨by omega, rfl⟩, hF⟩
  obtain ⟨r', uF', l1, l2, l3⟩ := loop N (min k 14) 0 r0 uF0 (by omega) (by omega) (by
    rcases a2 with ⟨j, j1, j2, j3, j4⟩ | ⟨j1, j2⟩
    · exact Or.inl ⟨j, j1, j2, by rw [j3]; rfl, j4⟩
    · exact Or.inr ⟨by rw [j1]; exact Nat.le_refl _, j2⟩) a3
  refine ⟨r', uF', l1, ?_, l3⟩
  by_cases h : k ≤ 14
  · rw [Nat.min_eq_left h] at l2; exact l2
  · rw [Nat.min_eq_right (by omega)] at l2
    rcases l2 with ⟨j, j1, j2, j3, j4⟩ | ⟨j1, j2⟩
    · have := fb_ct_le W j; omega
    · exact Or.inr ⟨by omega, j2⟩
theorem o_wins (hf : 300 ≤ N) (hC : sCore K L A B u v uG uN uF xA) (x y : Int32) (xB xD xE xF xG : sx_C) : ∃ r1, f_X11_wins N uG uN x y uF = some r1 ∧ ∃ r2, f_X12_wins N xA x y xB xD xE xF xG = some r2 ∧ r1.1 = r2.1 ∧ ∃ u' v', fNet r1.2 u' v' := by
  obtain ⟨hN, hM, hF, ⟨e7, e8, e11⟩, -⟩ := hC
  have hL : L ≤ 14 := (cN_8 hN).2.2.2
  unfold f_X11_wins f_X12_wins
  rcases int_01 x with h | ⟨h, -, h2⟩ | ⟨m, m1, rfl, h, -, h2⟩
  · rw [if_pos h, if_pos h]; exact ⟨_, rfl, _, rfl, rfl, hF⟩
  · rw [if_neg h, if_neg h, if_pos h2, if_pos h2]; exact ⟨_, rfl, _, rfl, rfl, hF⟩
  · rw [if_neg h, if_neg h, if_neg h2, if_neg h2]
    by_cases h3 : 0 ≤ y
    · rw [if_pos h3, if_pos h3]
      obtain ⟨k, k1, rfl⟩ := n_pos h3
      obtain ⟨r2, xD', xE', xF', xG', w1, w2⟩ := winAt_ok hf hM hL (gi uG 12) (gi uG 13) m1 k1 xD xE xF xG
      rw [e7, e8]
      simp only [cisOver_ok (by omega : 20 ≤ N) hN, w1, Option.bind_some]
      rcases w2 with ⟨w2, w3⟩ | ⟨w2, w3⟩
      · have hd : (!decide (hld u v L A B (gi uG 12) (gi uG 13) = 2)) = true := by simp [w2]
        rw [if_pos hd, w3, if_pos rfl]
        exact ⟨_, rfl, _, rfl, rfl, hF⟩
      · have hd : ¬ (!decide (hld u v L A B (gi uG 12) (gi uG 13) = 2)) = true := by simp [w2]
        obtain ⟨r1, uF1, a1, a2, a3⟩ := nthWin_ok hf hN hM hF (uG := uG) m1 k1
        rw [if_neg hd, a1, Option.bind_some]
        rcases kth_one a2 w3 with e | ⟨e1, e2⟩
        · have hne : ¬ r2 = -1 := by
            rcases kth_ne (by omega) a2 with h9 | ⟨i, i1, i2⟩
            · rw [← e, h9]; decide
            · rw [← e, i2]; exact (nI_ne_neg (by omega)).1
          rw [if_neg hne]
          exact ⟨_, rfl, _, rfl, e, a3⟩
        · rw [if_pos e2]
          exact ⟨_, rfl, _, rfl, e1, a3⟩
    · rw [if_neg h3, if_neg h3]; exact ⟨_, rfl, _, rfl, rfl, hF⟩
theorem cutBy_ok (hf : 300 ≤ N) (hM : mNet xA K L A B u v) (hL14 : L ≤ 14) (J G : Int32) (xD xE xF xG : sx_C) : ∃ r xD' xE' xF' xG', f_X12_cutBy N xA J G xD xE xF xG = some (r, xD', xE', xF', xG') ∧ kth (wnW u v L A B J G 1) 14 0 r (-1) := by
  obtain ⟨h1, h2, h3, h4, h5, ⟨h6, h7, h8⟩, ⟨h9, h9'⟩, h10⟩ := id hM
  obtain ⟨W, hW⟩ : ∃ W, W = wnW u v L A B J G 1 := ⟨_, rfl⟩
  have hWo : ∀ z, W z = true → bt (opn L J G) z = true := fun z hz => by rw [hW] at hz; exact (wnW_t.mp hz).1
  have hWi : ∀ z, W z = true ↔ bt (opn L J G) z = true ∧ mlk u v L A B J (G ||| sp_shl 1 (nI z)) 2 := fun z => by
    rw [hW, wnW_t]
    unfold wnP
    rw [if_neg (by decide)]
  unfold f_X12_cutBy
  rw [mopen_ok hM, Option.bind_some, ← hW]
  have loop : ∀ n i xD xE xF xG, L - i < n → i ≤ L → fb_ct W i = 0 → ∃ r xD' xE' xF' xG', f_X12_cutBy_10 N xA n J G (opn L J G) (nI i) xD xE xF xG = some (r, xD', xE', xF', xG') ∧ kth W 14 0 r (-1) := by
    intro n
    induction n with
    | zero => intro i xD xE xF xG hn; omega
    | succ n ih =>
      intro i xD xE xF xG hn hi hc
      unfold f_X12_cutBy_10
      rw [h4]
      have e1 : nI i + 1 = nI (i + 1) := nadd i 1
      by_cases hcL : L ≤ i
      · rw [if_pos ((nle (by omega) (by omega)).mpr hcL)]
        refine ⟨-1, _, _, _, _, rfl, Or.inr ⟨?_, rfl⟩⟩
        rw [ct_gap (a := i) (b := 14) (by omega) (fun t t1 t2 => ?_)]
        · omega
        · cases hx : W t
          · rfl
          · have := opn_lt (by omega : L < 31) (hWo t hx); omega
      · rw [if_neg (fun h => hcL ((nle (by omega) (by omega)).mp h))]
        unfold f_X12_cutBy_46
        rw [e1]
        have go : ∀ xD xE xF xG, W i = false → ∃ r xD' xE' xF' xG', f_X12_cutBy_10 N xA n J G (opn L J G) (nI (i + 1)) xD xE xF xG = some (r, xD', xE', xF', xG') ∧ kth W 14 0 r (-1) := fun xD xE xF xG hx => ih (i + 1) xD xE xF xG (by omega) (by omega) (by rw [fb_ct_succ, hx, hc]; rfl)
        cases hb : bt (opn L J G) i
        · rw [if_neg (fun h => by rw [(shr_ok _ (by omega)).1, hb] at h; cases h)]
          exact go _ _ _ _ (by
            cases hx : W i
            · rfl
            · rw [hWo i hx] at hb; cases hb)
        · rw [if_pos ((shr_ok _ (by omega)).1.mpr hb)]
          obtain ⟨b, xD2, xE2, xF2, xG2, s1, s2⟩ := isKeen_ok hf hM J (G ||| sp_shl 1 (nI i)) xD xE xF xG
          simp only [s1, Option.bind_some]
          by_cases hbb : b = true
          · rw [if_pos hbb]
            exact go _ _ _ _ (by
              cases hx : W i
              · rfl
              · exact absurd ((hWi i).mp hx).2 (s2.mp hbb))
          · rw [if_neg hbb]
            exact ⟨nI i, _, _, _, _, rfl, Or.inl ⟨i, by omega, (hWi i).mpr ⟨hb, Classical.byContradiction (fun h => hbb (s2.mpr h))⟩, hc, rfl⟩⟩
  exact loop N 0 xD xE xF xG (by omega) (by omega) rfl
/-- where JOIN has it, CUT wins by no line -/
theorem wn_none (hM : mNet xA K L A B u v) {J G : Int32} (h : la u v (bL J L) A = la u v (bL J L) B) : ∀ z, wnW u v L A B J G 1 z = false := fun z => by
  refine wnW_f.mpr (fun hz => ?_)
  have hL : L ≤ 17 := hM.2.2.2.2.2.1.2.2
  have h2 := hz.2
  rw [if_neg (by decide)] at h2
  have M := gs_mat (mN_U hM)
  have := qL_one (qL_zero M (by decide : 31 < 32) (j := bL J L) (E := bt (opn L J (G ||| sp_shl 1 (nI z)))) (by rw [gs_ends hM]; exact decide_eq_true h)) h2
  omega
theorem o_cutAnswer (hf : 300 ≤ N) (hC : sCore K L A B u v uG uN uF xA) (x : Int32) (xB xD xE xF xG : sx_C) : ∃ r1, f_X11_cutAnswer N uG uN x uF = some r1 ∧ ∃ r2, f_X12_cutAnswer N xA x xB xD xE xF xG = some r2 ∧ r1.1 = r2.1 ∧ ∃ u' v', fNet r1.2 u' v' := by
  obtain ⟨hN, hM, hF, ⟨e7, e8, e11⟩, -⟩ := hC
  have hL : L ≤ 14 := (cN_8 hN).2.2.2
  unfold f_X11_cutAnswer f_X12_cutAnswer
  rcases line_cases hN hM x with ⟨a, b⟩ | ⟨i, i1, rfl, i3, i4⟩
  · simp only [a, b, Option.bind_some, Bool.false_eq_true, ↓reduceIte]
    exact ⟨_, rfl, _, rfl, rfl, hF⟩
  · obtain ⟨xD1, g1⟩ := misOver_ok (by omega : 20 ≤ N) hM xD
    rw [e7, e8] at g1
    simp only [i3, i4, g1, cisOpen_ok hN (by omega : i < 32), misOpen_ok hM (by omega : i < 32), cisOver_ok (by omega : 20 ≤ N) hN, Option.bind_some, ↓reduceIte]
    rw [e7, e8]
    cases ho : bt (opn L (gi uG 12) (gi uG 13)) i
    · exact ⟨_, rfl, _, rfl, rfl, hF⟩
    · rw [if_pos rfl, if_pos rfl]
      cases hd : (!decide (hld u v L A B (gi uG 12) (gi uG 13) = 2))
      · rw [if_neg (by decide), if_neg (by decide)]
        obtain ⟨r, uF1, w1, w2, w3⟩ := winFrom_ok (by omega : 20 ≤ N) hN hM hF (gi uG 12 ||| sp_shl 1 (nI i)) (gi uG 13) (p := 0) (who := 1) (by omega) (by omega)
        have w1 : f_X3_winningFrom N uN 0 1 (gi uG 12 ||| sp_shl 1 (nI i)) (gi uG 13) uF = some (r, uF1) := w1
        obtain ⟨xD2, h1⟩ := hangs_ok hM (by omega : 20 ≤ N) (gi uG 12 ||| sp_shl 1 (nI i)) xD1
        simp only [w1, h1, Option.bind_some]
        have w2' : kth (wnW u v L A B (gi uG 12 ||| sp_shl 1 (nI i)) (gi uG 13) 1) 14 0 r (-2) := by
          rcases w2 with ⟨j, j1, j2, j3, j4⟩ | ⟨j1, j2⟩
          · exact Or.inl ⟨j, j1, j2, by rw [j3]; rfl, j4⟩
          · exact Or.inr ⟨by rw [j1]; exact Nat.le_refl _, j2⟩
        by_cases hh : la u v (bL (gi uG 12 ||| sp_shl 1 (nI i)) L) A = la u v (bL (gi uG 12 ||| sp_shl 1 (nI i)) L) B
        · rw [if_pos (decide_eq_true hh)]
          refine ⟨_, rfl, _, rfl, ?_, w3⟩
          have hno := wn_none hM (G := gi uG 13) hh
          rcases w2' with ⟨j, j1, j2, j3, j4⟩ | ⟨j1, j2⟩
          · rw [hno] at j2; cases j2
          · exact j2
        · rw [if_neg (fun h => hh (of_decide_eq_true h))]
          obtain ⟨r2, xD3, xE3, xF3, xG3, c1, c2⟩ := cutBy_ok hf hM hL (gi uG 12 ||| sp_shl 1 (nI i)) (gi uG 13) xD2 xE xF xG
          simp only [c1, Option.bind_some]
          rcases kth_one w2' c2 with e | ⟨e1, e2⟩
          · have hne : ¬ r2 = -1 := by
              rcases kth_ne (by omega) w2' with h9 | ⟨j, j1, j2⟩
              · rw [← e, h9]; decide
              · rw [← e, j2]; exact (nI_ne_neg (by omega)).1
            rw [if_neg hne]
            exact ⟨_, rfl, _, rfl, e, w3⟩
          · rw [if_pos e2]
            exact ⟨_, rfl, _, rfl, e1, w3⟩
      · exact ⟨_, rfl, _, rfl, rfl, hF⟩
end
