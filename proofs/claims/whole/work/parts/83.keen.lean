/-! ===== the model's isKeen, outcomeOf ===== -/
theorem bL_set {J : Int32} {L i : Nat} (hi : i < L) (hL : L ≤ 17) : bL (J ||| sp_shl 1 (nI i)) L = qI (bL J L) i := by
  funext z
  show (bt _ z && decide (z < L)) = ((bt J z && decide (z < L)) || decide (z = i))
  rw [b_or, bit_all (by omega)]
  by_cases e : z = i
  · subst e; simp [hi]
  · simp [e]
theorem opn_join {L : Nat} (hL : L ≤ 17) (J G : Int32) {i : Nat} (hi : i < L) : bt (opn L (J ||| sp_shl 1 (nI i)) G) = qE (bt (opn L J G)) i := by
  funext z
  by_cases hz : z < 32
  · show _ = (bt (opn L J G) z && !decide (z = i))
    rw [opn_bit (by omega) _ _ hz, opn_bit (by omega) _ _ hz, b_or, bit_all (by omega)]
    cases decide (z < L) <;> cases bt J z <;> cases bt G z <;> cases decide (z = i) <;> rfl
  · show _ = (bt (opn L J G) z && !decide (z = i))
    rw [b_big (by omega), b_big (by omega)]; rfl
theorem opn_cut {L : Nat} (hL : L ≤ 17) (J G : Int32) {i : Nat} (hi : i < L) : bt (opn L J (G ||| sp_shl 1 (nI i))) = qE (bt (opn L J G)) i := by
  funext z
  by_cases hz : z < 32
  · show _ = (bt (opn L J G) z && !decide (z = i))
    rw [opn_bit (by omega) _ _ hz, opn_bit (by omega) _ _ hz, b_or, bit_all (by omega)]
    cases decide (z < L) <;> cases bt J z <;> cases bt G z <;> cases decide (z = i) <;> rfl
  · show _ = (bt (opn L J G) z && !decide (z = i))
    rw [b_big (by omega), b_big (by omega)]; rfl
section
variable {N : Nat} {xA : sx_C} {K L A B : Nat} {u v : Nat → Nat}
theorem mN_U (hN : mNet xA K L A B u v) : ∀ i, u31 u A i < 8 ∧ u31 v B i < 8 := fun i => by
  obtain ⟨h1, h2, h3, h4, h5, ⟨h6, h7, h8⟩, ⟨h9, h9'⟩, h10⟩ := hN
  have a := u31_lt (fun i => (h10 i).1) h9 i
  have b := u31_lt (fun i => (h10 i).2) h9' i
  omega
theorem mlk_ex (hN : mNet xA K L A B u v) (J G : Int32) : ∃ k, k ≤ 2 ∧ mlk u v L A B J G k := qL_ex (gs_mat (mN_U hN)) (by decide) _ _
theorem mlk_join (hN : mNet xA K L A B u v) {J G : Int32} {i : Nat} (hi : i < L) {k : Nat} : mlk u v L A B (J ||| sp_shl 1 (nI i)) G k ↔ qL (rk (u31 u A) (u31 v B)) 31 (qI (bL J L) i) (qE (bt (opn L J G)) i) k := by
  have hL : L ≤ 17 := hN.2.2.2.2.2.1.2.2
  unfold mlk
  rw [bL_set hi hL, opn_join hL J G hi]
theorem mlk_cut (hN : mNet xA K L A B u v) {J G : Int32} {i : Nat} (hi : i < L) {k : Nat} : mlk u v L A B J (G ||| sp_shl 1 (nI i)) k ↔ qL (rk (u31 u A) (u31 v B)) 31 (bL J L) (qE (bt (opn L J G)) i) k := by
  have hL : L ≤ 17 := hN.2.2.2.2.2.1.2.2
  unfold mlk
  rw [opn_cut hL J G hi]
theorem gs_ends (hN : mNet xA K L A B u v) (J : Int32) : gs (u31 u A) (u31 v B) (bL J L) 31 = decide (la u v (bL J L) A = la u v (bL J L) B) := by
  have hL : L ≤ 17 := hN.2.2.2.2.2.1.2.2
  unfold gs
  rw [u31_la (fun i hi => by have := bL_lt hi; omega)]
  show (la u v (bL J L) A == la u v (bL J L) B) = _
  by_cases h : la u v (bL J L) A = la u v (bL J L) B <;> simp [h]
theorem isKeen_ok (hf : 300 ≤ N) (hN : mNet xA K L A B u v) (J G : Int32) (xD xE xF xG : sx_C) :
    ∃ b xD' xE' xF' xG', f_X12_isKeen N xA J G xD xE xF xG = some (b, xD', xE', xF', xG') ∧ (b = true ↔ ¬ mlk u v L A B J G 2) := by
  obtain ⟨h1, h2, h3, h4, h5, ⟨h6, h7, h8⟩, ⟨h9, h9'⟩, h10⟩ := id hN
  have M := gs_mat (mN_U hN)
  unfold f_X12_isKeen
  obtain ⟨xD1, g1⟩ := hangs_ok hN (by omega : 20 ≤ N) J xD
  simp only [g1, Option.bind_some]
  have hge := gs_ends hN J
  by_cases hh : la u v (bL J L) A = la u v (bL J L) B
  · rw [if_pos (decide_eq_true hh)]
    refine ⟨true, xD1, xE, xF, xG, rfl, fun _ h2 => ?_, fun _ => rfl⟩
    have := qL_one (qL_zero M (by decide : 31 < 32) (j := bL J L) (E := bt (opn L J G)) (by rw [hge]; exact decide_eq_true hh)) h2
    omega
  · rw [if_neg (fun h => hh (of_decide_eq_true h)), mopen_ok hN, Option.bind_some]
    have hge' : gs (u31 u A) (u31 v B) (bL J L) 31 = false := by rw [hge]; exact decide_eq_false hh
    have loop : ∀ n i xD xE xF xG, L - i < n → i ≤ L → (∀ z, z < i → bt (opn L J G) z = true → ¬ mlk u v L A B (J ||| sp_shl 1 (nI z)) G 0) → ∃ b xD' xE' xF' xG', f_X12_isKeen_20 N xA n J G (opn L J G) (nI i) xD xE xF xG = some (b, xD', xE', xF', xG') ∧ (b = true ↔ ∃ z, z < L ∧ bt (opn L J G) z = true ∧ mlk u v L A B (J ||| sp_shl 1 (nI z)) G 0) := by
      intro n
      induction n with
      | zero => intro i xD xE xF xG hn; omega
      | succ n ih =>
        intro i xD xE xF xG hn hi hno
        unfold f_X12_isKeen_20
        rw [h4]
        have e1 : nI i + 1 = nI (i + 1) := nadd i 1
        by_cases hc : L ≤ i
        · rw [if_pos ((nle (by omega) (by omega)).mpr hc)]
          refine ⟨false, xD, xE, xF, xG, rfl, fun h => (by cases h), ?_⟩
          rintro ⟨z, z1, z2, z3⟩
          exact absurd z3 (hno z (by omega) z2)
        · rw [if_neg (fun h => hc ((nle (by omega) (by omega)).mp h))]
          by_cases hb : bt (opn L J G) i = true
          · rw [if_pos ((shr_ok _ (by omega)).1.mpr hb)]
            obtain ⟨b, xD', xE', xF', xG', s1, s2⟩ := isSafe_ok hf hN (J ||| sp_shl 1 (nI i)) G xD xE xF xG
            simp only [s1, Option.bind_some]
            by_cases hbb : b = true
            · rw [if_pos hbb]
              exact ⟨true, xD', xE', xF', xG', rfl, fun _ => ⟨i, by omega, hb, s2.mp hbb⟩, fun _ => rfl⟩
            · rw [if_neg hbb]
              unfold f_X12_isKeen_55
              rw [e1]
              refine ih (i + 1) _ _ _ _ (by omega) (by omega) (fun z z1 z2 => ?_)
              by_cases e : z = i
              · rw [e]; exact fun h => hbb (s2.mpr h)
              · exact hno z (by omega) z2
          · rw [if_neg (fun h => hb ((shr_ok _ (by omega)).1.mp h))]
            unfold f_X12_isKeen_55
            rw [e1]
            refine ih (i + 1) _ _ _ _ (by omega) (by omega) (fun z z1 z2 => ?_)
            by_cases e : z = i
            · rw [e] at z2; exact absurd z2 hb
            · exact hno z (by omega) z2
    obtain ⟨b, xD', xE', xF', xG', l1, l2⟩ := loop N 0 xD1 xE xF xG (by omega) (by omega) (fun z hz => by omega)
    have e0 : (0 : Int32) = nI 0 := rfl
    rw [e0]
    refine ⟨b, xD', xE', xF', xG', l1, l2.trans ⟨?_, fun hn => ?_⟩⟩
    · rintro ⟨z, z1, z2, z3⟩ hk
      rw [mlk_join hN z1] at z3
      exact qL_d M (by decide) (by omega) z2 hk z3
    · obtain ⟨k, k1, k2⟩ := mlk_ex hN J G
      have hk2 : k < 2 := by
        by_cases e : k = 2
        · rw [e] at k2; exact absurd k2 hn
        · omega
      by_cases e : k = 1
      · rw [e] at k2
        obtain ⟨i, i1, i2, i3⟩ := qL_e M (by decide) k2
        have iL := opn_lt (by omega : L < 31) i2
        exact ⟨i, iL, i2, (mlk_join hN iL).mpr i3⟩
      · have e : k = 0 := by omega
        rw [e] at k2
        obtain ⟨i, i1, i2⟩ := qL_open M (by decide) hge' (by omega : 0 < 2) k2
        have iL := opn_lt (by omega : L < 31) i2
        exact ⟨i, iL, i2, (mlk_join hN iL).mpr (qL_a M (by decide) k2)⟩
theorem outcomeOf_ok (hf : 300 ≤ N) (hN : mNet xA K L A B u v) (J G : Int32) (xD xE xF xG : sx_C) {k : Nat} (hk : mlk u v L A B J G k) :
    ∃ xD' xE' xF' xG', f_X12_outcomeOf N xA J G xD xE xF xG = some (nI (if k = 0 then 0 else 3 - k), xD', xE', xF', xG') := by
  unfold f_X12_outcomeOf
  obtain ⟨k2, k1, k3⟩ := mlk_ex hN J G
  have := qL_one hk k3
  subst this
  obtain ⟨b, xD1, xE1, xF1, xG1, s1, s2⟩ := isSafe_ok hf hN J G xD xE xF xG
  simp only [s1, Option.bind_some]
  by_cases hb : b = true
  · rw [if_pos hb]
    have : k = 0 := qL_one hk (s2.mp hb)
    rw [this]
    exact ⟨_, _, _, _, rfl⟩
  · rw [if_neg hb]
    have h0 : k ≠ 0 := fun e => hb (s2.mpr (by rw [← e]; exact hk))
    obtain ⟨b2, xD2, xE2, xF2, xG2, t1, t2⟩ := isKeen_ok hf hN J G xD1 xE1 xF1 xG1
    simp only [t1, Option.bind_some]
    by_cases hb2 : b2 = true
    · rw [if_pos hb2]
      have h2 : k ≠ 2 := fun e => t2.mp hb2 (by rw [← e]; exact hk)
      have : k = 1 := by omega
      rw [this]
      exact ⟨_, _, _, _, rfl⟩
    · rw [if_neg hb2]
      have : k = 2 := by
        refine Classical.byContradiction (fun h => hb2 (t2.mpr (fun h2 => h (qL_one hk h2))))
      rw [this]
      exact ⟨_, _, _, _, rfl⟩
end
/-! ===== the class's lacking and the model's are one ===== -/
theorem qMin_cong {r r' : BS → Nat} {sp sp' : BS → Nat → Bool} (M : qM r sp) (M' : qM r' sp') {j E : BS} (h : ∀ T, qS T (qU j E) → r T = r' T) {m : Nat} (hm : qMin (fJ r j E) m) : qMin (fJ r' j E) m := by
  have he : ∀ T, fJ r j E (qN T E) = fJ r' j E (qN T E) := fun T => by
    unfold fJ
    rw [h (qU j (qN T E)) (fun i hi => by
      have hi : (j i || (T i && E i)) = true := hi
      show (j i || E i) = true
      cases hj : j i
      · rw [hj] at hi
        simp at hi
        simp [hi.2]
      · rfl)]
  obtain ⟨⟨T, t1⟩, t2⟩ := hm
  constructor
  · refine ⟨qN T E, ?_⟩
    have a := fJ_cut M j E T
    have b := t2 (qN T E)
    rw [← he]
    omega
  · intro T'
    have a := fJ_cut M' j E T'
    have b := t2 (qN T' E)
    rw [he] at b
    omega
theorem qL_cong2 {r r' : BS → Nat} {sp sp' : BS → Nat → Bool} (M : qM r sp) (M' : qM r' sp') {j E : BS} {e k : Nat} (h : ∀ T, qS T (qI (qU j E) e) → r T = r' T) (hL : qL r e j E k) : qL r' e j E k := by
  obtain ⟨m, m1, m2⟩ := hL
  refine ⟨m, qMin_cong M M' (fun T hT => h T (fun i hi => qI_s _ _ i (hT i hi))) m1, qMin_cong M M' (fun T hT => h T (fun i hi => ?_)) m2⟩
  have hh : (qI j e i || E i) = true := hT i hi
  show ((j i || E i) || decide (i = e)) = true
  have hh : ((j i || decide (i = e)) || E i) = true := hh
  cases hj : j i <;> cases hE : E i <;> cases hd : decide (i = e) <;> rw [hj, hE, hd] at hh <;> first | rfl | cases hh
theorem fJ_par {u v : Nat → Nat} {e e' : Nat} (he : e < 32) (he' : e' < 32) (hu : u e = u e') (hv : v e = v e') (j E : BS) : fJ (rk u v) (qI j e) E = fJ (rk u v) (qI j e') E := by
  funext T
  unfold fJ
  rw [rk_parU he he' hu hv]
theorem qL_par {u v : Nat → Nat} {e e' : Nat} (he : e < 32) (he' : e' < 32) (hu : u e = u e') (hv : v e = v e') {j E : BS} {k : Nat} (h : qL (rk u v) e j E k) : qL (rk u v) e' j E k := by
  obtain ⟨m, m1, m2⟩ := h
  refine ⟨m, m1, ?_⟩
  rw [← fJ_par he he' hu hv]; exact m2
/-- with L at most 14: the class's question and the model's -/
theorem mlk_iff {K L A B : Nat} {u v : Nat → Nat} (hL : L ≤ 14) (hu : ∀ i, u i < 8 ∧ v i < 8) (hA : A < 8) (hB : B < 8) (J G : Int32) (k : Nat) : mlk u v L A B J G k ↔ qL (rk (ux u A) (ux v B)) 15 (bL J L) (bt (opn L J G)) k := by
  -- one net with both lines
  obtain ⟨w, hw⟩ : ∃ w : Nat → Nat, w = u31 (ux u A) A := ⟨_, rfl⟩
  obtain ⟨y, hy⟩ : ∃ y : Nat → Nat, y = u31 (ux v B) B := ⟨_, rfl⟩
  have M1 := gs_mat (u := u31 u A) (v := u31 v B) (fun i => ⟨u31_lt (fun i => (hu i).1) hA i, u31_lt (fun i => (hu i).2) hB i⟩)
  have M2 := gs_mat (u := ux u A) (v := ux v B) (fun i => ⟨ux_lt (fun i => (hu i).1) hA i, ux_lt (fun i => (hu i).2) hB i⟩)
  have M3 : qM (rk w y) (gs w y) := gs_mat (fun i => by rw [hw, hy]; exact ⟨u31_lt (fun i => ux_lt (fun i => (hu i).1) hA i) hA i, u31_lt (fun i => ux_lt (fun i => (hu i).2) hB i) hB i⟩)
  have hO : ∀ i, qU (bL J L) (bt (opn L J G)) i = true → i < 14 := fun i hi => by
    have hi : (bL J L i || bt (opn L J G) i) = true := hi
    cases hb : bL J L i
    · rw [hb] at hi
      have := opn_lt (by omega : L < 31) (by simpa using hi)
      omega
    · have := bL_lt hb; omega
  have c1 : ∀ T, qS T (qI (qU (bL J L) (bt (opn L J G))) 31) → rk (u31 u A) (u31 v B) T = rk w y T := fun T hT => rk_cong2 (fun i hi hTi => by
    have hh := hT i hTi
    have hh : (qU (bL J L) (bt (opn L J G)) i || decide (i = 31)) = true := hh
    by_cases e : i = 31
    · rw [e, hw, hy]; exact ⟨rfl, rfl⟩
    · have := hO i (by simpa [e] using hh)
      rw [hw, hy, u31_low _ _ (by omega), u31_low _ _ (by omega), u31_low _ _ (by omega), u31_low _ _ (by omega), ux_low _ _ (by omega), ux_low _ _ (by omega)]
      exact ⟨rfl, rfl⟩)
  have c2 : ∀ T, qS T (qI (qU (bL J L) (bt (opn L J G))) 15) → rk (ux u A) (ux v B) T = rk w y T := fun T hT => rk_cong2 (fun i hi hTi => by
    have hh := hT i hTi
    have hh : (qU (bL J L) (bt (opn L J G)) i || decide (i = 15)) = true := hh
    have : i < 31 := by
      by_cases e : i = 15
      · omega
      · have := hO i (by simpa [e] using hh)
        omega
    rw [hw, hy, u31_low _ _ this, u31_low _ _ this]
    exact ⟨rfl, rfl⟩)
  have ew : w 31 = w 15 := by rw [hw]; rfl
  have ey : y 31 = y 15 := by rw [hy]; rfl
  unfold mlk
  constructor
  · intro h
    exact qL_cong2 M3 M2 (fun T hT => (c2 T hT).symm) (qL_par (by decide) (by decide) ew ey (qL_cong2 M1 M3 c1 h))
  · intro h
    exact qL_cong2 M3 M1 (fun T hT => (c1 T hT).symm) (qL_par (by decide) (by decide) ew.symm ey.symm (qL_cong2 M2 M3 c2 h))
