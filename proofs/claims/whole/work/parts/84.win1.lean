/-! ===== winning lines: the class's least one from a place on; the k-th of a row of bits ===== -/
theorem n_pos {x : Int32} (h : 0 ≤ x) : ∃ k, k < 2147483648 ∧ x = nI k := by
  rw [fa_le] at h
  have e0 : (0 : Int32).toInt = 0 := by decide
  rw [e0] at h
  have h2 := Int32.toInt_lt x
  refine ⟨x.toInt.toNat, by omega, ?_⟩
  apply Int32.toInt_inj.mp
  rw [nI_toInt (by omega)]
  omega
theorem n_m1 {k : Nat} (hk : 0 < k) : nI k + (-1) = nI (k - 1) := by
  have h := nsub (k - 1) 1
  rw [show k - 1 + 1 = k by omega] at h
  rw [← h]
  show nI k + -1 = nI k - 1
  rw [Int32.sub_eq_add_neg]
/-- r is the k-th of a row of at most n -/
def kth (W : Nat → Bool) (n k : Nat) (r none_ : Int32) : Prop := (∃ i, i < n ∧ W i = true ∧ fb_ct W i = k ∧ r = nI i) ∨ (fb_ct W n ≤ k ∧ r = none_)
theorem kth_one {W : Nat → Bool} {n k : Nat} {r r' x y : Int32} (h : kth W n k r x) (h' : kth W n k r' y) : r = r' ∨ (r = x ∧ r' = y) := by
  rcases h with ⟨i, i1, i2, i3, i4⟩ | ⟨i1, i2⟩ <;> rcases h' with ⟨j, j1, j2, j3, j4⟩ | ⟨j1, j2⟩
  · left
    rw [i4, j4, fb_ct_kth_one i2 j2 (by rw [i3, j3])]
  · have := fb_ct_mono W (show i + 1 ≤ n by omega)
    rw [fb_ct_succ, i2] at this
    simp at this
    omega
  · have := fb_ct_mono W (show j + 1 ≤ n by omega)
    rw [fb_ct_succ, j2] at this
    simp at this
    omega
  · exact Or.inr ⟨i2, j2⟩
theorem nth_ok {N : Nat} (hf : 20 ≤ N) (x : Int32) {k : Nat} (hk : k < 2147483648) : ∃ r, f_X11_nth N x (nI k) = some r ∧ kth (bt x) 14 k r (-2) := by
  have loop : ∀ n i, 14 - i < n → i ≤ 14 → fb_ct (bt x) i ≤ k → ∃ r, f_X11_nth_4 N n x (nI (k - fb_ct (bt x) i)) (nI i) = some r ∧ kth (bt x) 14 k r (-2) := by
    intro n
    induction n with
    | zero => intro i hn; omega
    | succ n ih =>
      intro i hn hi hc
      unfold f_X11_nth_4
      have e14 : (14 : Int32) = nI 14 := rfl
      have e1 : nI i + 1 = nI (i + 1) := nadd i 1
      by_cases h : 14 ≤ i
      · rw [e14, if_pos ((nle (by omega) (by omega)).mpr h)]
        have : i = 14 := by omega
        subst this
        exact ⟨-2, rfl, Or.inr ⟨hc, rfl⟩⟩
      · rw [e14, if_neg (fun h2 => h ((nle (by omega) (by omega)).mp h2)), has_ok x (by omega), Option.bind_some]
        cases hb : bt x i
        · rw [if_neg (by decide)]
          unfold f_X11_nth_27
          have := ih (i + 1) (by omega) (by omega) (by rw [fb_ct_succ, hb]; simpa using hc)
          rw [fb_ct_succ, hb] at this
          rw [e1]
          simpa using this
        · rw [if_pos rfl]
          by_cases h0 : k - fb_ct (bt x) i = 0
          · rw [h0, if_pos (show nI 0 = 0 from rfl)]
            exact ⟨nI i, rfl, Or.inl ⟨i, by omega, hb, by omega, rfl⟩⟩
          · rw [if_neg (fun h2 => h0 ((nz (by omega)).mp h2)), n_m1 (by omega)]
            unfold f_X11_nth_27
            have := ih (i + 1) (by omega) (by omega) (by rw [fb_ct_succ, hb]; simp; omega)
            rw [fb_ct_succ, hb] at this
            rw [e1, show k - fb_ct (bt x) i - 1 = k - (fb_ct (bt x) i + 1) by omega]
            simpa using this
  unfold f_X11_nth
  exact loop N 0 (by omega) (by omega) (Nat.zero_le _)
section
variable {N : Nat} {uN uF xA : sx_C} {K L A B : Nat} {u v : Nat → Nat}
theorem cN_8 (hN : cNet uN K L A B u v) : (∀ i, u i < 8 ∧ v i < 8) ∧ A < 8 ∧ B < 8 ∧ L ≤ 14 := by
  obtain ⟨h1, h2, h3, h4, h5, ⟨h6, h7, h8⟩, ⟨h9, h9'⟩, h10⟩ := hN
  refine ⟨fun i => ?_, by omega, by omega, h8⟩
  have := h10 i
  omega
theorem clk_ok (hf : 20 ≤ N) (hN : cNet uN K L A B u v) (hF : ∃ u' v', fNet uF u' v') (J G : Int32) : ∃ k uF', k ≤ 2 ∧ f_X3_lackingBetween N uN J G (gi uN 3) (gi uN 4) uF = some (nI k, uF') ∧ mlk u v L A B J G k ∧ ∃ u' v', fNet uF' u' v' := by
  obtain ⟨u0, v0, hF⟩ := hF
  obtain ⟨h1, h2, h3, h4, h5, ⟨h6, h7, h8⟩, ⟨h9, h9'⟩, h10⟩ := id hN
  obtain ⟨k, uF', a1, a2, a3, a4⟩ := lackB_ok hf hN hF J G h9 h9'
  obtain ⟨c1, c2, c3, c4⟩ := cN_8 hN
  refine ⟨k, uF', a1, ?_, (mlk_iff (K := K) c4 c1 c2 c3 J G k).mpr a3, a4⟩
  rw [h2, h3]; exact a2
theorem lacking_ok (hf : 20 ≤ N) (hN : cNet uN K L A B u v) (hF : ∃ u' v', fNet uF u' v') (J G : Int32) : ∃ k uF', k ≤ 2 ∧ f_X3_lacking N uN J G uF = some (nI k, uF') ∧ mlk u v L A B J G k ∧ ∃ u' v', fNet uF' u' v' := by
  obtain ⟨k, uF', a1, a2, a3, a4⟩ := clk_ok hf hN hF J G
  refine ⟨k, uF', a1, ?_, a3, a4⟩
  unfold f_X3_lacking
  rw [a2]; rfl
theorem outBy_ok {k : Nat} (hk : k ≤ 2) : f_X3_outcomeBy (nI k) = some (nI (if k = 0 then 0 else 3 - k)) := by
  have : ∀ k, k < 3 → f_X3_outcomeBy (nI k) = some (nI (if k = 0 then 0 else 3 - k)) := by decide +kernel
  exact this k (by omega)
/-- what wins -/
def wnP (u v : Nat → Nat) (L A B : Nat) (J G : Int32) (who : Nat) (i : Nat) : Prop := bt (opn L J G) i = true ∧ (if who = 0 then mlk u v L A B (J ||| sp_shl 1 (nI i)) G 0 else mlk u v L A B J (G ||| sp_shl 1 (nI i)) 2)
noncomputable def wnW (u v : Nat → Nat) (L A B : Nat) (J G : Int32) (who : Nat) : Nat → Bool := fun i => @decide (wnP u v L A B J G who i) (Classical.propDecidable _)
theorem wnW_t {J G : Int32} {who i : Nat} : wnW u v L A B J G who i = true ↔ wnP u v L A B J G who i := by
  unfold wnW
  exact @decide_eq_true_iff _ (Classical.propDecidable _)
theorem wnW_f {J G : Int32} {who i : Nat} : wnW u v L A B J G who i = false ↔ ¬ wnP u v L A B J G who i := by
  unfold wnW
  exact @decide_eq_false_iff_not _ (Classical.propDecidable _)
/-- all open lines win, or none, where it isn't in between -/
theorem wn_all (hN : mNet xA K L A B u v) {J G : Int32} {k who i : Nat} (hk : mlk u v L A B J G k) (hw : who < 2) (hi : bt (opn L J G) i = true) : (k = 0 → (wnP u v L A B J G who i ↔ who = 0)) ∧ (k = 2 → (wnP u v L A B J G who i ↔ who = 1)) := by
  have hL : L ≤ 17 := hN.2.2.2.2.2.1.2.2
  have iL := opn_lt (by omega : L < 31) hi
  have M := gs_mat (mN_U hN)
  unfold wnP
  have h01 : who = 0 ∨ who = 1 := by omega
  constructor
  · intro e
    rw [e] at hk
    rcases h01 with h | h
    · rw [h, if_pos rfl]
      exact ⟨fun _ => rfl, fun _ => ⟨hi, (mlk_join hN iL).mpr (qL_a M (by decide) hk)⟩⟩
    · rw [h, if_neg (by decide)]
      refine ⟨fun h2 => absurd ((mlk_cut hN iL).mp h2.2) (qL_b M (by decide) (by omega) hi hk), fun h => (by cases h)⟩
  · intro e
    rw [e] at hk
    rcases h01 with h | h
    · rw [h, if_pos rfl]
      refine ⟨fun h2 => absurd ((mlk_join hN iL).mp h2.2) (qL_d M (by decide) (by omega) hi hk), fun h => (by cases h)⟩
    · rw [h, if_neg (by decide)]
      exact ⟨fun _ => rfl, fun _ => ⟨hi, (mlk_cut hN iL).mpr (qL_c M (by decide) (by omega) hi hk)⟩⟩
/-- open lines from p on -/
theorem opn_from {L : Nat} (hL : L ≤ 14) (J G : Int32) {p : Nat} (hp : p ≤ 14) {z : Nat} (hz : z < 32) : bt (opn L J G &&& sp_shl (-1) (nI p)) z = (bt (opn L J G) z && decide (p ≤ z)) := by
  rw [b_and, h_shl _ (by omega) hz]
  by_cases h : p ≤ z
  · rw [b_m1 _ (by omega)]; simp [h]
  · simp [h]
/-- the first of a row from p on: r -/
def frm (W : Nat → Bool) (p : Nat) (r : Int32) : Prop := (∃ i, i < 14 ∧ W i = true ∧ fb_ct W i = fb_ct W p ∧ r = nI i) ∨ (fb_ct W 14 = fb_ct W p ∧ r = -2)
theorem winFrom_ok (hf : 20 ≤ N) (hN : cNet uN K L A B u v) (hM : mNet xA K L A B u v) (hF : ∃ u' v', fNet uF u' v') (J G : Int32) {p who : Nat} (hp : p ≤ 14) (hw : who < 2) : ∃ r uF', f_X3_winningFrom N uN (nI p) (nI who) J G uF = some (r, uF') ∧ frm (wnW u v L A B J G who) p r ∧ ∃ u' v', fNet uF' u' v' := by
  obtain ⟨c1, c2, c3, c4⟩ := cN_8 hN
  obtain ⟨k, uF1, a1, a2, a3, a4⟩ := clk_ok hf hN hF J G
  obtain ⟨W, hW⟩ : ∃ W, W = wnW u v L A B J G who := ⟨_, rfl⟩
  have hWo : ∀ z, W z = true → bt (opn L J G) z = true := fun z hz => by rw [hW] at hz; exact (wnW_t.mp hz).1
  have hW14 : ∀ z, W z = true → z < 14 := fun z hz => by have := opn_lt (by omega : L < 31) (hWo z hz); omega
  rw [← hW]
  obtain ⟨O, hO⟩ : ∃ O, O = opn L J G &&& sp_shl (-1) (nI p) := ⟨_, rfl⟩
  have hOb : ∀ z, z < 32 → bt O z = (bt (opn L J G) z && decide (p ≤ z)) := fun z hz => by rw [hO]; exact opn_from c4 J G hp hz
  have hle : fb_ct W p ≤ fb_ct W 14 := fb_ct_mono W hp
  unfold f_X3_winningFrom
  simp only [copen_ok hN, a2, Option.bind_some]
  rw [← hO]
  by_cases hk1 : k = 1
  · rw [hk1, if_pos (show nI 1 = 1 from rfl)]
    have loop : ∀ n i uF, 14 - i < n → i ≤ 14 → (∃ u' v', fNet uF u' v') → (∀ z, z < i → p ≤ z → W z = false) → ∃ r uF', f_X3_winningFrom_82 N uN n (nI who) J G O (nI i) uF = some (r, uF') ∧ frm W p r ∧ ∃ u' v', fNet uF' u' v' := by
      intro n
      induction n with
      | zero => intro i uF hn; omega
      | succ n ih =>
        intro i uF hn hi hF hno
        unfold f_X3_winningFrom_82
        have e14 : (14 : Int32) = nI 14 := rfl
        have e1 : nI i + 1 = nI (i + 1) := nadd i 1
        by_cases h : 14 ≤ i
        · rw [e14, if_pos ((nle (by omega) (by omega)).mpr h)]
          exact ⟨-2, uF, rfl, Or.inr ⟨ct_gap hp (fun t t1 t2 => hno t (by omega) t1), rfl⟩, hF⟩
        · rw [e14, if_neg (fun h2 => h ((nle (by omega) (by omega)).mp h2)), has_ok O (by omega), Option.bind_some]
          have more : ∀ uF, (∃ u' v', fNet uF u' v') → (p ≤ i → W i = false) → ∃ r uF', f_X3_winningFrom_170 N (f_X3_winningFrom_82 N uN n) uN (nI who) J G O (nI i) uF = some (r, uF') ∧ frm W p r ∧ ∃ u' v', fNet uF' u' v' := by
            intro uF hF hWi
            unfold f_X3_winningFrom_170
            rw [e1]
            refine ih (i + 1) uF (by omega) (by omega) hF (fun z z1 z2 => ?_)
            by_cases e : z = i
            · rw [e]; exact hWi (by omega)
            · exact hno z (by omega) z2
          cases hb : bt O i
          · rw [if_neg (by decide)]
            refine more uF hF (fun hpi => ?_)
            rw [hOb i (by omega)] at hb
            have hb : bt (opn L J G) i = false := by simpa [hpi] using hb
            cases hWi : W i
            · rfl
            · have := hWo i hWi; rw [hb] at this; cases this
          · rw [if_pos rfl]
            rw [hOb i (by omega)] at hb
            simp at hb
            obtain ⟨hbo, hpi⟩ := hb
            have iL := opn_lt (by omega : L < 31) hbo
            have hgap : fb_ct W i = fb_ct W p := ct_gap hpi (fun t t1 t2 => hno t t2 t1)
            have h01 : who = 0 ∨ who = 1 := by omega
            rcases h01 with h0 | h0
            · rw [h0, if_pos (show nI 0 = 0 from rfl)]
              unfold f_X3_winningFrom_113
              rw [if_pos (show nI 0 = 0 from rfl)]
              unfold f_X3_winningFrom_131
              obtain ⟨k', uF', b1, b2, b3, b4⟩ := clk_ok hf hN hF (J ||| sp_shl 1 (nI i)) G
              simp only [b2, Option.bind_some]
              rw [if_pos (show nI 0 = 0 from rfl)]
              unfold f_X3_winningFrom_164
              by_cases e : k' = 0
              · rw [e, if_pos (show nI 0 = 0 from rfl)]
                exact ⟨nI i, uF', rfl, Or.inl ⟨i, by omega, by rw [hW]; exact wnW_t.mpr ⟨hbo, by rw [h0, if_pos rfl, ← e]; exact b3⟩, hgap, rfl⟩, b4⟩
              · rw [if_neg (fun h2 => e ((nz (by omega)).mp h2))]
                have := more uF' b4 (fun _ => by
                  rw [hW]
                  refine wnW_f.mpr (fun h2 => e ?_)
                  have h3 := h2.2
                  rw [h0, if_pos rfl] at h3
                  exact qL_one b3 h3)
                rw [h0] at this
                exact this
            · rw [h0, if_neg (by decide)]
              unfold f_X3_winningFrom_113
              rw [if_neg (by decide)]
              unfold f_X3_winningFrom_131
              obtain ⟨k', uF', b1, b2, b3, b4⟩ := clk_ok hf hN hF J (G ||| sp_shl 1 (nI i))
              simp only [b2, Option.bind_some]
              rw [if_neg (show ¬ nI 1 = 0 by decide)]
              unfold f_X3_winningFrom_164
              by_cases e : k' = 2
              · rw [e, if_pos (show nI 2 = 2 from rfl)]
                exact ⟨nI i, uF', rfl, Or.inl ⟨i, by omega, by rw [hW]; exact wnW_t.mpr ⟨hbo, by rw [h0, if_neg (by decide), ← e]; exact b3⟩, hgap, rfl⟩, b4⟩
              · rw [if_neg (fun h2 => e ((nz2 (by omega)).mp h2))]
                have := more uF' b4 (fun _ => by
                  rw [hW]
                  refine wnW_f.mpr (fun h2 => e ?_)
                  have h3 := h2.2
                  rw [h0, if_neg (by decide)] at h3
                  exact qL_one b3 h3)
                rw [h0] at this
                exact this
    exact loop N 0 uF1 (by omega) (by omega) a4 (fun z hz => by omega)
  · rw [if_neg (fun h2 => hk1 ((nz1 (by omega)).mp h2))]
    -- the first open one, if all win
    have first : ∃ r, f_X11_nth N O 0 = some r ∧ ((∀ z, bt (opn L J G) z = true → W z = true) → frm W p r) := by
      obtain ⟨r, r1, r2⟩ := nth_ok hf O (k := 0) (by omega)
      refine ⟨r, r1, fun hall => ?_⟩
      have hOW : ∀ z, z < 14 → bt O z = (W z && decide (p ≤ z)) := fun z hz => by
        rw [hOb z (by omega)]
        cases ho : bt (opn L J G) z
        · cases hWz : W z
          · rfl
          · rw [hWo z hWz] at ho; cases ho
        · rw [hall z ho]
      rcases r2 with ⟨i, i1, i2, i3, i4⟩ | ⟨i1, i2⟩
      · rw [hOW i i1] at i2
        simp at i2
        refine Or.inl ⟨i, i1, i2.1, ct_gap i2.2 (fun t t1 t2 => ?_), i4⟩
        have := fb_ct_zero.mp i3 t t2
        rw [hOW t (by omega)] at this
        simpa [t1] using this
      · refine Or.inr ⟨ct_gap hp (fun t t1 t2 => ?_), i2⟩
        have := fb_ct_zero.mp (by omega : fb_ct (bt O) 14 = 0) t t2
        rw [hOW t (by omega)] at this
        simpa [t1] using this
    have none_ : (∀ z, bt (opn L J G) z = true → W z = false) → frm W p (-2) := fun h => Or.inr ⟨ct_gap hp (fun t t1 t2 => by
      cases hWt : W t
      · rfl
      · rw [h t (hWo t hWt)] at hWt; cases hWt), rfl⟩
    obtain ⟨r, r1, r2⟩ := first
    have h01 : who = 0 ∨ who = 1 := by omega
    have hWall : ∀ z, bt (opn L J G) z = true → (k = 0 → (W z = true ↔ who = 0)) ∧ (k = 2 → (W z = true ↔ who = 1)) := fun z hz => by
      rw [hW, wnW_t]; exact wn_all hM a3 hw hz
    by_cases hk0 : k = 0
    · rw [hk0, if_pos (show nI 0 = 0 from rfl)]
      unfold f_X3_winningFrom_55 f_X3_winningFrom_64
      rcases h01 with h0 | h0
      · rw [h0, if_pos (show nI 0 = 0 from rfl), if_pos rfl, r1]
        exact ⟨r, uF1, rfl, r2 (fun z hz => ((hWall z hz).1 hk0).mpr h0), a4⟩
      · rw [h0, if_neg (by decide), if_neg (by decide)]
        refine ⟨-2, uF1, rfl, none_ (fun z hz => ?_), a4⟩
        cases hWz : W z
        · rfl
        · have := ((hWall z hz).1 hk0).mp hWz; omega
    · have hk2 : k = 2 := by omega
      rw [hk2, if_neg (by decide)]
      unfold f_X3_winningFrom_55 f_X3_winningFrom_64
      rcases h01 with h0 | h0
      · rw [h0, if_pos (show nI 0 = 0 from rfl), if_neg (by decide)]
        refine ⟨-2, uF1, rfl, none_ (fun z hz => ?_), a4⟩
        cases hWz : W z
        · rfl
        · have := ((hWall z hz).2 hk2).mp hWz; omega
      · rw [h0, if_neg (by decide), if_pos rfl, r1]
        exact ⟨r, uF1, rfl, r2 (fun z hz => ((hWall z hz).2 hk2).mpr h0), a4⟩
end
