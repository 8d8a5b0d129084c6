/-! ===== the model's parts ===== -/
def mNet (xA : sx_C) (K L A B : Nat) (u v : Nat → Nat) : Prop :=
  gi xA 3 = nI K ∧ gi xA 9 = nI A ∧ gi xA 10 = nI B ∧ gi xA 4 = nI L ∧ (∀ i, i < L → ga xA 5 i = nI (u i) ∧ ga xA 6 i = nI (v i)) ∧ (2 ≤ K ∧ K ≤ 8 ∧ L ≤ 17) ∧ (A < K ∧ B < K) ∧ ∀ i, u i < K ∧ v i < K
theorem ga_up (x : sx_C) (s i : Nat) (w : Int32) (k : Nat) : ga (sa x s i w) s k = if k = i then w else ga x s k := by
  rw [ga_sa, if_pos rfl]
  rfl
theorem merges_ok {xA xD : sx_C} {K L A B : Nat} {u v : Nat → Nat} (hN : mNet xA K L A B u v) {N : Nat} (hf : 20 ≤ N) {p : Nat → Nat} (hp8 : ∀ k, k < 8 → p k < 8) {a b : Nat} (ha : a < K) (hb : b < K) (hp : ∀ k, k < K → ga xD 36 k = nI (p k)) : ∃ xD', f_X12_merges N xA (nI a) (nI b) xD = some xD' ∧ ∀ k, k < K → ga xD' 36 k = nI (lm p a b k) := by
  obtain ⟨h1, -, -, -, -, ⟨h6, h7, h8⟩, -, -⟩ := hN
  have pa := hp8 a (by omega)
  have pb := hp8 b (by omega)
  have loop : ∀ n k0 xD, K - k0 < n → k0 ≤ K → (∀ k, k < K → ga xD 36 k = nI (if k < k0 then lm p a b k else p k)) → ∃ xD', f_X12_merges_66 N xA n (nI (min (p a) (p b))) (nI (max (p a) (p b))) (nI k0) xD = some xD' ∧ ∀ k, k < K → ga xD' 36 k = nI (lm p a b k) := by
    intro n
    induction n with
    | zero => intro k0 xD hn; omega
    | succ n ih =>
      intro k0 xD hn hk0 hx
      unfold f_X12_merges_66
      rw [h1]
      by_cases hc : K ≤ k0
      · rw [if_pos ((nle (by omega) (by omega)).mpr hc)]
        exact ⟨xD, rfl, fun k hk => by rw [hx k hk, if_pos (by omega)]⟩
      · rw [if_neg (fun h => hc ((nle (by omega) (by omega)).mp h))]
        by_cases he : min (p a) (p b) = max (p a) (p b)
        · rw [if_pos (by rw [he])]
          refine ⟨xD, rfl, fun k hk => ?_⟩
          rw [hx k hk]
          by_cases h2 : k < k0
          · rw [if_pos h2]
          · rw [if_neg h2]
            unfold lm
            rw [← he]
            by_cases h3 : p k = min (p a) (p b)
            · rw [if_pos h3, h3]
            · rw [if_neg h3]
        · rw [if_neg (fun h => he ((neq (by omega) (by omega)).mp h)), rd_ok (by omega) (by decide), hx k0 (by omega), if_neg (by omega)]
          have pk0 := hp8 k0 (by omega)
          have e1 : nI k0 + 1 = nI (k0 + 1) := nadd k0 1
          have go : ∀ w : Int32, w = nI (lm p a b k0) → ∃ xD', f_X12_merges_110 N (f_X12_merges_66 N xA n) xA (nI (min (p a) (p b))) (nI (max (p a) (p b))) (nI k0) (nI k0) w xD = some xD' ∧ ∀ k, k < K → ga xD' 36 k = nI (lm p a b k) := by
            intro w hw
            unfold f_X12_merges_110
            rw [if_pos (in_ok (by omega) (by decide)), nI_clamp (by omega), e1]
            refine ih (k0 + 1) _ (by omega) (by omega) (fun k hk => ?_)
            rw [ga_up]
            by_cases h2 : k = k0
            · rw [if_pos h2, if_pos (by omega), hw, h2]
            · rw [if_neg h2, hx k hk]
              by_cases h3 : k < k0
              · rw [if_pos h3, if_pos (by omega)]
              · rw [if_neg h3, if_neg (by omega)]
          show ∃ xD', (if nI (p k0) = nI (max (p a) (p b)) then _ else _) = some xD' ∧ _
          by_cases h2 : p k0 = max (p a) (p b)
          · rw [if_pos (by rw [h2])]
            exact go _ (by unfold lm; rw [if_pos h2])
          · rw [if_neg (fun h => h2 ((neq (by omega) (by omega)).mp h))]
            exact go _ (by unfold lm; rw [if_neg h2])
  have hstart := loop N 0 xD (by omega) (Nat.zero_le _) (fun k hk => by rw [if_neg (by omega)]; exact hp k hk)
  have h30 : ∀ s0 : Int32, s0 = nI (min (p a) (p b)) → f_X12_merges_30 N xA (nI a) (nI b) s0 xD = f_X12_merges_66 N xA N (nI (min (p a) (p b))) (nI (max (p a) (p b))) (nI 0) xD := by
    intro s0 hs
    unfold f_X12_merges_30
    rw [rd_ok (by omega) (by decide), rd_ok (by omega) (by decide), hp a ha, hp b hb]
    show (if nI (p b) ≤ nI (p a) then _ else _) = _
    by_cases h2 : p b ≤ p a
    · rw [if_pos ((nle (by omega) (by omega)).mpr h2), hs, Nat.max_eq_left h2]; rfl
    · rw [if_neg (fun h => h2 ((nle (by omega) (by omega)).mp h)), hs, Nat.max_eq_right (by omega)]; rfl
  unfold f_X12_merges
  rw [rd_ok (by omega) (by decide), rd_ok (by omega) (by decide), hp a ha, hp b hb]
  show ∃ xD', (if nI (p b) ≤ nI (p a) then Option.bind (some (nI (p b))) _ else Option.bind (some (nI (p a))) _) = some xD' ∧ _
  by_cases h2 : p b ≤ p a
  · rw [if_pos ((nle (by omega) (by omega)).mpr h2)]
    show ∃ xD', f_X12_merges_30 N xA (nI a) (nI b) (nI (p b)) xD = some xD' ∧ _
    rw [h30 _ (by rw [Nat.min_eq_right h2])]
    exact hstart
  · rw [if_neg (fun h => h2 ((nle (by omega) (by omega)).mp h))]
    show ∃ xD', f_X12_merges_30 N xA (nI a) (nI b) (nI (p a)) xD = some xD' ∧ _
    rw [h30 _ (by rw [Nat.min_eq_left (by omega)])]
    exact hstart
theorem laysParts_ok {xA : sx_C} {K L A B : Nat} {u v : Nat → Nat} (hN : mNet xA K L A B u v) {N : Nat} (hf : 20 ≤ N) (x : Int32) (xD : sx_C) : ∃ xD', f_X12_laysParts N xA x xD = some xD' ∧ ∀ k, k < K → ga xD' 36 k = nI (la u v (bL x L) k) := by
  obtain ⟨h1, h2, h3, h4, h5, ⟨h6, h7, h8⟩, h9, h10⟩ := id hN
  have loop : ∀ n i xD, L - i < n → i ≤ L → (∀ k, k < K → ga xD 36 k = nI (lb u v (bL x L) i k)) → ∃ xD', f_X12_laysParts_25 N xA n x (nI i) xD = some xD' ∧ ∀ k, k < K → ga xD' 36 k = nI (lb u v (bL x L) L k) := by
    intro n
    induction n with
    | zero => intro i xD hn; omega
    | succ n ih =>
      intro i xD hn hi hx
      unfold f_X12_laysParts_25
      rw [h4]
      by_cases hc : L ≤ i
      · rw [if_pos ((nle (by omega) (by omega)).mpr hc)]
        have : i = L := by omega
        subst this
        exact ⟨xD, rfl, hx⟩
      · rw [if_neg (fun h => hc ((nle (by omega) (by omega)).mp h))]
        have hlb : lb u v (bL x L) (i + 1) = if bt x i = true then lm (lb u v (bL x L) i) (u i) (v i) else lb u v (bL x L) i := by
          show (if bL x L i = true then _ else _) = _
          unfold bL
          have : decide (i < L) = true := by simp; omega
          rw [this, Bool.and_true]
        have e1 : nI i + 1 = nI (i + 1) := nadd i 1
        by_cases hb : bt x i = true
        · rw [if_pos ((shr_ok x (by omega)).1.mpr hb)]
          rw [rd_ok (f := ga xA 5) (by omega) (by decide), rd_ok (f := ga xA 6) (by omega) (by decide), (h5 i (by omega)).1, (h5 i (by omega)).2]
          obtain ⟨x1, hx1, hx2⟩ := merges_ok hN hf (lb_lt8 u v (bL x L) i) (h10 i).1 (h10 i).2 hx
          show ∃ xD', Option.bind (f_X12_merges N xA (nI (u i)) (nI (v i)) xD) _ = some xD' ∧ _
          rw [hx1]
          show ∃ xD', f_X12_laysParts_25 N xA n x (nI i + 1) x1 = some xD' ∧ _
          rw [e1]
          exact ih (i + 1) x1 (by omega) (by omega) (by rw [hlb, if_pos hb]; exact hx2)
        · rw [if_neg (fun h => hb ((shr_ok x (by omega)).1.mp h))]
          show ∃ xD', f_X12_laysParts_25 N xA n x (nI i + 1) xD = some xD' ∧ _
          rw [e1]
          exact ih (i + 1) xD (by omega) (by omega) (by rw [hlb, if_neg hb]; exact hx)
  have first : ∀ n i xD, K - i < n → i ≤ K → (∀ k, k < i → ga xD 36 k = nI k) → ∃ xD', f_X12_laysParts_2 N xA n x (nI i) xD = some xD' ∧ ∀ k, k < K → ga xD' 36 k = nI (lb u v (bL x L) L k) := by
    intro n
    induction n with
    | zero => intro i xD hn; omega
    | succ n ih =>
      intro i xD hn hi hx
      unfold f_X12_laysParts_2
      rw [h1]
      by_cases hc : K ≤ i
      · rw [if_pos ((nle (by omega) (by omega)).mpr hc)]
        exact loop N 0 xD (by omega) (Nat.zero_le _) (fun k hk => hx k (by omega))
      · rw [if_neg (fun h => hc ((nle (by omega) (by omega)).mp h)), if_pos (in_ok (by omega) (by decide)), nI_clamp (by omega)]
        have e1 : nI i + 1 = nI (i + 1) := nadd i 1
        rw [e1]
        refine ih (i + 1) _ (by omega) (by omega) (fun k hk => ?_)
        rw [ga_up]
        by_cases h11 : k = i
        · rw [if_pos h11, h11]
        · rw [if_neg h11]; exact hx k (by omega)
  obtain ⟨xD', h11, h12⟩ := first N 0 xD (by omega) (Nat.zero_le _) (fun k hk => by omega)
  rw [bL_la (by omega)] at h12
  exact ⟨xD', h11, h12⟩
