/-! ===== the model's places ===== -/
theorem laysPlaces_ok {xA : sx_C} {K L A B : Nat} {u v : Nat → Nat} (hN : mNet xA K L A B u v) {N : Nat} (hf : 20 ≤ N) (x : Int32) (xD xE : sx_C) : ∃ xD' xE', f_X12_laysPlaces N xA x xD xE = some (xD', xE') ∧ ∀ k, k < K → ga xE' 37 k = nI (la u v (bL x L) k) := by
  obtain ⟨xD', d1, d2⟩ := laysParts_ok hN hf x xD
  obtain ⟨h1, h2, h3, h4, h5, ⟨h6, h7, h8⟩, h9, h10⟩ := id hN
  have loop : ∀ n i (w : sx_C), K - i < n → i ≤ K → (∀ k, k < i → ga w 37 k = nI (la u v (bL x L) k)) → ∃ xE', f_X12_laysPlaces_7 N xA n (nI i) xD' w = some (xD', xE') ∧ ∀ k, k < K → ga xE' 37 k = nI (la u v (bL x L) k) := by
    intro n
    induction n with
    | zero => intro i w hn; omega
    | succ n ih =>
      intro i w hn hi hw
      unfold f_X12_laysPlaces_7
      rw [h1]
      by_cases hc : K ≤ i
      · rw [if_pos ((nle (by omega) (by omega)).mpr hc)]
        exact ⟨w, rfl, fun k hk => hw k (by omega)⟩
      · rw [if_neg (fun h => hc ((nle (by omega) (by omega)).mp h)), rd_ok (by omega) (by decide), d2 i (by omega)]
        simp only [Option.bind_some]
        rw [if_pos (in_ok (by omega) (by decide)), nI_clamp (by omega)]
        have e1 : nI i + 1 = nI (i + 1) := nadd i 1
        rw [e1]
        refine ih (i + 1) _ (by omega) (by omega) (fun k hk => ?_)
        rw [ga_up]
        by_cases e : k = i
        · rw [if_pos e, e]
        · rw [if_neg e]; exact hw k (by omega)
  obtain ⟨xE', e1, e2⟩ := loop N 0 xE (by omega) (by omega) (fun k hk => by omega)
  refine ⟨xD', xE', ?_, e2⟩
  unfold f_X12_laysPlaces
  rw [d1]
  exact e1
theorem placeBits_ok {xA xE : sx_C} {K L A B : Nat} {u v : Nat → Nat} (hN : mNet xA K L A B u v) {N : Nat} (hf : 20 ≤ N) {f : Nat → Nat} (hE : ∀ k, k < K → ga xE 37 k = nI (f k) ∧ f k < 8) : ∃ m, f_X12_placeBits N xA xE = some m ∧ ∀ z, bt m z = true ↔ ∃ k, k < K ∧ f k = z := by
  obtain ⟨h1, h2, h3, h4, h5, ⟨h6, h7, h8⟩, h9, h10⟩ := id hN
  have loop : ∀ n i (m : Int32), K - i < n → i ≤ K → (∀ z, bt m z = true ↔ ∃ k, k < i ∧ f k = z) → ∃ m', f_X12_placeBits_4 N xA xE n m (nI i) = some m' ∧ ∀ z, bt m' z = true ↔ ∃ k, k < K ∧ f k = z := by
    intro n
    induction n with
    | zero => intro i m hn; omega
    | succ n ih =>
      intro i m hn hi hm
      unfold f_X12_placeBits_4
      rw [h1]
      by_cases hc : K ≤ i
      · rw [if_pos ((nle (by omega) (by omega)).mpr hc)]
        have : i = K := by omega
        subst this
        exact ⟨m, rfl, hm⟩
      · rw [if_neg (fun h => hc ((nle (by omega) (by omega)).mp h)), rd_ok (by omega) (by decide), (hE i (by omega)).1]
        simp only [Option.bind_some]
        have e1 : nI i + 1 = nI (i + 1) := nadd i 1
        rw [e1]
        have f8 := (hE i (by omega)).2
        refine ih (i + 1) _ (by omega) (by omega) (fun z => ?_)
        rw [b_or, bit_all (by omega : f i < 17)]
        constructor
        · intro h
          cases hz : bt m z
          · rw [hz] at h
            have h : decide (z = f i) = true := by simpa using h
            exact ⟨i, by omega, (of_decide_eq_true h).symm⟩
          · obtain ⟨k, a, b⟩ := (hm z).mp hz
            exact ⟨k, by omega, b⟩
        · rintro ⟨k, a, b⟩
          by_cases e : k = i
          · subst e; simp [b]
          · rw [(hm z).mpr ⟨k, by omega, b⟩]; rfl
  exact loop N 0 0 (by omega) (by omega) (fun z => by rw [b_0]; exact ⟨fun h => (by cases h), fun ⟨k, a, _⟩ => (by omega)⟩)
