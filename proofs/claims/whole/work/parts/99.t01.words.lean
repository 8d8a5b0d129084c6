/-! ===== text: bytes and words ===== -/
/-- the tape, alike on both sides -/
def tpR (uG xA : sx_C) (e : Nat) : Prop := e ≤ 600 ∧ ∀ i, i < e → ga xA 1 i = ga uG 0 i &&& 255
theorem byte_ne (x : Int32) : ¬ x &&& 255 = -1 := fun h => by
  have a : bt (x &&& 255) 31 = bt (-1) 31 := by rw [h]
  rw [b_and] at a
  have b : bt 255 31 = false := by decide
  have c : bt (-1) 31 = true := by decide
  rw [b, c] at a
  simp at a
def wof (i : Nat) : Nat := [0, 6, 11, 16, 23, 28, 34, 39, 43].getD i 0
theorem wof_chr : ∀ i, i < 8 → ∀ k, k < sp_len i → sp_chr 8 (wof i + k) = sp_chr i k ∧ ¬ sp_chr i k = 32 := by decide +kernel
theorem wof_end : ∀ i, i < 8 → sp_chr 8 (wof i + sp_len i) = 32 ∧ wof (i + 1) = wof i + sp_len i + 1 ∧ wof i + sp_len i < 43 ∧ sp_len i ≤ 6 ∧ 3 ≤ sp_len i := by decide +kernel
section
variable {N : Nat} {uG uR xA xC : sx_C} {e s p : Nat}
theorem byteAt_ok (hT : tpR uG xA e) {i : Nat} (hi : i < e) : f_X9_byteAt uG (nI i) = some (ga xA 1 i) := by
  have h6 := hT.1
  unfold f_X9_byteAt
  rw [if_neg (nI_ne_neg (by omega)).2.2, if_neg (show ¬ (600 : Int32) ≤ nI i from fun h => by have := (nle (a := 600) (by omega) (by omega)).mp h; omega), rd_ok (by omega) (by decide), Option.bind_some, hT.2 i hi]
theorem here_ok (hT : tpR uG xA e) (h27 : gi xC 27 = nI e) (h28 : gi xC 28 = nI p) (hp : p < e) : f_X12_here xA xC = some (ga xA 1 p) := by
  have h6 := hT.1
  unfold f_X12_here
  rw [h27, h28, if_neg (fun h => by have := (nle (by omega) (by omega)).mp h; omega), rd_ok (by omega) (by decide)]
  rfl
theorem here_no (hT : tpR uG xA e) (h27 : gi xC 27 = nI e) (h28 : gi xC 28 = nI p) (hp : e ≤ p) (hp2 : p ≤ 600) : f_X12_here xA xC = some (-1) := by
  have h6 := hT.1
  unfold f_X12_here
  rw [h27, h28, if_pos ((nle (by omega) (by omega)).mpr hp)]
/-- the token spells a word -/
def spl (xA : sx_C) (s p ti : Nat) : Prop := p - s = sp_len ti ∧ ∀ k, k < sp_len ti → ga xA 1 (s + k) = sp_chr ti k
theorem spells_ok (hf : 2000 ≤ N) (hT : tpR uG xA e) (h3 : gi uR 3 = nI p) (h5 : gi uR 5 = nI s) (hsp : s ≤ p) (hpe : p ≤ e) {ti : Nat} (hti : ti < 8) : ∃ b, f_X9_spells N uG uR ti = some b ∧ (b = true ↔ spl xA s p ti) := by
  have h6 := hT.1
  obtain ⟨-, -, -, w1, w2⟩ := wof_end ti hti
  unfold f_X9_spells
  have hsub : nI p - nI s = nI (p - s) := by
    have := nsub (p - s) s
    rw [show p - s + s = p by omega] at this
    exact this
  rw [h3, h5, hsub]
  have ho : (Int32.ofNat (sp_len ti)) = nI (sp_len ti) := rfl
  rw [ho]
  by_cases hl : p - s = sp_len ti
  · rw [if_pos (by rw [hl])]
    have loop : ∀ fu k, sp_len ti - k < fu → k ≤ sp_len ti → (∀ j, j < k → ga xA 1 (s + j) = sp_chr ti j) → ∃ b, f_X9_spells_20 N ti uG uR fu (nI k) = some b ∧ (b = true ↔ spl xA s p ti) := by
      intro fu
      induction fu with
      | zero => intro k hk; omega
      | succ fu ih =>
        intro k hfu hk hj
        unfold f_X9_spells_20
        rw [ho, h5]
        by_cases hc : sp_len ti ≤ k
        · rw [if_pos ((nle (by omega) (by omega)).mpr hc)]
          exact ⟨true, rfl, fun _ => ⟨hl, fun j h => hj j (by omega)⟩, fun _ => rfl⟩
        · rw [if_neg (fun h => hc ((nle (by omega) (by omega)).mp h)), nadd, byteAt_ok hT (by omega), Option.bind_some, rd_ok (by omega) (by omega), Option.bind_some, show nI k + 1 = nI (k + 1) from nadd k 1]
          by_cases hq : ga xA 1 (s + k) = sp_chr ti k
          · rw [if_pos hq]
            exact ih (k + 1) (by omega) (by omega) (fun j h => by
              by_cases e9 : j = k
              · rw [e9]; exact hq
              · exact hj j (by omega))
          · rw [if_neg hq]
            exact ⟨false, rfl, fun h => (by cases h), fun h => absurd (h.2 k (by omega)) hq⟩
    exact loop N 0 (by omega) (by omega) (fun j h => by omega)
  · rw [if_neg (fun h => hl ((neq (by omega) (by omega)).mp h))]
    exact ⟨false, rfl, fun h => (by cases h), fun h => absurd h.1 hl⟩
theorem wh_97 (hf : 2000 ≤ N) (k4 : Int32 → Int32 → Option Int32) {i : Nat} (hi : i < 8) : ∀ fu j, sp_len i - j < fu → j ≤ sp_len i → f_X12_wordHere_97 N k4 xA xC fu (nI i) (nI (wof i + j)) = k4 (nI (i + 1)) (nI (wof (i + 1))) := by
  obtain ⟨e1, e2, e3, e4, e5⟩ := wof_end i hi
  have h43 : sp_len 8 = 43 := rfl
  intro fu
  induction fu with
  | zero => intro j hj; omega
  | succ fu ih =>
    intro j hfu hj
    unfold f_X12_wordHere_97
    rw [rd_ok (by rw [h43]; omega) (by rw [h43]; decide), Option.bind_some, show nI (wof i + j) + 1 = nI (wof i + j + 1) from nadd _ 1, show nI i + 1 = nI (i + 1) from nadd i 1]
    by_cases hc : j = sp_len i
    · rw [hc, e1, if_pos rfl, e2]
    · have := wof_chr i hi j (by omega)
      rw [this.1, if_neg this.2]
      exact ih (j + 1) (by omega) (by omega)
theorem wh_step (hf : 2000 ≤ N) (hT : tpR uG xA e) (h28 : gi xC 28 = nI p) (h29 : gi xC 29 = nI s) (hsp : s ≤ p) (hpe : p ≤ e) {i : Nat} (hi : i < 8) (fu : Nat) : (spl xA s p i → f_X12_wordHere_4 N xA xC (fu + 1) (nI i) (nI (wof i)) = some (nI i)) ∧ (¬ spl xA s p i → f_X12_wordHere_4 N xA xC (fu + 1) (nI i) (nI (wof i)) = f_X12_wordHere_4 N xA xC fu (nI (i + 1)) (nI (wof (i + 1)))) := by
  have h6 := hT.1
  obtain ⟨e1, e2, e3, e4, e5⟩ := wof_end i hi
  have h43 : sp_len 8 = 43 := rfl
  have ho : (Int32.ofNat (sp_len 8)) = nI 43 := rfl
  have main : ∀ g k, sp_len i - k < g → k ≤ sp_len i → s + k ≤ p → (∀ j, j < k → ga xA 1 (s + j) = sp_chr i j) → (spl xA s p i → f_X12_wordHere_15 N (f_X12_wordHere_4 N xA xC fu) xA xC g (nI i) (nI (wof i)) (nI k) = some (nI i)) ∧ (¬ spl xA s p i → f_X12_wordHere_15 N (f_X12_wordHere_4 N xA xC fu) xA xC g (nI i) (nI (wof i)) (nI k) = f_X12_wordHere_4 N xA xC fu (nI (i + 1)) (nI (wof (i + 1)))) := by
    intro g
    induction g with
    | zero => intro k hk; omega
    | succ g ih =>
      intro k hg hk hkp hj
      have skip : f_X12_wordHere_97 N (f_X12_wordHere_4 N xA xC fu) xA xC N (nI i) (nI (wof i)) = f_X12_wordHere_4 N xA xC fu (nI (i + 1)) (nI (wof (i + 1))) := wh_97 hf _ hi N 0 (by omega) (by omega)
      unfold f_X12_wordHere_15 f_X12_wordHere_69
      rw [nadd, h29, nadd, h28, rd_ok (by rw [h43]; omega) (by rw [h43]; decide)]
      simp only [Option.bind_some]
      by_cases hc : k = sp_len i
      · rw [hc, e1, if_pos rfl, if_pos rfl]
        by_cases hl : s + sp_len i = p
        · rw [if_pos (by rw [hl])]
          refine ⟨fun _ => rfl, fun h => absurd ⟨by omega, fun j h9 => hj j (by omega)⟩ h⟩
        · rw [if_neg (fun h => hl ((neq (by omega) (by omega)).mp h)), skip]
          refine ⟨fun h => absurd h.1 (by omega), fun _ => rfl⟩
      · have hw := wof_chr i hi k (by omega)
        rw [hw.1, if_neg hw.2, if_neg hw.2, skip]
        by_cases hl : p ≤ s + k
        · rw [if_pos ((nle (by omega) (by omega)).mpr hl)]
          refine ⟨fun h => absurd h.1 (by omega), fun _ => rfl⟩
        · rw [if_neg (fun h => hl ((nle (by omega) (by omega)).mp h)), rd_ok (by omega) (by decide), Option.bind_some]
          by_cases hq : ga xA 1 (s + k) = sp_chr i k
          · rw [if_pos hq, show nI k + 1 = nI (k + 1) from nadd k 1]
            exact ih (k + 1) (by omega) (by omega) (by omega) (fun j h => by
              by_cases e9 : j = k
              · rw [e9]; exact hq
              · exact hj j (by omega))
          · rw [if_neg hq]
            refine ⟨fun h => absurd (h.2 k (by omega)) hq, fun _ => rfl⟩
  have hu : ∀ a b, f_X12_wordHere_4 N xA xC (fu + 1) a b = (if Int32.ofNat (sp_len 8) ≤ b then some (-1) else f_X12_wordHere_15 N (f_X12_wordHere_4 N xA xC fu) xA xC N a b 0) := fun a b => rfl
  rw [hu, ho, if_neg (fun h => by have := (nle (by omega) (by omega)).mp h; omega)]
  exact main N 0 (by omega) (by omega) (by omega) (fun j h => by omega)
end
