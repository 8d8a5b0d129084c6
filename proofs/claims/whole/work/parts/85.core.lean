/-! ===== what both objects hold alike; lines and knots asked of both ===== -/
def sCore (K L A B : Nat) (u v : Nat → Nat) (uG uN uF xA : sx_C) : Prop :=
  cNet uN K L A B u v ∧ mNet xA K L A B u v ∧ (∃ u' v', fNet uF u' v') ∧ (gi xA 7 = gi uG 12 ∧ gi xA 8 = gi uG 13 ∧ gi xA 11 = gi uG 14) ∧ (∃ m, m < 2 ∧ gi uG 14 = nI m) ∧ (∀ z, bt (gi uG 12) z = true → z < L) ∧ (∀ z, bt (gi uG 13) z = true → z < L) ∧ ∀ z, ¬ (bt (gi uG 12) z = true ∧ bt (gi uG 13) z = true)
section
variable {N : Nat} {uG uN uF xA : sx_C} {K L A B : Nat} {u v : Nat → Nat}
theorem line_cases (hN : cNet uN K L A B u v) (hM : mNet xA K L A B u v) (x : Int32) : (f_X6_isLine uN x = some false ∧ f_X12_isLine xA x = some false) ∨ ∃ i, i < L ∧ x = nI i ∧ f_X6_isLine uN x = some true ∧ f_X12_isLine xA x = some true := by
  rcases cline_ok hN x with ⟨a, b⟩ | ⟨i, i1, i2, i3⟩
  · rcases mline_ok hM x with ⟨c, d⟩ | ⟨j, j1, j2, j3⟩
    · exact Or.inl ⟨a, c⟩
    · exact absurd j2 (b j j1)
  · rcases mline_ok hM x with ⟨c, d⟩ | ⟨j, j1, j2, j3⟩
    · exact absurd i2 (d i i1)
    · exact Or.inr ⟨i, i1, i2, i3, j3⟩
theorem knot_cases (hN : cNet uN K L A B u v) (hM : mNet xA K L A B u v) (x : Int32) : (f_X6_isKnot uN x = some false ∧ f_X12_isKnot xA x = some false) ∨ ∃ i, i < K ∧ x = nI i ∧ f_X6_isKnot uN x = some true ∧ f_X12_isKnot xA x = some true := by
  rcases cknot_ok hN x with ⟨a, b⟩ | ⟨i, i1, i2, i3⟩
  · rcases mknot_ok hM x with ⟨c, d⟩ | ⟨j, j1, j2, j3⟩
    · exact Or.inl ⟨a, c⟩
    · exact absurd j2 (b j j1)
  · rcases mknot_ok hM x with ⟨c, d⟩ | ⟨j, j1, j2, j3⟩
    · exact absurd i2 (d i i1)
    · exact Or.inr ⟨i, i1, i2, i3, j3⟩
theorem cisOpen_ok (hN : cNet uN K L A B u v) {i : Nat} (hi : i < 32) : f_X11_isOpen uG uN (nI i) = some (bt (opn L (gi uG 12) (gi uG 13)) i) := by
  unfold f_X11_isOpen f_X11_open
  simp only [copen_ok hN, Option.bind_some, has_ok _ hi]
theorem cOpen_ok (hN : cNet uN K L A B u v) : f_X11_open uG uN = some (opn L (gi uG 12) (gi uG 13)) := by
  unfold f_X11_open
  simp only [copen_ok hN, Option.bind_some]
theorem mOpenNow_ok (hM : mNet xA K L A B u v) : f_X12_openNow xA = some (opn L (gi xA 7) (gi xA 8)) := by
  unfold f_X12_openNow
  simp only [mopen_ok hM, Option.bind_some]
theorem misOpen_ok (hM : mNet xA K L A B u v) {i : Nat} (hi : i < 32) : f_X12_isOpen xA (nI i) = some (bt (opn L (gi xA 7) (gi xA 8)) i) := by
  unfold f_X12_isOpen
  simp only [mOpenNow_ok hM, Option.bind_some]
  cases h : bt (opn L (gi xA 7) (gi xA 8)) i
  · rw [if_neg (fun h2 => by rw [(shr_ok _ hi).1, h] at h2; cases h2)]
  · rw [if_pos ((shr_ok _ hi).1.mpr h)]
theorem cisOver_ok (hf : 20 ≤ N) (hN : cNet uN K L A B u v) : f_X11_isOver N uG uN = some (!decide (hld u v L A B (gi uG 12) (gi uG 13) = 2)) := by
  unfold f_X11_isOver
  simp only [holder_ok hN hf, Option.bind_some]
  by_cases h : hld u v L A B (gi uG 12) (gi uG 13) = 2
  · rw [if_pos h]; simp [h]
  · rw [if_neg h]; simp [h]
theorem misOver_ok (hf : 20 ≤ N) (hM : mNet xA K L A B u v) (xD : sx_C) : ∃ xD', f_X12_isOver N xA xD = some (!decide (hld u v L A B (gi xA 7) (gi xA 8) = 2), xD') := by
  unfold f_X12_isOver
  obtain ⟨xD', h1⟩ := mhas_ok hM hf (gi xA 7) (gi xA 8) xD
  simp only [h1, Option.bind_some]
  by_cases h : hld u v L A B (gi xA 7) (gi xA 8) = 2
  · rw [if_pos h]; exact ⟨xD', by simp [h]⟩
  · rw [if_neg h]; exact ⟨xD', by simp [h]⟩
theorem wrong_ok (hM : mNet xA K L A B u v) {i : Nat} (hi : i < L) : f_X12_wrongLine xA (nI i) = some (if bt (opn L (gi xA 7) (gi xA 8)) i = true then 0 else -2) := by
  have hL : L ≤ 17 := hM.2.2.2.2.2.1.2.2
  unfold f_X12_wrongLine
  rcases mline_ok hM (nI i) with ⟨c, d⟩ | ⟨j, j1, j2, j3⟩
  · exact absurd rfl (d i hi)
  · simp only [j3, Option.bind_some, misOpen_ok hM (by omega : i < 32), ↓reduceIte]
    cases h : bt (opn L (gi xA 7) (gi xA 8)) i
    · rfl
    · rfl
theorem wrong_no {x : Int32} (h : f_X12_isLine xA x = some false) : f_X12_wrongLine xA x = some (-1) := by
  unfold f_X12_wrongLine
  rw [h]; rfl
/-! ===== outcome, idle, ifLine ===== -/
theorem o_outcome (hf : 300 ≤ N) (hC : sCore K L A B u v uG uN uF xA) (xB xD xE xF xG : sx_C) : ∃ r1, f_X11_outcome N uG uN uF = some r1 ∧ ∃ r2, f_X12_outcome N xA xB xD xE xF xG = some r2 ∧ r1.1 = r2.1 ∧ ∃ u' v', fNet r1.2 u' v' := by
  obtain ⟨hN, hM, hF, ⟨e7, e8, e11⟩, -⟩ := hC
  obtain ⟨k, uF1, a1, a2, a3, a4⟩ := lacking_ok (by omega : 20 ≤ N) hN hF (gi uG 12) (gi uG 13)
  obtain ⟨xD', xE', xF', xG', b1⟩ := outcomeOf_ok hf hM (gi uG 12) (gi uG 13) xD xE xF xG a3
  unfold f_X11_outcome f_X12_outcome
  simp only [a2, outBy_ok a1, e7, e8, b1, Option.bind_some]
  exact ⟨_, rfl, _, rfl, rfl, a4⟩
theorem o_idle (hf : 300 ≤ N) (hC : sCore K L A B u v uG uN uF xA) (x : Int32) (xB xD xE xF xG : sx_C) : ∃ r1, f_X11_idle N uG uN x uF = some r1 ∧ ∃ r2, f_X12_idle N xA x xB xD xE xF xG = some r2 ∧ r1.1 = r2.1 ∧ ∃ u' v', fNet r1.2 u' v' := by
  obtain ⟨hN, hM, hF, ⟨e7, e8, e11⟩, -⟩ := hC
  have hL : L ≤ 14 := (cN_8 hN).2.2.2
  unfold f_X11_idle f_X12_idle
  rcases line_cases hN hM x with ⟨a, b⟩ | ⟨i, i1, rfl, i3, i4⟩
  · simp only [a, wrong_no b, Option.bind_some, Bool.false_eq_true, ↓reduceIte]
    exact ⟨_, rfl, _, rfl, rfl, hF⟩
  · simp only [i3, wrong_ok hM i1, cisOpen_ok hN (by omega : i < 32), Option.bind_some, ↓reduceIte]
    rw [e7, e8]
    cases ho : bt (opn L (gi uG 12) (gi uG 13)) i
    · exact ⟨_, rfl, _, rfl, rfl, hF⟩
    · obtain ⟨k, uF1, a1, a2, a3, a4⟩ := lacking_ok (by omega : 20 ≤ N) hN hF (gi uG 12) (gi uG 13)
      obtain ⟨xD1, xE1, xF1, xG1, b1⟩ := outcomeOf_ok hf hM (gi uG 12) (gi uG 13) xD xE xF xG a3
      obtain ⟨k2, uF2, c1, c2, c3, c4⟩ := lacking_ok (by omega : 20 ≤ N) hN a4 (gi uG 12 ||| sp_shl 1 (nI i)) (gi uG 13)
      obtain ⟨xD2, xE2, xF2, xG2, d1⟩ := outcomeOf_ok hf hM (gi uG 12 ||| sp_shl 1 (nI i)) (gi uG 13) xD1 xE1 xF1 xG1 c3
      obtain ⟨k3, uF3, g1, g2, g3, g4⟩ := lacking_ok (by omega : 20 ≤ N) hN c4 (gi uG 12) (gi uG 13 ||| sp_shl 1 (nI i))
      obtain ⟨xD3, xE3, xF3, xG3, h1⟩ := outcomeOf_ok hf hM (gi uG 12) (gi uG 13 ||| sp_shl 1 (nI i)) xD2 xE2 xF2 xG2 g3
      have hout : ∀ p q, p ≤ 2 → q ≤ 2 → (nI p = nI q ↔ nI (if p = 0 then 0 else 3 - p) = nI (if q = 0 then 0 else 3 - q)) := fun p q hp hq => by
        have : ∀ p, p < 3 → ∀ q, q < 3 → (nI p = nI q ↔ nI (if p = 0 then 0 else 3 - p) = nI (if q = 0 then 0 else 3 - q)) := by decide +kernel
        exact this p (by omega) q (by omega)
      simp only [a2, c2, g2, b1, d1, h1, Option.bind_some, ↓reduceIte]
      rw [if_pos (show (0 : Int32) ≤ 0 by decide)]
      by_cases q1 : nI k2 = nI k
      · rw [if_pos q1, if_pos ((hout _ _ c1 a1).mp q1)]
        by_cases q2 : nI k3 = nI k
        · rw [if_pos q2, if_pos ((hout _ _ g1 a1).mp q2)]
          exact ⟨_, rfl, _, rfl, rfl, g4⟩
        · rw [if_neg q2, if_neg (fun h => q2 ((hout _ _ g1 a1).mpr h))]
          exact ⟨_, rfl, _, rfl, rfl, g4⟩
      · rw [if_neg q1, if_neg (fun h => q1 ((hout _ _ c1 a1).mpr h))]
        exact ⟨_, rfl, _, rfl, rfl, c4⟩
theorem int_01 (x : Int32) : x < 0 ∨ (¬ x < 0 ∧ ¬ x ≤ 1 ∧ 1 < x) ∨ (∃ m, m < 2 ∧ x = nI m ∧ ¬ x < 0 ∧ x ≤ 1 ∧ ¬ 1 < x) := by
  by_cases h : x < 0
  · exact Or.inl h
  · right
    obtain ⟨k, k1, k2⟩ := n_pos (fa_of_nlt h)
    by_cases h2 : x ≤ 1
    · right
      rw [k2, show (1 : Int32) = nI 1 from rfl, nle k1 (by omega)] at h2
      refine ⟨k, by omega, k2, h, ?_, ?_⟩
      · rw [k2]; exact (nle k1 (b := 1) (by omega)).mpr h2
      · rw [k2]; exact fun h3 => by have := (nlt (a := 1) (by omega) k1).mp h3; omega
    · exact Or.inl ⟨h, h2, fa_of_nle h2⟩
theorem o_ifLine (hf : 300 ≤ N) (hC : sCore K L A B u v uG uN uF xA) (x y : Int32) (xB xD xE xF xG : sx_C) : ∃ r1, f_X11_ifLine N uG uN x y uF = some r1 ∧ ∃ r2, f_X12_ifLine N xA x y xB xD xE xF xG = some r2 ∧ r1.1 = r2.1 ∧ ∃ u' v', fNet r1.2 u' v' := by
  obtain ⟨hN, hM, hF, ⟨e7, e8, e11⟩, -⟩ := hC
  have hL : L ≤ 14 := (cN_8 hN).2.2.2
  unfold f_X11_ifLine f_X12_ifLine
  rcases line_cases hN hM x with ⟨a, b⟩ | ⟨i, i1, rfl, i3, i4⟩
  · simp only [a, b, Option.bind_some, Bool.false_eq_true, ↓reduceIte]
    exact ⟨_, rfl, _, rfl, rfl, hF⟩
  · simp only [i3, i4, cisOpen_ok hN (by omega : i < 32), misOpen_ok hM (by omega : i < 32), Option.bind_some, ↓reduceIte]
    rw [e7, e8]
    rcases int_01 y with h | ⟨h, h2, -⟩ | ⟨m, m1, rfl, h, h2, -⟩
    · rw [if_pos h, if_pos h]; exact ⟨_, rfl, _, rfl, rfl, hF⟩
    · rw [if_neg h, if_neg h, if_neg h2, if_neg h2]; exact ⟨_, rfl, _, rfl, rfl, hF⟩
    · rw [if_neg h, if_neg h, if_pos h2, if_pos h2]
      cases ho : bt (opn L (gi uG 12) (gi uG 13)) i
      · exact ⟨_, rfl, _, rfl, rfl, hF⟩
      · rw [if_pos rfl, if_pos rfl]
        by_cases h0 : nI m = 0
        · rw [if_pos h0, if_pos h0]
          obtain ⟨k, uF1, a1, a2, a3, a4⟩ := lacking_ok (by omega : 20 ≤ N) hN hF (gi uG 12 ||| sp_shl 1 (nI i)) (gi uG 13)
          obtain ⟨xD1, xE1, xF1, xG1, b1⟩ := outcomeOf_ok hf hM (gi uG 12 ||| sp_shl 1 (nI i)) (gi uG 13) xD xE xF xG a3
          unfold f_X11_ifLine_78
          simp only [a2, outBy_ok a1, b1, Option.bind_some]
          exact ⟨_, rfl, _, rfl, rfl, a4⟩
        · rw [if_neg h0, if_neg h0]
          obtain ⟨k, uF1, a1, a2, a3, a4⟩ := lacking_ok (by omega : 20 ≤ N) hN hF (gi uG 12) (gi uG 13 ||| sp_shl 1 (nI i))
          obtain ⟨xD1, xE1, xF1, xG1, b1⟩ := outcomeOf_ok hf hM (gi uG 12) (gi uG 13 ||| sp_shl 1 (nI i)) xD xE xF xG a3
          unfold f_X11_ifLine_78
          simp only [a2, outBy_ok a1, b1, Option.bind_some]
          exact ⟨_, rfl, _, rfl, rfl, a4⟩
end
