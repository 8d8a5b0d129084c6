theorem within_ok {N : Nat} (hf : 20 ≤ N) {xA xE : sx_C} {K L A B : Nat} {u v : Nat → Nat} (hN : mNet xA K L A B u v) {f : Nat → Nat} (hE : ∀ k, k < K → ga xE 37 k = nI (f k)) (hfK : ∀ k, k < K → f k < 8) {u' v' : Nat → Nat} (hu : ∀ i, i < L → u' i = f (u i) ∧ v' i = f (v i)) (x P : Int32) : ∃ m, f_X12_within N xA xE x P = some m ∧ ∀ z, bt m z = qW u' v' (bL x L) (bt P) z := by
  obtain ⟨h1, h2, h3, h4, h5, ⟨h6, h7, h8⟩, h9, h10⟩ := id hN
  have loop : ∀ n i (m : Int32), L - i < n → i ≤ L → (∀ z, bt m z = (qW u' v' (bL x L) (bt P) z && decide (z < i))) → ∃ m', f_X12_within_5 N xA xE n x P m (nI i) = some m' ∧ ∀ z, bt m' z = qW u' v' (bL x L) (bt P) z := by
    intro n
    induction n with
    | zero => intro i m hn; omega
    | succ n ih =>
      intro i m hn hi hm
      unfold f_X12_within_5
      rw [h4]
      by_cases hc : L ≤ i
      · rw [if_pos ((nle (by omega) (by omega)).mpr hc)]
        refine ⟨m, rfl, fun z => ?_⟩
        rw [hm z]
        by_cases hz : z < i
        · simp [hz]
        · have : qW u' v' (bL x L) (bt P) z = false := by
            unfold qW bL
            have : decide (z < L) = false := by simp; omega
            simp [this]
          rw [this]; rfl
      · rw [if_neg (fun h => hc ((nle (by omega) (by omega)).mp h))]
        have hiL : i < L := by omega
        have e1 : nI i + 1 = nI (i + 1) := nadd i 1
        have hdec : decide (i < L) = true := by simp; omega
        have ku := (h10 i).1
        have kv := (h10 i).2
        have r0 : sp_rd (ga xA 5) 17 (nI i) = some (nI (u i)) := by rw [rd_ok (by omega) (by decide), (h5 i hiL).1]
        have r1 : sp_rd (ga xA 6) 17 (nI i) = some (nI (v i)) := by rw [rd_ok (by omega) (by decide), (h5 i hiL).2]
        have r2 : sp_rd (ga xE 37) 8 (nI (u i)) = some (nI (u' i)) := by rw [rd_ok (by omega) (by decide), hE _ ku, (hu i hiL).1]
        have r3 : sp_rd (ga xE 37) 8 (nI (v i)) = some (nI (v' i)) := by rw [rd_ok (by omega) (by decide), hE _ kv, (hu i hiL).2]
        have u8 : u' i < 8 := by rw [(hu i hiL).1]; exact hfK _ ku
        have v8 : v' i < 8 := by rw [(hu i hiL).2]; exact hfK _ kv
        -- what the line adds
        have no : qW u' v' (bL x L) (bt P) i = false → ∃ m', f_X12_within_95 N (f_X12_within_5 N xA xE n) xA xE x P m (nI i) = some m' ∧ ∀ z, bt m' z = qW u' v' (bL x L) (bt P) z := by
          intro hw
          unfold f_X12_within_95 f_X12_within_96
          rw [if_pos rfl]
          unfold f_X12_within_112
          rw [e1]
          refine ih (i + 1) _ (by omega) (by omega) (fun z => ?_)
          rw [b_or, b_0, Bool.or_false, hm z]
          by_cases e : z = i
          · rw [e, hw]; rfl
          · have : decide (z < i + 1) = decide (z < i) := by by_cases h2 : z < i <;> simp [h2] <;> omega
            rw [this]
        have yes : qW u' v' (bL x L) (bt P) i = true → ∃ m', f_X12_within_96 N (f_X12_within_5 N xA xE n) xA xE x P m (nI i) 1 = some m' ∧ ∀ z, bt m' z = qW u' v' (bL x L) (bt P) z := by
          intro hw
          unfold f_X12_within_96
          rw [if_neg (by decide)]
          unfold f_X12_within_112
          rw [e1]
          refine ih (i + 1) _ (by omega) (by omega) (fun z => ?_)
          rw [b_or, bit_all (by omega : i < 17), hm z]
          by_cases e : z = i
          · rw [e, hw]; simp
          · have : decide (z < i + 1) = decide (z < i) := by by_cases h2 : z < i <;> simp [h2] <;> omega
            rw [this]; simp [e]
        have hq : qW u' v' (bL x L) (bt P) i = (bt x i && (!(u' i == v' i) && (bt P (u' i) && bt P (v' i)))) := by
          unfold qW bL; rw [hdec, Bool.and_true]
        by_cases hb : bt x i = true
        · rw [if_pos ((shr_ok x (by omega)).1.mpr hb)]
          simp only [r0, r1, r2, r3, Option.bind_some]
          by_cases he : u' i = v' i
          · rw [if_pos (by rw [he])]
            exact no (by rw [hq, he]; simp)
          · rw [if_neg (fun h => he ((neq (by omega) (by omega)).mp h))]
            by_cases hp1 : bt P (u' i) = true
            · rw [if_pos ((shr_ok P (by omega)).1.mpr hp1)]
              by_cases hp2 : bt P (v' i) = true
              · rw [if_pos ((shr_ok P (by omega)).1.mpr hp2)]
                exact yes (by rw [hq, hb, hp1, hp2]; simp [he])
              · rw [if_neg (fun h => hp2 ((shr_ok P (by omega)).1.mp h))]
                exact no (by rw [hq]; simp [hp2])
            · rw [if_neg (fun h => hp1 ((shr_ok P (by omega)).1.mp h))]
              exact no (by rw [hq]; simp [hp1])
        · rw [if_neg (fun h => hb ((shr_ok x (by omega)).1.mp h))]
          exact no (by rw [hq]; simp [hb])
  exact loop N 0 0 (by omega) (by omega) (fun z => by rw [b_0]; simp)
