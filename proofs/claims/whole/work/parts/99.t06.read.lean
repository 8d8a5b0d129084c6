/-! ===== text: sentence by sentence ===== -/
section
variable {N : Nat} {uG xA : sx_C} {e : Nat}
theorem w_1 : ∀ w, w < 9 → (nI w = 1 ↔ w = 1) ∧ (nI w - 1 = 0 ↔ w = 1) := by decide +kernel
theorem sent_ok (hf : 2000 ≤ N) (hT : tpR uG xA e) {q K L A B : Nat} {u v : Nat → Nat} {uD uR xC : sx_C} (hd : dR K L A B u v uD xC) (hg : fgR e K uR xC) (he : eR uR xC) (ht : tkR N uG e q uR xC) (hne : ¬ gi xC 30 = 3) : ∃ b uD' uR' xC', f_X9_sentence N uG uD uR = some (b, uD', uR') ∧ f_X12_readLine N xA xC = f_X12_readLine_113 N xA xC' ∧ oR N uG e (q + 1) b uD' uR' xC' := by
  obtain ⟨w, w1, w2, w3⟩ := word_k ht
  obtain ⟨j1, j2⟩ := w_1 w w1
  have h0 := hg.2.2.1
  have hK := hd.1.2.2.2.2.2.1
  obtain ⟨u5, c5, r1, r2, r3⟩ := refuse_ok h0 ht (x := 1) (by decide)
  have hm : f_X12_readLine N xA xC = f_X12_readLine_15 N xA (nI w - 1) xC := by
    unfold f_X12_readLine
    rcases w3 with ⟨a, b⟩ | ⟨a, b⟩
    · rw [if_pos a, b]
    · rw [if_neg a, b]; rfl
  rw [hm]
  unfold f_X9_sentence f_X12_readLine_15
  simp only [w2, Option.bind_some]
  rcases hg.2.2.2.2 with ⟨g8, g15, gK⟩ | ⟨g8, g15⟩
  · rw [if_pos g8]
    by_cases hw : w = 1
    · rw [if_pos (j1.mpr hw), if_pos (j2.mpr hw)]
      obtain ⟨b, uD', uR', xC', k1, k2, k3⟩ := knots_ok hf hT hd hg he ht hne
      unfold f_X9_sentence_23 f_X12_readLine_35
      rw [if_pos (j1.mpr hw), if_pos (j2.mpr hw), k1, k2]
      exact ⟨b, uD', uR', xC', rfl, rfl, k3⟩
    · rw [if_neg (fun h => hw (j1.mp h)), if_neg (fun h => hw (j2.mp h)), if_pos g15, r1, r2]
      exact ⟨false, uD, u5, c5, rfl, rfl, Or.inr ⟨rfl, r3⟩⟩
  · have hKn : ¬ gi xC 15 = 0 := by
      rw [g15]
      exact fun h => by have := (nz (by omega)).mp h; omega
    have h35 : (if nI w - 1 = 0 then f_X12_readLine_35 N xA (nI w - 1) xC else if gi xC 15 = 0 then Option.bind (f_X12_wrong 1 xC) (fun q3 => f_X12_readLine_113 N xA q3) else f_X12_readLine_35 N xA (nI w - 1) xC) = f_X12_readLine_35 N xA (nI w - 1) xC := by
      rw [if_neg hKn]
      split <;> rfl
    rw [h35, if_neg (by rw [g8]; decide)]
    have h30 : w ≠ 0 → gi xC 30 = 0 := fun h => by
      rcases w3 with ⟨a, b⟩ | ⟨a, b⟩
      · exact a
      · exact absurd b h
    have bad : ∃ b uD' uR' xC', Option.bind (f_X9_refuse 1 uR) (fun q13 => some (q13.1, uD, q13.2)) = some (b, uD', uR') ∧ Option.bind (f_X12_wrong 1 xC) (fun q10 => f_X12_readLine_113 N xA q10) = f_X12_readLine_113 N xA xC' ∧ oR N uG e (q + 1) b uD' uR' xC' := by
      rw [r1, r2]
      exact ⟨false, uD, u5, c5, rfl, rfl, Or.inr ⟨rfl, r3⟩⟩
    unfold f_X9_sentence_23 f_X12_readLine_35
    rcases (show w = 0 ∨ w = 1 ∨ w = 2 ∨ w = 3 ∨ w = 4 ∨ w = 5 ∨ w = 6 ∨ w = 7 ∨ w = 8 by omega) with e1 | e1 | e1 | e1 | e1 | e1 | e1 | e1 | e1
    · subst e1
      rw [if_neg (by decide), if_neg (by decide), if_neg (by decide), if_neg (by decide), if_neg (by decide), if_neg (by decide), if_neg (by decide), if_neg (by decide), if_neg (by decide), if_neg (by decide), if_neg (by decide), if_neg (by decide)]
      exact bad
    · subst e1
      obtain ⟨b, uD', uR', xC', k1, k2, k3⟩ := knots_ok hf hT hd hg he ht hne
      rw [if_pos (by decide), if_pos (by decide), k1, k2]
      exact ⟨b, uD', uR', xC', rfl, rfl, k3⟩
    · subst e1
      obtain ⟨b, uD', uR', xC', k1, k2, k3⟩ := ends_ok hf hT hd hg he g8 g15 ht (h30 (by decide))
      rw [if_neg (by decide), if_pos (by decide), if_neg (by decide), if_pos (by decide), k1, k2]
      exact ⟨b, uD', uR', xC', rfl, rfl, k3⟩
    · subst e1
      obtain ⟨b, uD', uR', xC', k1, k2, k3⟩ := lineS_ok hf hT hd hg he g8 g15 ht (h30 (by decide))
      rw [if_neg (by decide), if_neg (by decide), if_pos (by decide), if_neg (by decide), if_neg (by decide), if_pos (by decide), k1, k2]
      exact ⟨b, uD', uR', xC', rfl, rfl, k3⟩
    · subst e1
      obtain ⟨b, uD', uR', xC', k1, k2, k3⟩ := stand_ok hf hT hd hg he g8 ht (h30 (by decide)) (x := 1) (Or.inr rfl)
      rw [if_neg (by decide), if_neg (by decide), if_neg (by decide), if_pos (by decide), if_neg (by decide), if_neg (by decide), if_neg (by decide), if_pos (by decide), k1, k2]
      exact ⟨b, uD', uR', xC', rfl, rfl, k3⟩
    · subst e1
      obtain ⟨b, uD', uR', xC', k1, k2, k3⟩ := stand_ok hf hT hd hg he g8 ht (h30 (by decide)) (x := 0) (Or.inl rfl)
      rw [if_neg (by decide), if_neg (by decide), if_neg (by decide), if_neg (by decide), if_pos (by decide), if_neg (by decide), if_neg (by decide), if_neg (by decide), if_neg (by decide), if_pos (by decide), k1, k2]
      exact ⟨b, uD', uR', xC', rfl, rfl, k3⟩
    · subst e1
      obtain ⟨b, uD', uR', xC', k1, k2, k3⟩ := first_ok hf hT hd hg he g8 ht (h30 (by decide))
      rw [if_neg (by decide), if_neg (by decide), if_neg (by decide), if_neg (by decide), if_neg (by decide), if_pos (by decide), if_neg (by decide), if_neg (by decide), if_neg (by decide), if_neg (by decide), if_neg (by decide), if_pos (by decide), k1, k2]
      exact ⟨b, uD', uR', xC', rfl, rfl, k3⟩
    · subst e1
      rw [if_neg (by decide), if_neg (by decide), if_neg (by decide), if_neg (by decide), if_neg (by decide), if_neg (by decide), if_neg (by decide), if_neg (by decide), if_neg (by decide), if_neg (by decide), if_neg (by decide), if_neg (by decide)]
      exact bad
    · subst e1
      rw [if_neg (by decide), if_neg (by decide), if_neg (by decide), if_neg (by decide), if_neg (by decide), if_neg (by decide), if_neg (by decide), if_neg (by decide), if_neg (by decide), if_neg (by decide), if_neg (by decide), if_neg (by decide)]
      exact bad
theorem stop_f {xC : sx_C} (h : ¬ gi xC 32 = 0) : f_X12_readLine_113 N xA xC = some (si xC 24 (gi xC 24 + 1)) := by
  unfold f_X12_readLine_113 f_X12_readLine_133
  rw [if_neg h, goOn_f h]
  rfl
/-- what the reading came to -/
def endR (b : Bool) (uD uR xC : sx_C) : Prop := (b = true ∧ ∃ K L A B u v, dR K L A B u v uD xC ∧ gi xC 32 = 0 ∧ gi uR 11 = 0 ∧ gi uR 12 = -1 ∧ ((gi xC 15 = 0 ∧ K = 2) ∨ gi xC 15 = nI K)) ∨ (b = false ∧ flR uR xC)
theorem read_ok (hf : 2000 ≤ N) (hT : tpR uG xA e) : ∀ fu q x K L A B u v (uD uR xC : sx_C), e + 1 - q < fu → x ≤ q → x ≤ 700 → dR K L A B u v uD xC → fgR e K uR xC → eR uR xC → tkR N uG e q uR xC → ∃ b uD' uR' xC', f_X9_read_56 N uG fu (nI x) uD uR = some (b, uD', uR') ∧ f_X12_readText_69 N xA fu xC = some xC' ∧ endR b uD' uR' xC' := by
  have h600 := hT.1
  intro fu
  induction fu with
  | zero => intro q x K L A B u v uD uR xC h; omega
  | succ fu ih =>
    intro q x K L A B u v uD uR xC hfu hxq hx hd hg he ht
    have h0 := hg.2.2.1
    unfold f_X9_read_56 f_X12_readText_69
    rw [if_pos h0]
    have fin : ∃ b uD' uR' xC', some (true, uD, uR) = some (b, uD', uR') ∧ some xC = some xC' ∧ endR b uD' uR' xC' := ⟨true, uD, uR, xC, rfl, rfl, Or.inl ⟨rfl, K, L, A, B, u, v, hd, h0, hg.2.2.2.1.1, hg.2.2.2.1.2, by
      rcases hg.2.2.2.2 with ⟨-, a, b⟩ | ⟨-, a⟩
      · exact Or.inl ⟨a, b⟩
      · exact Or.inr a⟩⟩
    have kind : (gi uR 4 = 0 ∧ gi xC 30 = 3) ∨ (¬ gi uR 4 = 0 ∧ ¬ gi xC 30 = 3 ∧ q < e) := by
      obtain ⟨s, p, a1, a2, a3, a4, a5, a6, a7, a8⟩ := ht
      rcases a8 with ⟨a, b, -⟩ | ⟨c, a, b, -⟩ | ⟨c, a, b, -⟩ | ⟨c, a, b⟩ | ⟨c, a, b⟩
      · exact Or.inl ⟨a, b⟩
      all_goals exact Or.inr ⟨by rw [a]; decide, by rw [b]; decide, by omega⟩
    rcases kind with ⟨k1, k2⟩ | ⟨k1, k2, k3⟩
    · rw [if_pos k2, if_pos k1]
      by_cases h6 : (600 : Int32) ≤ nI x
      · rw [if_pos h6]; exact fin
      · rw [if_neg h6]; exact fin
    · rw [if_neg k2, if_neg k1, if_neg (show ¬ (600 : Int32) ≤ nI x from fun h => by have := (nle (a := 600) (by omega) (by omega)).mp h; omega)]
      obtain ⟨b, uD1, u1, c1, s1, s2, s3⟩ := sent_ok hf hT hd hg he ht k2
      rw [s1, s2, Option.bind_some]
      rcases s3 with ⟨rfl, K', L', A', B', u', v', hd1, hg1, he1, h81, ht1⟩ | ⟨rfl, hfl⟩
      · simp only [↓reduceIte]
        have h01 := hg1.2.2.1
        unfold f_X9_stop f_X12_readLine_113 f_X12_readLine_133
        rw [if_pos h01]
        have semi : (gi u1 4 = 3 ∧ gi c1 30 = 2) ∨ (¬ gi u1 4 = 3 ∧ ¬ gi c1 30 = 2) := by
          obtain ⟨s, p, a1, a2, a3, a4, a5, a6, a7, a8⟩ := ht1
          rcases a8 with ⟨a, b, -⟩ | ⟨c, a, b, -⟩ | ⟨c, a, b, -⟩ | ⟨c, a, b⟩ | ⟨c, a, b⟩
          · exact Or.inr (by rw [a, b]; decide)
          · exact Or.inr (by rw [a, b]; decide)
          · exact Or.inr (by rw [a, b]; decide)
          · exact Or.inl ⟨a, b⟩
          · exact Or.inr (by rw [a, b]; decide)
        rcases semi with ⟨m1, m2⟩ | ⟨m1, m2⟩
        · obtain ⟨u3, c3, g3, o3, t3, f3⟩ := go_ok hf hT hg1 ht1 (by rw [m2]; decide)
          have hg3 := fgR_t hg1 f3
          have hd3 := dR_t hd1 f3
          have he3 := eR_t he1 f3
          rw [if_pos m1, if_pos m2]
          simp only [g3, o3, Option.bind_some, ↓reduceIte]
          rw [show nI x + 1 = nI (x + 1) from nadd x 1]
          refine ih (q + 1 + 1) (x + 1) K' L' A' B' u' v' _ u3 _ (by omega) (by omega) (by omega) ?_ ?_ ?_ ?_
          · obtain ⟨D1, D2, ⟨m5, m6, m7, m8⟩, m9⟩ := hd3
            refine ⟨D1, D2, ⟨m5, m6, m7, ?_⟩, m9⟩
            show gi c3 24 + 1 = gi uD1 6 + 1
            rw [m8]
          · exact hg3
          · exact he3
          · exact tk_cong t3 rfl rfl rfl rfl rfl rfl rfl rfl
        · obtain ⟨u5, c5, r1, r2, r3⟩ := refuse_ok h01 ht1 (x := 1) (by decide)
          rw [if_neg m1, if_neg m2, r1, r2]
          simp only [Option.bind_some, goOn_f r3.2.2, Bool.false_eq_true, ↓reduceIte]
          have hnf : ¬ gi (si c5 24 (gi c5 24 + 1)) 32 = 0 := r3.2.2
          obtain ⟨fu', rfl⟩ : ∃ f, fu = f + 1 := ⟨fu - 1, by omega⟩
          unfold f_X12_readText_69
          rw [if_neg hnf]
          exact ⟨false, _, u5, _, rfl, rfl, Or.inr ⟨rfl, r3⟩⟩
      · rw [stop_f hfl.2.2]
        simp only [Option.bind_some, Bool.false_eq_true, ↓reduceIte]
        have hnf : ¬ gi (si c1 24 (gi c1 24 + 1)) 32 = 0 := hfl.2.2
        obtain ⟨fu', rfl⟩ : ∃ f, fu = f + 1 := ⟨fu - 1, by omega⟩
        unfold f_X12_readText_69
        rw [if_neg hnf]
        exact ⟨false, _, u1, _, rfl, rfl, Or.inr ⟨rfl, hfl⟩⟩
end
