/-! ===== text ===== -/
theorem lo_text {N : Nat} (hf : 200000 ≤ N) : LO_text N (sI LKd) := by
  rintro uG uN uD uR uF uP uL uTT uA uM uH xA xB xC xD xE xF xG xH xI xJ xK xL x ⟨K, L, A, B, u, v, hC, hH, ⟨t, t1, t2, t3, t4⟩, hX, hLK⟩
  have hsame : ∀ xB', sI LKd uG uN uD uR uF uP uL uTT uA uM uH xA xB' xC xD xE xF xG xH xI xJ xK xL := fun _ => ⟨K, L, A, B, u, v, hC, hH, ⟨t, t1, t2, t3, t4⟩, hX, hLK⟩
  unfold f_X11_text f_X12_text
  by_cases hx0 : x < 0
  · rw [if_pos hx0, if_pos hx0]
    exact ⟨_, rfl, _, rfl, rfl, hsame _⟩
  rw [if_neg hx0, if_neg hx0, t2, t3]
  by_cases hxt : x ≤ nI t
  · rw [if_pos hxt, if_pos hxt]
    obtain ⟨e, e1, rfl⟩ := n_pos (fa_of_nlt hx0)
    have het : e ≤ t := (nle (by omega) (by omega)).mp hxt
    have hT : tpR (si uG 11 0) xA e := ⟨by omega, fun i hi => t4 i (by omega)⟩
    obtain ⟨G0, hG0⟩ : ∃ G0, G0 = si uG 11 0 := ⟨_, rfl⟩
    rw [← hG0] at hT ⊢
    -- the reading
    have hread : ∃ b uD' uR' xC', f_X9_read N G0 (nI e) uD uR = some (b, uD', uR') ∧ f_X12_readText N xA (nI e) xC = some xC' ∧ endR b uD' uR' xC' := by
      unfold f_X9_read f_X12_readText f_J9_min_7cf53 f_X6d_wipe
      rw [if_neg (show ¬ (600 : Int32) < nI e from fun h => by have := (nlt (a := 600) (by omega) (by omega)).mp h; omega)]
      simp only [Option.bind_some]
      obtain ⟨UR0, hUR⟩ : ∃ r, r = si (si (si (si (si (si (si uR 2 (nI e)) 3 0) 8 0) 9 0) 10 0) 11 0) 12 (-1) := ⟨_, rfl⟩
      obtain ⟨C0, hC0⟩ : ∃ r, r = si (si (si (si (si (si (si (si (si (si (si (si (si xC 15 0) 16 0) 19 0) 20 0) 21 0) 22 1) 23 1) 24 0) 25 0) 26 0) 27 (nI e)) 28 0) 32 0 := ⟨_, rfl⟩
      obtain ⟨u1, c1, a1, a2, a3, a4⟩ := step_ok (by omega : 2000 ≤ N) hT N 0 UR0 C0 (by omega) (by omega) (by rw [hUR]; rfl) (by rw [hUR]; rfl) (by rw [hC0]; rfl) (by rw [hC0]; rfl)
      unfold f_X9_step f_X12_token
      rw [← hUR, ← hC0, a1, a2]
      simp only [Option.bind_some]
      have hz : ∀ z, ¬ bt 0 z = true := fun z h => by
        by_cases hz : z < 32
        · have := h_nI (n := 0) z hz
          rw [Nat.zero_testBit] at this
          have h : bt (nI 0) z = true := h
          rw [this] at h; cases h
        · rw [b_big (by omega)] at h; cases h
      have hd0 : dR 2 0 0 1 (fun _ => 0) (fun _ => 0) (si (si (si (si (si (si (si (si uD 2 2) 3 0) 4 1) 5 0) 6 0) 7 0) 8 0) 9 1) C0 := by
        rw [hC0]
        exact ⟨⟨rfl, rfl, rfl, rfl, fun i hi => by omega, ⟨by omega, by omega, by omega⟩, ⟨by omega, by omega⟩, fun i => ⟨show (0 : Nat) < 2 by decide, show (0 : Nat) < 2 by decide⟩⟩, ⟨rfl, fun i hi => by omega, rfl, rfl⟩, ⟨rfl, rfl, rfl, rfl⟩, ⟨1, by decide, rfl⟩, fun z h => absurd h (hz z), fun z h => absurd h (hz z), fun z h => absurd h.1 (hz z)⟩
      have hg0 : fgR e 2 UR0 C0 := by
        rw [hUR, hC0]
        exact ⟨rfl, rfl, rfl, ⟨rfl, rfl⟩, Or.inl ⟨rfl, rfl, rfl⟩⟩
      have he0 : eR UR0 C0 := by
        rw [hUR, hC0]
        exact ⟨rfl, rfl⟩
      exact read_ok (by omega : 2000 ≤ N) hT N 0 0 2 0 0 1 _ _ _ u1 c1 (by omega) (by omega) (by omega) (dR_t hd0 a4) (fgR_t hg0 a4) (eR_t he0 a4) a3
    obtain ⟨b, uD', uR', xC', r1, r2, r3⟩ := hread
    rw [r1, r2]
    simp only [Option.bind_some]
    rcases r3 with ⟨rfl, K', L', A', B', u', v', hd, h32, h11, h12, h15⟩ | ⟨rfl, hfl⟩
    · simp only [↓reduceIte]
      rw [if_pos h32]
      unfold f_X12_text_54 f_X11_beginDraft f_X6_copy f_X2_forgetAll f_X4_forgetAll
      rw [if_pos h32]
      have hsel : (if gi xC' 15 = 0 then f_X12_text_82 N 2 (si (si (si xA 2 0) 34 (gi xC' 32)) 35 (-1)) (si xB 0 0) xC' else f_X12_text_82 N (gi xC' 15) (si (si (si xA 2 0) 34 (gi xC' 32)) 35 (-1)) (si xB 0 0) xC') = f_X12_text_82 N (nI K') (si (si (si xA 2 0) 34 (gi xC' 32)) 35 (-1)) (si xB 0 0) xC' := by
        rcases h15 with ⟨a, b⟩ | a
        · rw [if_pos a, b]; rfl
        · rw [a]
          have := hd.1.2.2.2.2.2.1
          rw [if_neg (fun h => by have := (nz (by omega)).mp h; omega)]
      rw [hsel]
      unfold f_X12_text_82
      obtain ⟨⟨d1, d2, d3, d4, d5, ⟨d6, d7, d8⟩, d9, d11⟩, ⟨m1, m2, m3, m4⟩, ⟨m5, m6, m7, m8⟩, m9, b1, b2, b3⟩ := hd
      obtain ⟨W0, hW0⟩ : ∃ w, w = si (si (si (si (si xA 2 0) 34 (gi xC' 32)) 35 (-1)) 3 (nI K')) 4 (gi xC' 16) := ⟨_, rfl⟩
      rw [← hW0]
      have hW04 : gi W0 4 = nI L' := by rw [hW0]; exact m1
      have loop : ∀ fu i (w : sx_C), L' - i < fu → i ≤ L' → (∀ k, gi w k = gi W0 k) → (∀ k, k ≠ 5 → k ≠ 6 → ga w k = ga W0 k) → (∀ j, j < i → ga w 5 j = nI (u' j) ∧ ga w 6 j = nI (v' j)) → ∃ w', f_X12_text_95 N fu (nI i) w (si xB 0 0) xC' = some (gi xC' 24, (si (si (si (si (si (si (si w' 7 (gi xC' 19)) 8 (gi xC' 20)) 9 (gi xC' 21)) 10 (gi xC' 22)) 11 (gi xC' 23)) 12 (gi xC' 24)) 14 0), si xB 0 0, xC') ∧ (∀ k, gi w' k = gi W0 k) ∧ (∀ k, k ≠ 5 → k ≠ 6 → ga w' k = ga W0 k) ∧ ∀ j, j < L' → ga w' 5 j = nI (u' j) ∧ ga w' 6 j = nI (v' j) := by
        intro fu
        induction fu with
        | zero => intro i w h; omega
        | succ fu ih =>
          intro i w hfu hi w1 w2 w3
          unfold f_X12_text_95
          rw [w1 4, hW04]
          by_cases hc : L' ≤ i
          · rw [if_pos ((nle (by omega) (by omega)).mpr hc)]
            exact ⟨w, rfl, w1, w2, fun j hj => w3 j (by omega)⟩
          · rw [if_neg (fun h => hc ((nle (by omega) (by omega)).mp h)), rd_ok (by omega) (by decide), rd_ok (by omega) (by decide)]
            simp only [Option.bind_some]
            rw [if_pos (in_ok (by omega) (by decide)), if_pos (in_ok (by omega) (by decide)), nI_clamp (by omega), show nI i + 1 = nI (i + 1) from nadd i 1, (m2 i (by omega)).1, (m2 i (by omega)).2]
            refine ih (i + 1) _ (by omega) (by omega) (fun k => w1 k) (fun k k1 k2 => ?_) (fun j hj => ?_)
            · rw [ga_sa, if_neg k2, ga_sa, if_neg k1]; exact w2 k k1 k2
            · rw [ga_up, ga_sa (sa w 5 i (nI (u' i))), if_neg (by decide), ga_up]
              by_cases ej : j = i
              · rw [if_pos ej, if_pos ej, ej]; exact ⟨rfl, rfl⟩
              · rw [if_neg ej, if_neg ej, ga_sa, if_neg (by decide)]
                exact w3 j (by omega)
      obtain ⟨w', l1, l2, l3, l4⟩ := loop N 0 W0 (by omega) (by omega) (fun _ => rfl) (fun _ _ _ => rfl) (fun j hj => by omega)
      have l1 : f_X12_text_95 N N 0 W0 (si xB 0 0) xC' = _ := l1
      rw [l1]
      simp only [Option.bind_some]
      refine ⟨_, rfl, _, rfl, m8.symm, K', L', A', B', u', v', ?_, ?_⟩
      · refine ⟨⟨d1, d2, d3, d4, fun i hi => ?_, ⟨d6, d7, d8⟩, d9, d11⟩, ⟨?_, m3, m4, ?_, fun i hi => l4 i hi, ⟨d6, d7, by omega⟩, d9, d11⟩, hC.2.2.1, ⟨m5, m6, m7⟩, m9, b1, b2, b3⟩
        · have hcp : ∀ f g : Nat → Int32, va_cpy f g 0 0 14 i = f i := fun f g => by
            unfold va_cpy
            simp
            omega
          have a : va_cpy (ga uD' 0) (ga uN 0) 0 0 14 i = nI (u' i) := by rw [hcp]; exact (d5 i hi).1
          have b : va_cpy (ga uD' 1) (ga (sw uN 0 (va_cpy (ga uD' 0) (ga uN 0) 0 0 14)) 1) 0 0 14 i = nI (v' i) := by rw [hcp]; exact (d5 i hi).2
          exact ⟨a, b⟩
        · show gi w' 3 = nI K'
          rw [l2, hW0]; rfl
        · show gi w' 4 = nI L'
          rw [l2]; exact hW04
      · refine ⟨⟨0, 0, by decide, by decide, rfl, rfl, rfl, fun k hk => by omega⟩, ⟨0, by decide, ?_, ?_, fun i hi => by omega⟩, ⟨?_, ?_, m8⟩, Or.inl rfl⟩
        · rw [hG0]; rfl
        · show gi w' 2 = nI 0
          rw [l2, hW0]; rfl
        · show gi w' 34 = gi uR' 11
          rw [l2, hW0, h11]; exact h32
        · show gi w' 35 = gi uR' 12
          rw [l2, hW0, h12]; rfl
    · simp only [Bool.false_eq_true, ↓reduceIte]
      rw [if_neg hfl.2.2]
      unfold f_X12_text_54
      rw [if_neg hfl.2.2]
      refine ⟨_, rfl, _, rfl, rfl, K, L, A, B, u, v, ?_, ?_⟩
      · rw [hG0]; exact hC
      · rw [hG0]
        exact ⟨hH, ⟨0, by decide, rfl, rfl, fun i hi => by omega⟩, ⟨hfl.1, hfl.2.1, hX.2.2⟩, hLK⟩
  · rw [if_neg hxt, if_neg hxt]
    exact ⟨_, rfl, _, rfl, rfl, hsame _⟩
