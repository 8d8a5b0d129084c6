theorem isForest_ok {N : Nat} (hf : 20 ≤ N) {xA xE : sx_C} {K L A B : Nat} {u v : Nat → Nat} (hN : mNet xA K L A B u v) {f : Nat → Nat} (hE : ∀ k, k < K → ga xE 37 k = nI (f k)) (hfK : ∀ k, k < K → f k < K) {u' v' : Nat → Nat} (hk : ∀ i, u' i < 8 ∧ v' i < 8) (hu : ∀ i, i < L → u' i = f (u i) ∧ v' i = f (v i)) (x : Int32) (xF : sx_C) : ∃ b xF', f_X12_isForest N xA xE x xF = some (b, xF') ∧ (b = true ↔ qInd (rk u' v') (bL x L)) := by
  obtain ⟨h1, h2, h3, h4, h5, ⟨h6, h7, h8⟩, h9, h10⟩ := id hN
  have M := gs_mat hk
  have hS : ∀ i, i < L → (bL x L i = true ↔ bt x i = true) := fun i hi => by
    unfold bL
    have : decide (i < L) = true := by simp; omega
    rw [this, Bool.and_true]
  have hku : ∀ i, i < L → u' i < K ∧ v' i < K := fun i hi => by rw [(hu i hi).1, (hu i hi).2]; exact ⟨hfK _ (h10 i).1, hfK _ (h10 i).2⟩
  -- the labels of the rows: as those of lb, but by other names
  have loop : ∀ n i (w : sx_C) (t : Nat → Nat), L - i < n → i ≤ L → (∀ k, k < K → ga w 38 k = nI (t k) ∧ t k < 8) → (∀ k l, k < K → l < K → (t k = t l ↔ lb u' v' (bL x L) i k = lb u' v' (bL x L) i l)) → (∀ i', i' < i → bL x L i' = true → gs u' v' (qR (bL x L) i') i' = false) → ∃ b xF', f_X12_isForest_25 N xA xE n x (nI i) w = some (b, xF') ∧ (b = true ↔ qInd (rk u' v') (bL x L)) := by
    intro n
    induction n with
    | zero => intro i w t hn; omega
    | succ n ih =>
      intro i w t hn hi ht hker hok
      unfold f_X12_isForest_25
      rw [h4]
      by_cases hc : L ≤ i
      · rw [if_pos ((nle (by omega) (by omega)).mpr hc)]
        refine ⟨true, w, rfl, fun _ => (ind_R M _).mpr (fun z _ hz => hok z (by have := bL_lt hz; omega) hz), fun _ => rfl⟩
      · rw [if_neg (fun h => hc ((nle (by omega) (by omega)).mp h))]
        have hiL : i < L := by omega
        have e1 : nI i + 1 = nI (i + 1) := nadd i 1
        by_cases hb : bt x i = true
        · rw [if_neg (fun h => by rw [(shr_ok x (by omega)).2, hb] at h; cases h)]
          obtain ⟨ku, kv⟩ := hku i hiL
          have r0 : sp_rd (ga xA 5) 17 (nI i) = some (nI (u i)) := by rw [rd_ok (by omega) (by decide), (h5 i hiL).1]
          have r1 : sp_rd (ga xA 6) 17 (nI i) = some (nI (v i)) := by rw [rd_ok (by omega) (by decide), (h5 i hiL).2]
          have r2 : sp_rd (ga xE 37) 8 (nI (u i)) = some (nI (u' i)) := by
            have := (h10 i).1
            rw [rd_ok (by omega) (by decide), hE _ this, (hu i hiL).1]
          have r3 : sp_rd (ga xE 37) 8 (nI (v i)) = some (nI (v' i)) := by
            have := (h10 i).2
            rw [rd_ok (by omega) (by decide), hE _ this, (hu i hiL).2]
          have r4 : sp_rd (ga w 38) 8 (nI (u' i)) = some (nI (t (u' i))) := by rw [rd_ok (by omega) (by decide), (ht _ ku).1]
          have r5 : sp_rd (ga w 38) 8 (nI (v' i)) = some (nI (t (v' i))) := by rw [rd_ok (by omega) (by decide), (ht _ kv).1]
          simp only [r0, r1, r2, r3, r4, r5, Option.bind_some]
          have tu := (ht _ ku).2
          have tv := (ht _ kv).2
          have hgs : gs u' v' (qR (bL x L) i) i = decide (t (u' i) = t (v' i)) := by
            unfold gs
            rw [← lb_R u' v' (bL x L) (by omega : i ≤ 32)]
            have := hker (u' i) (v' i) ku kv
            by_cases h : t (u' i) = t (v' i)
            · rw [this.mp h]; simp [h]
            · have h' : ¬ lb u' v' (bL x L) i (u' i) = lb u' v' (bL x L) i (v' i) := fun e => h (this.mpr e)
              simp [h, h']
          by_cases heq : t (u' i) = t (v' i)
          · rw [if_pos (by rw [heq])]
            refine ⟨false, w, rfl, fun h => (by cases h), fun h => ?_⟩
            have := (ind_R M _).mp h i (by omega) ((hS i hiL).mpr hb)
            rw [hgs] at this
            simp [heq] at this
          · rw [if_neg (fun h => heq ((neq (by omega) (by omega)).mp h))]
            -- the second's name becomes the first's
            have inner : ∀ m k0 (w : sx_C), K - k0 < m → k0 ≤ K → (∀ k, k < K → ga w 38 k = nI (if k < k0 then (if t k = t (v' i) then t (u' i) else t k) else t k)) → ∃ w', f_X12_isForest_90 N (f_X12_isForest_25 N xA xE n) xA xE m x (nI i) (nI (t (u' i))) (nI (t (v' i))) (nI k0) w = f_X12_isForest_25 N xA xE n x (nI i + 1) w' ∧ ∀ k, k < K → ga w' 38 k = nI (if t k = t (v' i) then t (u' i) else t k) := by
              intro m
              induction m with
              | zero => intro k0 w hm; omega
              | succ m ihm =>
                intro k0 w hm hk0 hw
                unfold f_X12_isForest_90
                rw [h1]
                by_cases hc2 : K ≤ k0
                · rw [if_pos ((nle (by omega) (by omega)).mpr hc2)]
                  exact ⟨w, rfl, fun k hk2 => by rw [hw k hk2, if_pos (by omega)]⟩
                · rw [if_neg (fun h => hc2 ((nle (by omega) (by omega)).mp h)), rd_ok (by omega) (by decide), hw k0 (by omega), if_neg (by omega)]
                  have tk := (ht k0 (by omega)).2
                  have e2 : nI k0 + 1 = nI (k0 + 1) := nadd k0 1
                  have go : ∀ s : Int32, s = nI (if t k0 = t (v' i) then t (u' i) else t k0) → ∃ w', f_X12_isForest_128 N (f_X12_isForest_25 N xA xE n) (f_X12_isForest_90 N (f_X12_isForest_25 N xA xE n) xA xE m) xA xE x (nI i) (nI (t (u' i))) (nI (t (v' i))) (nI k0) (nI k0) s w = f_X12_isForest_25 N xA xE n x (nI i + 1) w' ∧ ∀ k, k < K → ga w' 38 k = nI (if t k = t (v' i) then t (u' i) else t k) := by
                    intro s hs
                    unfold f_X12_isForest_128
                    rw [if_pos (in_ok (by omega) (by decide)), nI_clamp (by omega), e2]
                    refine ihm (k0 + 1) _ (by omega) (by omega) (fun k hk2 => ?_)
                    rw [ga_up]
                    by_cases h11 : k = k0
                    · rw [if_pos h11, if_pos (show k < k0 + 1 by omega), hs, h11]
                    · rw [if_neg h11, hw k hk2]
                      by_cases h12 : k < k0
                      · rw [if_pos h12, if_pos (show k < k0 + 1 by omega)]
                      · rw [if_neg h12, if_neg (show ¬ k < k0 + 1 by omega)]
                  simp only [Option.bind_some]
                  by_cases h11 : t k0 = t (v' i)
                  · rw [if_pos (by rw [h11])]
                    exact go _ (by rw [if_pos h11])
                  · rw [if_neg (fun h => h11 ((neq (by omega) (by omega)).mp h))]
                    exact go _ (by rw [if_neg h11])
            obtain ⟨w', i1, i2⟩ := inner N 0 w (by omega) (by omega) (fun k hk2 => by rw [if_neg (by omega)]; exact (ht k hk2).1)
            have e0 : (0 : Int32) = nI 0 := rfl
            rw [e0, i1, e1]
            refine ih (i + 1) w' (fun k => if t k = t (v' i) then t (u' i) else t k) (by omega) (by omega) (fun k hk2 => ⟨i2 k hk2, ?_⟩) (fun k l hk2 hl2 => ?_) (fun i' hi' hs' => ?_)
            · have := (ht k hk2).2
              by_cases h : t k = t (v' i)
              · rw [if_pos h]; exact tu
              · rw [if_neg h]; exact this
            · have hlb : lb u' v' (bL x L) (i + 1) = lm (lb u' v' (bL x L) i) (u' i) (v' i) := by
                show (if bL x L i = true then _ else _) = _
                rw [if_pos ((hS i hiL).mpr hb)]
              rw [hlb]
              have a1 := hker k l hk2 hl2
              have a2 := hker k (u' i) hk2 ku
              have a3 := hker k (v' i) hk2 kv
              have a4 := hker l (u' i) hl2 ku
              have a5 := hker l (v' i) hl2 kv
              constructor
              · intro h
                have h : (if t k = t (v' i) then t (u' i) else t k) = (if t l = t (v' i) then t (u' i) else t l) := h
                by_cases hkv : t k = t (v' i) <;> by_cases hlv : t l = t (v' i)
                · exact lm_cong (a1.mp (hkv.trans hlv.symm))
                · rw [if_pos hkv, if_neg hlv] at h
                  rw [lm_cong (a3.mp hkv), lm_cong (a4.mp h.symm)]; exact (lm_ab _ _ _).symm
                · rw [if_neg hkv, if_pos hlv] at h
                  rw [lm_cong (a2.mp h), lm_cong (a5.mp hlv)]; exact lm_ab _ _ _
                · rw [if_neg hkv, if_neg hlv] at h
                  exact lm_cong (a1.mp h)
              · intro h
                show (if t k = t (v' i) then t (u' i) else t k) = (if t l = t (v' i) then t (u' i) else t l)
                rcases lm_eq h with h | ⟨ha, hb2⟩ | ⟨ha, hb2⟩
                · rw [a1.mpr h]
                · have hk3 := a2.mpr ha
                  have hl3 := a5.mpr hb2
                  rw [if_neg (fun e => heq (hk3.symm.trans e)), if_pos hl3, hk3]
                · have hk3 := a3.mpr ha
                  have hl3 := a4.mpr hb2
                  rw [if_pos hk3, if_neg (fun e => heq (hl3.symm.trans e)), hl3]
            · by_cases e : i' = i
              · rw [e, hgs]; simp [heq]
              · exact hok i' (by omega) hs'
        · have hb' : bt x i = false := by cases h : bt x i <;> simp_all
          rw [if_pos ((shr_ok x (by omega)).2.mpr hb')]
          unfold f_X12_isForest_135
          rw [e1]
          have hlb : lb u' v' (bL x L) (i + 1) = lb u' v' (bL x L) i := by
            show (if bL x L i = true then _ else _) = _
            rw [if_neg (fun h => hb ((hS i hiL).mp h))]
          refine ih (i + 1) w t (by omega) (by omega) ht (fun k l hk2 hl2 => by rw [hlb]; exact hker k l hk2 hl2) (fun i' hi' hs' => ?_)
          by_cases e : i' = i
          · rw [e] at hs'; exact absurd ((hS i hiL).mp hs') hb
          · exact hok i' (by omega) hs'
  have first : ∀ n i w, K - i < n → i ≤ K → (∀ k, k < i → ga w 38 k = nI k) → ∃ b xF', f_X12_isForest_2 N xA xE n x (nI i) w = some (b, xF') ∧ (b = true ↔ qInd (rk u' v') (bL x L)) := by
    intro n
    induction n with
    | zero => intro i w hn; omega
    | succ n ih =>
      intro i w hn hi hx
      unfold f_X12_isForest_2
      rw [h1]
      by_cases hc : K ≤ i
      · rw [if_pos ((nle (by omega) (by omega)).mpr hc)]
        exact loop N 0 w (fun k => k) (by omega) (by omega) (fun k hk2 => ⟨hx k (by omega), by omega⟩) (fun k l _ _ => Iff.rfl) (fun i' hi' => by omega)
      · rw [if_neg (fun h => hc ((nle (by omega) (by omega)).mp h)), if_pos (in_ok (by omega) (by decide)), nI_clamp (by omega)]
        have e1 : nI i + 1 = nI (i + 1) := nadd i 1
        rw [e1]
        refine ih (i + 1) _ (by omega) (by omega) (fun k hk2 => ?_)
        rw [ga_up]
        by_cases h11 : k = i
        · rw [if_pos h11, h11]
        · rw [if_neg h11]; exact hx k (by omega)
  unfold f_X12_isForest
  exact first N 0 xF (by omega) (by omega) (fun k hk2 => by omega)
