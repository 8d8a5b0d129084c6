/-! ===== the model's settles: the way is made ===== -/
def cdF (t : Bool) : Nat := if t = true then 0 else 1
def mfk (xG : sx_C) : Bool → BS := fun t => bt (ga xG 39 (cdF t))
theorem cdF_lt (t : Bool) : cdF t < 2 := by cases t <;> decide
theorem cdF_inj {s t : Bool} (h : cdF s = cdF t) : s = t := by cases s <;> cases t <;> first | rfl | cases h
theorem settles_ok {N : Nat} (hN20 : 20 ≤ N) {xG : sx_C} {pa : Nat → Nat} {fo : Nat → Bool} {k : Nat} (hk : k < 17) (hp : ∀ i, i ≤ k → pa i < 17) (hd : ∀ i j, i < j → j ≤ k → pa i ≠ pa j) (hx : ∀ t, mfk xG t (pa 0) = false)
    (hc0 : ga xG 41 (pa 0) = -1) (hc : ∀ i, i < k → ga xG 41 (pa (i + 1)) = nI (pa i) ∧ ga xG 42 (pa (i + 1)) = nI (cdF (fo i))) (halt : ∀ i, i < k → fo (i + 1) = !fo i) :
    ∃ xG', f_X12_settles N (nI (pa k)) (nI (cdF (fo k))) xG = some xG' ∧ (∀ t z, mfk xG' t z = qG (mfk xG) pa fo k (k + 1) t z) := by
  have loop : ∀ m n (w : sx_C), n ≤ k + 1 → k + 2 - n ≤ m → (∀ q, q ≠ 39 → ga w q = ga xG q) → (∀ t z, mfk w t z = qG (mfk xG) pa fo k n t z) → ∀ (z en : Int32), (n = k + 1 → z = -1) → (n ≤ k → z = nI (pa (k - n)) ∧ en = nI (cdF (fo (k - n)))) → ∃ xG', f_X12_settles_5 N m z en w = some xG' ∧ ∀ t z, mfk xG' t z = qG (mfk xG) pa fo k (k + 1) t z := by
    intro m
    induction m with
    | zero => intro n w hn hm; omega
    | succ m ih =>
      intro n w hn hm hw hq z en hz1 hz2
      unfold f_X12_settles_5
      by_cases hnk : n = k + 1
      · rw [hz1 hnk, if_pos rfl]
        exact ⟨w, rfl, fun t y => by rw [hq t y, hnk]⟩
      · obtain ⟨hz, hen⟩ := hz2 (by omega)
        have hpz := hp (k - n) (by omega)
        have hne1 : ¬ nI (pa (k - n)) = -1 := fun h => by
          have h2 := congrArg Int32.toInt h
          rw [nI_toInt (by omega), show (-1 : Int32).toInt = -1 by decide] at h2
          omega
        rw [hz, if_neg hne1, hw 41 (by decide), hw 42 (by decide), rd_ok hpz (by decide), rd_ok hpz (by decide)]
        have hbit := bit_all hpz
        have hqs : ∀ t y, qG (mfk xG) pa fo k (n + 1) t y = if y = pa (k - n) then (fo (k - n) == t) else qG (mfk xG) pa fo k n t y := fun t y => rfl
        have hcur : ∀ t, qG (mfk xG) pa fo k n t (pa (k - n)) = mfk xG t (pa (k - n)) := fun t => qG_out n (fun j hj e => hd (k - n) (k - j) (by omega) (by omega) e)
        -- it comes in
        have come : ∀ (w' : sx_C) (by_ was : Int32), (∀ q, q ≠ 39 → ga w' q = ga xG q) → (∀ t y, mfk w' t y = if y = pa (k - n) ∧ fo (k - n) ≠ t then false else qG (mfk xG) pa fo k n t y) → (n + 1 = k + 1 → by_ = -1) → (n + 1 ≤ k → by_ = nI (pa (k - (n + 1))) ∧ was = nI (cdF (fo (k - (n + 1))))) → ∃ xG', f_X12_settles_47 N (f_X12_settles_5 N m) (nI (pa (k - n))) en by_ was w' = some xG' ∧ ∀ t z, mfk xG' t z = qG (mfk xG) pa fo k (k + 1) t z := by
          intro w' by_ was hw' hm' g1 g2
          unfold f_X12_settles_47
          have hcl := cdF_lt (fo (k - n))
          rw [hen, rd_ok hcl (by decide)]
          simp only [Option.bind_some]
          rw [if_pos (in_ok hcl (by decide)), nI_clamp (by omega)]
          refine ih (n + 1) _ (by omega) (by omega) (fun q h39 => by rw [ga_sa, if_neg h39]; exact hw' q h39) (fun t y => ?_) _ _ g1 g2
          show bt (ga (sa w' 39 (cdF (fo (k - n))) _) 39 (cdF t)) y = _
          rw [ga_up, hqs]
          by_cases ht : fo (k - n) = t
          · rw [if_pos (by rw [ht]), b_or, hbit]
            have h9 := hm' (fo (k - n)) y
            have h9 : bt (ga w' 39 (cdF (fo (k - n)))) y = _ := h9
            rw [h9, if_neg (fun h => h.2 rfl), ht]
            by_cases e : y = pa (k - n) <;> simp [e]
          · rw [if_neg (fun e => ht (cdF_inj e.symm))]
            have h9 := hm' t y
            have h9 : bt (ga w' 39 (cdF t)) y = _ := h9
            rw [h9]
            by_cases e : y = pa (k - n)
            · rw [if_pos ⟨e, ht⟩, if_pos e]; simp [ht]
            · rw [if_neg (fun h => e h.1), if_neg e]
        simp only [Option.bind_some]
        by_cases hn0 : n = k
        · have e0 : k - n = 0 := by omega
          have hcz : ga xG 41 (pa (k - n)) = -1 := by rw [e0]; exact hc0
          rw [hcz, if_pos rfl]
          refine come w _ _ hw (fun t y => ?_) (fun _ => rfl) (fun h => by omega)
          rw [hq t y]
          by_cases e : y = pa (k - n) ∧ fo (k - n) ≠ t
          · rw [if_pos e, e.1, hcur t, e0]; exact hx t
          · rw [if_neg e]
        · have h9 := hc (k - (n + 1)) (by omega)
          rw [show k - (n + 1) + 1 = k - n by omega] at h9
          have hpb := hp (k - (n + 1)) (by omega)
          have hne2 : ¬ nI (pa (k - (n + 1))) = -1 := fun h => by
            have h2 := congrArg Int32.toInt h
            rw [nI_toInt (by omega), show (-1 : Int32).toInt = -1 by decide] at h2
            omega
          have hal := halt (k - (n + 1)) (by omega)
          rw [show k - (n + 1) + 1 = k - n by omega] at hal
          have hcl := cdF_lt (fo (k - (n + 1)))
          rw [h9.1, h9.2, if_neg hne2, rd_ok hcl (by decide)]
          simp only [Option.bind_some]
          rw [if_pos (in_ok hcl (by decide)), nI_clamp (by omega)]
          refine come _ _ _ (fun q h39 => by rw [ga_sa, if_neg h39]; exact hw q h39) (fun t y => ?_) (fun h => by omega) (fun _ => ⟨rfl, rfl⟩)
          show bt (ga (sa w 39 (cdF (fo (k - (n + 1)))) _) 39 (cdF t)) y = _
          rw [ga_up]
          have h10 : ∀ t, bt (ga w 39 (cdF t)) y = qG (mfk xG) pa fo k n t y := fun t => hq t y
          by_cases ht : fo (k - (n + 1)) = t
          · rw [if_pos (by rw [ht])]
            have hne : fo (k - n) ≠ t := by rw [hal, ht]; cases t <;> decide
            by_cases hy : y < 32
            · rw [b_and, h_not _ hy, hbit, ht, h10]
              by_cases e : y = pa (k - n)
              · rw [if_pos ⟨e, hne⟩]; simp [e]
              · rw [if_neg (fun h => e h.1)]; simp [e]
            · rw [b_big (by omega), if_neg (fun h => by omega), ← h10, b_big (by omega)]
          · rw [if_neg (fun e => ht (cdF_inj e.symm)), h10]
            have heq : fo (k - n) = t := by rw [hal]; cases hh : fo (k - (n + 1)) <;> cases t <;> first | rfl | (rw [hh] at ht; exact absurd rfl ht)
            rw [if_neg (fun h => h.2 heq)]
  unfold f_X12_settles
  exact loop N 0 xG (by omega) (by omega) (fun _ _ => rfl) (fun t z => rfl) _ _ (fun h => by omega) (fun _ => ⟨rfl, rfl⟩)
