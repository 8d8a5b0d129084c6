/-! ===== the model's isForest ===== -/
theorem lb_R (u v : Nat → Nat) (S : BS) {m : Nat} (hm : m ≤ 32) : lb u v S m = la u v (qR S m) := by
  have h1 : ∀ k, k ≤ m → lb u v (qR S m) k = lb u v S k := by
    intro k
    induction k with
    | zero => intro _; rfl
    | succ k ih =>
      intro hk
      show (if qR S m k = true then lm (lb u v (qR S m) k) (u k) (v k) else lb u v (qR S m) k) = (if S k = true then lm (lb u v S k) (u k) (v k) else lb u v S k)
      rw [ih (by omega)]
      have : qR S m k = S k := by
        show (S k && decide (k < m)) = S k
        have : decide (k < m) = true := by simp; omega
        rw [this, Bool.and_true]
      rw [this]
  have h2 := lb_stop (u := u) (v := v) (S := qR S m) (L := m) (fun i hi => by
    show (S i && decide (i < m)) = false
    have : decide (i < m) = false := by simp; omega
    rw [this, Bool.and_false]) (32 - m)
  rw [show m + (32 - m) = 32 by omega] at h2
  show _ = lb u v (qR S m) 32
  rw [h2, h1 m (Nat.le_refl _)]
theorem ind_R {r : BS → Nat} {sp : BS → Nat → Bool} (M : qM r sp) (S : BS) : qInd r S ↔ ∀ i, i < 32 → S i = true → sp (qR S i) i = false := by
  constructor
  · intro h i hi hs
    have h1 := q_ind_sub M h (qR_s S (i + 1))
    rw [← qR_I hs] at h1
    exact q_ind_not M hi h1 (by show (S i && decide (i < i)) = false; simp)
  · intro h
    have h1 : ∀ k, k ≤ 32 → r (qR S k) = fb_ct S k := by
      intro k
      induction k with
      | zero =>
        intro _
        have e : qR S 0 = q0 := by funext z; show (S z && decide (z < 0)) = false; simp
        rw [e, M.2.2.2]; rfl
      | succ k ih =>
        intro hk
        rw [fb_ct_succ]
        by_cases hs : S k = true
        · rw [← qR_I hs, M.1 _ _ (by omega), if_neg (by rw [h k (by omega) hs]; decide), ih (by omega), if_pos hs]
        · have hs' : S k = false := by cases h9 : S k <;> simp_all
          rw [qR_N hs', ih (by omega), if_neg hs]; rfl
    unfold qInd
    have h2 := h1 32 (Nat.le_refl _)
    rw [M.2.2.1 S (qR S 32) (fun i hi => by show S i = (S i && decide (i < 32)); simp [hi]), h2]
