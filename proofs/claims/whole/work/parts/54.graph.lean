/-! ===== knots that hang together: labels, the least of each part ===== -/
def lm (p : Nat → Nat) (a b : Nat) : Nat → Nat := fun k => if p k = max (p a) (p b) then min (p a) (p b) else p k
def lb (u v : Nat → Nat) (S : BS) : Nat → Nat → Nat
  | 0 => fun k => k
  | m + 1 => if S m = true then lm (lb u v S m) (u m) (v m) else lb u v S m
def lOk (p : Nat → Nat) : Prop := (∀ k, p k ≤ k) ∧ ∀ k, p (p k) = p k
theorem lm_ok {p : Nat → Nat} (h : lOk p) (a b : Nat) : lOk (lm p a b) := by
  have hm : p (min (p a) (p b)) = min (p a) (p b) := by
    rcases Nat.le_total (p a) (p b) with h1 | h1
    · rw [Nat.min_eq_left h1]; exact h.2 a
    · rw [Nat.min_eq_right h1]; exact h.2 b
  refine ⟨fun k => ?_, fun k => ?_⟩
  · unfold lm
    have h1 := h.1 k
    by_cases hk : p k = max (p a) (p b)
    · rw [if_pos hk]; omega
    · rw [if_neg hk]; exact h1
  · unfold lm
    by_cases hk : p k = max (p a) (p b)
    · rw [if_pos hk, hm]
      by_cases h2 : min (p a) (p b) = max (p a) (p b)
      · rw [if_pos h2]
      · rw [if_neg h2]
    · rw [if_neg hk, h.2 k, if_neg hk]
theorem lm_cong {p : Nat → Nat} {a b k l : Nat} (h : p k = p l) : lm p a b k = lm p a b l := by unfold lm; rw [h]
theorem lm_ab (p : Nat → Nat) (a b : Nat) : lm p a b a = lm p a b b := by
  unfold lm
  rcases Nat.le_total (p a) (p b) with h1 | h1
  · rw [Nat.min_eq_left h1, Nat.max_eq_right h1]
    by_cases h2 : p a = p b <;> simp [h2]
  · rw [Nat.min_eq_right h1, Nat.max_eq_left h1]
    by_cases h2 : p b = p a <;> simp [h2]
theorem lm_eq {p : Nat → Nat} {a b k l : Nat} (h : lm p a b k = lm p a b l) : p k = p l ∨ (p k = p a ∧ p l = p b) ∨ (p k = p b ∧ p l = p a) := by
  unfold lm at h
  rcases Nat.le_total (p a) (p b) with h1 | h1
  · rw [Nat.min_eq_left h1, Nat.max_eq_right h1] at h
    by_cases hk : p k = p b <;> by_cases hl : p l = p b
    · exact Or.inl (hk.trans hl.symm)
    · rw [if_pos hk, if_neg hl] at h; exact Or.inr (Or.inr ⟨hk, h.symm⟩)
    · rw [if_neg hk, if_pos hl] at h; exact Or.inr (Or.inl ⟨h, hl⟩)
    · rw [if_neg hk, if_neg hl] at h; exact Or.inl h
  · rw [Nat.min_eq_right h1, Nat.max_eq_left h1] at h
    by_cases hk : p k = p a <;> by_cases hl : p l = p a
    · exact Or.inl (hk.trans hl.symm)
    · rw [if_pos hk, if_neg hl] at h; exact Or.inr (Or.inl ⟨hk, h.symm⟩)
    · rw [if_neg hk, if_pos hl] at h; exact Or.inr (Or.inr ⟨h, hl⟩)
    · rw [if_neg hk, if_neg hl] at h; exact Or.inl h
theorem lb_ok (u v : Nat → Nat) (S : BS) : ∀ m, lOk (lb u v S m)
  | 0 => ⟨fun k => Nat.le_refl k, fun _ => rfl⟩
  | m + 1 => by
    unfold lb
    by_cases h : S m = true
    · rw [if_pos h]; exact lm_ok (lb_ok u v S m) _ _
    · rw [if_neg h]; exact lb_ok u v S m
theorem lb_in {u v : Nat → Nat} {S : BS} {i : Nat} : ∀ {m}, i < m → S i = true → lb u v S m (u i) = lb u v S m (v i)
  | 0, h, _ => by omega
  | m + 1, h, hs => by
    unfold lb
    by_cases e : i = m
    · subst e; rw [if_pos hs]; exact lm_ab _ _ _
    · have h1 := lb_in (u := u) (v := v) (m := m) (by omega) hs
      by_cases h2 : S m = true
      · rw [if_pos h2]; exact lm_cong h1
      · rw [if_neg h2]; exact h1
theorem lb_least {u v : Nat → Nat} {S : BS} {q : Nat → Nat} {a b : Nat} : ∀ {m}, (∀ i, i < m → S i = true → q (u i) = q (v i)) → lb u v S m a = lb u v S m b → q a = q b
  | 0, _, h => by
    have h : a = b := h
    rw [h]
  | m + 1, hq, h => by
    unfold lb at h
    have ih : ∀ a b, lb u v S m a = lb u v S m b → q a = q b := fun a b h => lb_least (fun i hi hs => hq i (by omega) hs) h
    by_cases h2 : S m = true
    · rw [if_pos h2] at h
      have e := hq m (Nat.lt_succ_self m) h2
      rcases lm_eq h with h3 | ⟨h3, h4⟩ | ⟨h3, h4⟩
      · exact ih _ _ h3
      · rw [ih _ _ h3, ih _ _ h4]; exact e
      · rw [ih _ _ h3, ih _ _ h4]; exact e.symm
    · rw [if_neg h2] at h
      exact ih _ _ h
theorem l_uniq {p q : Nat → Nat} (hp : lOk p) (hq : lOk q) (h : ∀ k l, p k = p l → q k = q l) (h2 : ∀ k l, q k = q l → p k = p l) : p = q := by
  funext k
  have a := h (p k) k (hp.2 k)
  have b := h2 (q k) k (hq.2 k)
  have c := hq.1 (p k)
  have d := hp.1 (q k)
  omega
abbrev la (u v : Nat → Nat) (S : BS) : Nat → Nat := lb u v S 32
theorem la_in {u v : Nat → Nat} {S : BS} {i : Nat} (hi : i < 32) (h : S i = true) : la u v S (u i) = la u v S (v i) := lb_in hi h
theorem la_least {u v : Nat → Nat} {S : BS} {q : Nat → Nat} {a b : Nat} (hq : ∀ i, i < 32 → S i = true → q (u i) = q (v i)) (h : la u v S a = la u v S b) : q a = q b := lb_least hq h
theorem la_mono {u v : Nat → Nat} {S T : BS} {a b : Nat} (h : ∀ i, i < 32 → S i = true → T i = true) (h2 : la u v S a = la u v S b) : la u v T a = la u v T b :=
  la_least (fun i hi hs => la_in hi (h i hi hs)) h2
theorem la_cong {u v : Nat → Nat} {S T : BS} (h : ∀ i, i < 32 → S i = T i) : la u v S = la u v T :=
  l_uniq (lb_ok u v S 32) (lb_ok u v T 32) (fun _ _ => la_mono (fun i hi hs => by rw [← h i hi]; exact hs)) (fun _ _ => la_mono (fun i hi hs => by rw [h i hi]; exact hs))
theorem la_ins (u v : Nat → Nat) (S : BS) {x : Nat} (hx : x < 32) : la u v (qI S x) = lm (la u v S) (u x) (v x) := by
  refine l_uniq (lb_ok u v _ 32) (lm_ok (lb_ok u v S 32) _ _) (fun k l h => ?_) (fun k l h => ?_)
  · refine la_least (fun i hi hs => ?_) h
    have hs : (S i || decide (i = x)) = true := hs
    cases hd : decide (i = x)
    · rw [hd] at hs
      exact lm_cong (la_in hi (by simpa using hs))
    · have : i = x := by simpa using hd
      subst this
      exact lm_ab _ _ _
  · have hm : ∀ a b, la u v S a = la u v S b → la u v (qI S x) a = la u v (qI S x) b := fun a b h => la_mono (fun i _ hs => qI_s S x i hs) h
    have hin : la u v (qI S x) (u x) = la u v (qI S x) (v x) := la_in hx (by unfold qI; simp)
    rcases lm_eq h with h3 | ⟨h3, h4⟩ | ⟨h3, h4⟩
    · exact hm _ _ h3
    · rw [hm _ _ h3, hm _ _ h4]; exact hin
    · rw [hm _ _ h3, hm _ _ h4]; exact hin.symm
theorem la_0 (u v : Nat → Nat) : la u v q0 = fun k => k := by
  have h : ∀ m, lb u v q0 m = fun k => k := by
    intro m
    induction m with
    | zero => rfl
    | succ m ih => unfold lb; rw [if_neg (by unfold q0; decide)]; exact ih
  exact h 32
/-! ===== how many parts; the rank ===== -/
def lh (p : Nat → Nat) : Nat := fb_ct (fun k => p k == k) 8
def rk (u v : Nat → Nat) (S : BS) : Nat := 8 - lh (la u v S)
def gs (u v : Nat → Nat) (S : BS) (x : Nat) : Bool := la u v S (u x) == la u v S (v x)
theorem lh_lm {p : Nat → Nat} (hp : lOk p) {a b : Nat} (ha : a < 8) (hb : b < 8) (h : ¬ p a = p b) : lh (lm p a b) + 1 = lh p := by
  have hM : max (p a) (p b) < 8 := by have := hp.1 a; have := hp.1 b; omega
  have hpM : p (max (p a) (p b)) = max (p a) (p b) := by
    rcases Nat.le_total (p a) (p b) with h1 | h1
    · rw [Nat.max_eq_right h1]; exact hp.2 b
    · rw [Nat.max_eq_left h1]; exact hp.2 a
  have hpm : p (min (p a) (p b)) = min (p a) (p b) := by
    rcases Nat.le_total (p a) (p b) with h1 | h1
    · rw [Nat.min_eq_left h1]; exact hp.2 a
    · rw [Nat.min_eq_right h1]; exact hp.2 b
  have h1 := fb_ct_upd (fun k => p k == k) false (i := max (p a) (p b)) (n := 8) hM
  have e : (fun k => if k = max (p a) (p b) then false else (fun k => p k == k) k) = fun k => lm p a b k == k := by
    funext k
    by_cases hk : k = max (p a) (p b)
    · rw [if_pos hk]
      unfold lm
      rw [hk, hpM, if_pos rfl]
      symm
      simp
      omega
    · rw [if_neg hk]
      unfold lm
      by_cases h2 : p k = max (p a) (p b)
      · rw [if_pos h2]
        have h3 : ¬ p k = k := fun e => hk (e.symm.trans h2)
        have h4 : ¬ min (p a) (p b) = k := fun e => by
          rw [← e, hpm] at h2
          omega
        show (p k == k) = (min (p a) (p b) == k)
        rw [beq_eq_false_iff_ne.mpr h3, beq_eq_false_iff_ne.mpr h4]
      · rw [if_neg h2]
  rw [e] at h1
  simp [hpM] at h1
  exact h1
theorem lh_le (p : Nat → Nat) : lh p ≤ 8 := fb_ct_le _ 8
theorem gs_mat {u v : Nat → Nat} (hu : ∀ i, u i < 8 ∧ v i < 8) : qM (rk u v) (gs u v) := by
  refine ⟨fun S x hx => ?_, fun S T x h h2 => ?_, fun S T h => ?_, ?_⟩
  · unfold rk gs
    rw [la_ins u v S hx]
    by_cases h : la u v S (u x) = la u v S (v x)
    · have e : lm (la u v S) (u x) (v x) = la u v S := by
        funext k
        unfold lm
        rw [h, Nat.max_self, Nat.min_self]
        by_cases h2 : lb u v S 32 k = lb u v S 32 (v x)
        · rw [if_pos h2]; exact h2.symm
        · rw [if_neg h2]
      rw [e]
      simp [h]
    · have h1 : lh (lm (la u v S) (u x) (v x)) + 1 = lh (la u v S) := lh_lm (lb_ok u v S 32) (hu x).1 (hu x).2 h
      have h2 := lh_le (la u v S)
      simp [h]
      omega
  · unfold gs at *
    simp at *
    exact la_mono (fun i _ => h i) h2
  · unfold rk; rw [la_cong h]
  · unfold rk
    rw [la_0]
    decide
/-- some lines barred -/
def rB (r : BS → Nat) (B : BS) : BS → Nat := fun S => r (qD S B)
def sB (sp : BS → Nat → Bool) (B : BS) : BS → Nat → Bool := fun S x => B x || sp (qD S B) x
theorem rB_mat {r : BS → Nat} {sp : BS → Nat → Bool} (M : qM r sp) (B : BS) : qM (rB r B) (sB sp B) := by
  refine ⟨fun S x hx => ?_, fun S T x h h2 => ?_, fun S T h => ?_, ?_⟩
  · unfold rB sB
    cases hb : B x
    · have e : qD (qI S x) B = qI (qD S B) x := by
        funext i
        show ((S i || decide (i = x)) && !B i) = ((S i && !B i) || decide (i = x))
        by_cases hi : i = x
        · subst hi; simp [hb]
        · simp [hi]
      rw [e, M.1 _ _ hx]
      simp
    · have e : qD (qI S x) B = qD S B := by
        funext i
        show ((S i || decide (i = x)) && !B i) = (S i && !B i)
        by_cases hi : i = x
        · subst hi; simp [hb]
        · simp [hi]
      rw [e]
      simp
  · unfold sB at *
    cases hb : B x
    · rw [hb] at h2
      simp at h2 ⊢
      exact M.2.1 _ _ _ (fun i hi => by
        have hi : (S i && !B i) = true := hi
        show (T i && !B i) = true
        simp at hi
        rw [h i hi.1, hi.2]; rfl) h2
    · simp
  · exact M.2.2.1 _ _ (fun i hi => by show (S i && !B i) = (T i && !B i); rw [h i hi])
  · unfold rB
    rw [show qD q0 B = q0 from funext fun i => by show (false && !B i) = false; rfl]
    exact M.2.2.2
/-! ===== places: the lines over the labels of a joined set ===== -/
theorem la_ct {u v : Nat → Nat} {j S : BS} {u' v' : Nat → Nat} (hu : ∀ i, i < 32 → S i = true → u' i = la u v j (u i) ∧ v' i = la u v j (v i)) (a b : Nat) : la u' v' S (la u v j a) = la u' v' S (la u v j b) ↔ la u v (qU j S) a = la u v (qU j S) b := by
  constructor
  · intro h
    have hj : ∀ k, la u v (qU j S) (la u v j k) = la u v (qU j S) k := fun k => la_mono (fun i _ hs => qU_l j S i hs) ((lb_ok u v j 32).2 k)
    have h1 := la_least (u := u') (v := v') (S := S) (q := la u v (qU j S)) (fun i hi hs => by
      rw [(hu i hi hs).1, (hu i hi hs).2, hj, hj]
      exact la_in hi (qU_r j S i hs)) h
    rw [hj, hj] at h1
    exact h1
  · intro h
    refine la_least (q := fun k => la u' v' S (la u v j k)) (fun i hi hs => ?_) h
    have hs : (j i || S i) = true := hs
    show la u' v' S (la u v j (u i)) = la u' v' S (la u v j (v i))
    cases hj : j i
    · rw [hj] at hs
      have hs : S i = true := by simpa using hs
      rw [← (hu i hi hs).1, ← (hu i hi hs).2]
      exact la_in hi hs
    · rw [la_in hi hj]
theorem q_two_ranks {r r' : BS → Nat} {sp sp' : BS → Nat → Bool} (M : qM r sp) (M' : qM r' sp') {A S : BS} (h : ∀ k, k < 32 → S k = true → sp (qU A (qR S k)) k = sp' (qU q0 (qR S k)) k) : r (qU A S) = r A + r' S := by
  have h1 : ∀ k, k ≤ 32 → r (qU A (qR S k)) = r A + r' (qU q0 (qR S k)) := by
    intro k
    induction k with
    | zero => intro _; rw [qU_R0, qU_R0, M'.2.2.2, Nat.add_zero]
    | succ k ih =>
      intro hk
      have h2 := ih (by omega)
      rw [qU_R, qU_R]
      by_cases hs : S k = true
      · rw [if_pos hs, if_pos hs, M.1 _ _ (by omega), M'.1 _ _ (by omega), h2, h k (by omega) hs]
        omega
      · rw [if_neg hs, if_neg hs]; exact h2
  have h2 := h1 32 (Nat.le_refl _)
  rw [q_R32 M, q_R32 M'] at h2
  rw [h2]
  rw [M'.2.2.1 (qU q0 S) S (fun i _ => by unfold qU q0; simp)]
theorem gs_ct {u v : Nat → Nat} {j : BS} {u' v' : Nat → Nat} {E S : BS} (hu : ∀ i, i < 32 → E i = true → u' i = la u v j (u i) ∧ v' i = la u v j (v i)) (hS : ∀ i, i < 32 → S i = true → E i = true) {x : Nat} (hx : x < 32) (hE : E x = true) : gs u' v' S x = gs u v (qU j S) x := by
  have h := la_ct (u := u) (v := v) (j := j) (S := S) (fun i hi hs => hu i hi (hS i hi hs)) (u x) (v x)
  rw [← (hu x hx hE).1, ← (hu x hx hE).2] at h
  unfold gs
  cases h1 : (la u' v' S (u' x) == la u' v' S (v' x)) <;> cases h2 : (la u v (qU j S) (u x) == la u v (qU j S) (v x))
  · rfl
  · simp at h1 h2; exact absurd (h.mpr h2) h1
  · simp at h1 h2; exact absurd (h.mp h1) h2
  · rfl
theorem rk_ct {u v : Nat → Nat} (hk : ∀ i, u i < 8 ∧ v i < 8) {j : BS} {u' v' : Nat → Nat} (hk' : ∀ i, u' i < 8 ∧ v' i < 8) {E S : BS} (hu : ∀ i, i < 32 → E i = true → u' i = la u v j (u i) ∧ v' i = la u v j (v i)) (hS : ∀ i, i < 32 → S i = true → E i = true) : rk u v (qU j S) = rk u v j + rk u' v' S := by
  refine q_two_ranks (gs_mat hk) (gs_mat hk') (fun k hk2 hs => ?_)
  rw [← gs_ct hu (S := qR S k) (fun i hi h => hS i hi (qR_s S k i h)) hk2 (hS k hk2 hs)]
  have e : qU q0 (qR S k) = qR S k := by funext i; unfold qU q0; simp
  rw [e]
