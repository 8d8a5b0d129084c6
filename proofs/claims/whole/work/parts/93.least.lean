/-! ===== the least basis; the least first of two ===== -/
theorem top_bit : ∀ k (t a : Nat), a < 2 ^ k → t < a → ∃ p, p < k ∧ a.testBit p = true ∧ t.testBit p = false ∧ ∀ q, p < q → t.testBit q = a.testBit q
  | 0, t, a, ha, ht => by simp at ha; omega
  | k + 1, t, a, ha, ht => by
    have hp : 2 ^ (k + 1) = 2 * 2 ^ k := by rw [Nat.pow_succ]; omega
    by_cases h : t / 2 < a / 2
    · obtain ⟨p, p1, p2, p3, p4⟩ := top_bit k (t / 2) (a / 2) (by omega) h
      refine ⟨p + 1, by omega, by rw [Nat.testBit_succ]; exact p2, by rw [Nat.testBit_succ]; exact p3, fun q hq => ?_⟩
      obtain ⟨q', rfl⟩ : ∃ q', q = q' + 1 := ⟨q - 1, by omega⟩
      rw [Nat.testBit_succ, Nat.testBit_succ]
      exact p4 q' (by omega)
    · have e : t / 2 = a / 2 := by omega
      refine ⟨0, by omega, ?_, ?_, fun q hq => ?_⟩
      · rw [Nat.testBit_zero]; simp; omega
      · rw [Nat.testBit_zero]; simp; omega
      · obtain ⟨q', rfl⟩ : ∃ q', q = q' + 1 := ⟨q - 1, by omega⟩
        rw [Nat.testBit_succ, Nat.testBit_succ, e]
section
variable {r : BS → Nat} {sp : BS → Nat → Bool}
def bas (sp : BS → Nat → Bool) (S : BS) : BS := fun i => S i && !sp (qR S i) i
theorem bas_s (S : BS) : qS (bas sp S) S := fun i h => by unfold bas at h; simp at h; exact h.1
theorem qR_s2 {S T : BS} (h : qS S T) (k : Nat) : qS (qR S k) (qR T k) := fun i hi => by
  unfold qR at *
  simp at *
  exact ⟨h i hi.1, hi.2⟩
theorem bas_r (M : qM r sp) (S : BS) : ∀ k, k ≤ 32 → r (qR S k) = fb_ct (bas sp S) k ∧ r (qR (bas sp S) k) = fb_ct (bas sp S) k := by
  intro k
  induction k with
  | zero =>
    intro _
    have e : ∀ T : BS, qR T 0 = q0 := fun T => by funext i; unfold qR q0; simp
    rw [e, e, M.2.2.2]
    exact ⟨rfl, rfl⟩
  | succ k ih =>
    intro hk
    obtain ⟨i1, i2⟩ := ih (by omega)
    rw [fb_ct_succ]
    cases hS : S k
    · have hb : bas sp S k = false := by unfold bas; rw [hS]; rfl
      rw [qR_N hS, qR_N hb, hb, i1, i2]; exact ⟨rfl, rfl⟩
    · have hb : bas sp S k = !sp (qR S k) k := by unfold bas; rw [hS]; rfl
      rw [← qR_I hS, M.1 _ _ (by omega), hb]
      cases hs : sp (qR S k) k
      · have hb' : bas sp S k = true := by rw [hb, hs]; rfl
        have hs2 : sp (qR (bas sp S) k) k = false := by
          cases h : sp (qR (bas sp S) k) k
          · rfl
          · rw [M.2.1 _ _ _ (qR_s2 (bas_s S) k) h] at hs; cases hs
        rw [← qR_I hb', M.1 _ _ (by omega), hs2, i1, i2]
        exact ⟨rfl, rfl⟩
      · have hb' : bas sp S k = false := by rw [hb, hs]; rfl
        rw [qR_N hb', i1, i2]
        exact ⟨rfl, rfl⟩
theorem qR_32 (M : qM r sp) (S : BS) : r (qR S 32) = r S := M.2.2.1 _ _ (fun i hi => by unfold qR; simp [hi])
theorem bas_all (M : qM r sp) (S : BS) : qInd r (bas sp S) ∧ qc (bas sp S) = r S := by
  obtain ⟨h1, h2⟩ := bas_r M S 32 (Nat.le_refl _)
  rw [qR_32 M] at h1 h2
  exact ⟨h2, h1.symm⟩
/-- what the earlier of the basis span is what the earlier of all span -/
theorem bas_sp (M : qM r sp) (S : BS) {k : Nat} (hk : k < 32) : sp (qR (bas sp S) k) k = sp (qR S k) k := by
  cases h : sp (qR S k) k
  · cases h2 : sp (qR (bas sp S) k) k
    · rfl
    · rw [M.2.1 _ _ _ (qR_s2 (bas_s S) k) h2] at h; cases h
  · rw [q_spn M hk] at h
    rw [q_spn M hk]
    obtain ⟨h1, h2⟩ := bas_r M S k (by omega)
    have a := q_mono M (A := qI (qR (bas sp S) k) k) (B := qI (qR S k) k) (fun i hi => by
      unfold qI at *
      simp at *
      rcases hi with hi | hi
      · exact Or.inl (qR_s2 (bas_s S) k i hi)
      · exact Or.inr hi)
    have b := q_mono M (qI_s (qR (bas sp S) k) k)
    omega
/-- no other basis is less -/
theorem bas_min (M : qM r sp) {S T : BS} (hT : qS T S) (hi : qInd r T) (hc : qc T = r S) {p : Nat} (hp : p < 32) (h1 : bas sp S p = true) (h2 : T p = false) (h3 : ∀ q, p < q → q < 32 → T q = bas sp S q) : False := by
  obtain ⟨b1, b2⟩ := bas_r M S p (by omega)
  have t1 := q_ind_sub M hi (qR_s T p)
  have e1 : qc (qR T p) = fb_ct T p := by
    have h9 : fb_ct (qR T p) 32 = fb_ct (qR T p) p := ct_gap (by omega) (fun t t1 t2 => by unfold qR; simp; omega)
    show fb_ct (qR T p) 32 = _
    rw [h9]
    exact fb_ct_cong (fun k hk => by unfold qR; simp [hk])
  unfold qInd at t1
  have t2 := q_mono M (qR_s2 hT p)
  have s1 := fb_ct_split T (p + 1) (31 - p)
  have s2 := fb_ct_split (bas sp S) (p + 1) (31 - p)
  rw [show p + 1 + (31 - p) = 32 by omega, fb_ct_succ T p, h2] at s1
  rw [show p + 1 + (31 - p) = 32 by omega, fb_ct_succ (bas sp S) p, h1] at s2
  have s3 : fb_ct (fun k => T (p + 1 + k)) (31 - p) = fb_ct (fun k => bas sp S (p + 1 + k)) (31 - p) := fb_ct_cong (fun k hk => h3 _ (by omega) (by omega))
  have s4 := (bas_all M S).2
  have hc' : fb_ct T 32 = r S := hc
  have s4' : fb_ct (bas sp S) 32 = r S := s4
  simp at s1 s2
  omega
/-- a first of two with the most lines -/
def isFst (r : BS → Nat) (E : BS) (m : Nat) (X : BS) : Prop := qS X E ∧ qInd r X ∧ qc X + r (qD E X) = m
theorem fst_two (M : qM r sp) {E : BS} {m : Nat} (hm : qMost (fun _ => r) E m) {G : Bool → BS} (h1 : qTwo (fun _ => r) G) (h2 : qS (qUn G) E) (h3 : qSz G = m) : isFst r E m (G true) := by
  have hX : qS (G true) E := fun i hi => h2 i (by show (G true i || G false i) = true; rw [hi]; rfl)
  have hY : qS (G false) (qD E (G true)) := fun i hi => by
    have a := h2 i (by show (G true i || G false i) = true; rw [hi]; simp)
    have b := h1.2 i
    unfold qD
    rw [a]
    cases hx : G true i
    · rfl
    · exact absurd ⟨hx, hi⟩ b
  refine ⟨hX, h1.1 true, ?_⟩
  have a : qc (G false) ≤ r (qD E (G true)) := by
    have := h1.1 false
    unfold qInd at this
    rw [← this]
    exact q_mono M hY
  -- no more is possible
  obtain ⟨b1, b2⟩ := bas_all M (qD E (G true))
  obtain ⟨G2, hG2⟩ : ∃ G2 : Bool → BS, G2 = fun t => if t = true then G true else bas sp (qD E (G true)) := ⟨_, rfl⟩
  have t1 : G2 true = G true := by rw [hG2]; rfl
  have t2 : G2 false = bas sp (qD E (G true)) := by rw [hG2]; rfl
  have hT : qTwo (fun _ => r) G2 := ⟨fun t => by
    cases t
    · rw [t2]; exact b1
    · rw [t1]; exact h1.1 true, fun z hz => by
    rw [t1, t2] at hz
    have := bas_s _ z hz.2
    unfold qD at this
    rw [hz.1] at this
    simp at this⟩
  have hE : qS (qUn G2) E := fun i hi => by
    have hi : (G2 true i || G2 false i) = true := hi
    rw [t1, t2] at hi
    cases hx : G true i
    · rw [hx] at hi
      have := bas_s _ i (by simpa using hi)
      unfold qD at this
      simp at this
      exact this.1
    · exact hX i hx
  obtain ⟨-, T, hT2⟩ := hm
  have hb := q_bound (fun _ => M) hT hE T
  have hs : qSz G2 = qc (G true) + qc (bas sp (qD E (G true))) := by unfold qSz; rw [t1, t2]
  have hb : qSz G2 ≤ m := by rw [← hT2]; exact hb
  have h3 : qc (G true) + qc (G false) = m := h3
  rw [hs, b2] at hb
  have hb : qc (G true) + r (qD E (G true)) ≤ m := hb
  omega
theorem two_fst (M : qM r sp) {E : BS} {m : Nat} {X : BS} (h : isFst r E m X) : ∃ G : Bool → BS, G true = X ∧ qTwo (fun _ => r) G ∧ qS (qUn G) E ∧ qSz G = m := by
  obtain ⟨hX, hi, hc⟩ := h
  obtain ⟨b1, b2⟩ := bas_all M (qD E X)
  refine ⟨fun t => if t = true then X else bas sp (qD E X), rfl, ⟨fun t => ?_, fun z hz => ?_⟩, fun i hi => ?_, ?_⟩
  · cases t
    · exact b1
    · exact hi
  · have h1 : X z = true := hz.1
    have h2 : bas sp (qD E X) z = true := hz.2
    have := bas_s _ z h2
    unfold qD at this
    rw [h1] at this
    simp at this
  · have hi : (X i || bas sp (qD E X) i) = true := hi
    cases hx : X i
    · rw [hx] at hi
      have := bas_s _ i (by simpa using hi)
      unfold qD at this
      simp at this
      exact this.1
    · exact hX i hx
  · show qc X + qc (bas sp (qD E X)) = m
    rw [b2]; exact hc
end
