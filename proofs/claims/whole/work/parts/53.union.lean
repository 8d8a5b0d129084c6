/-! ===== two ranks, two independent sets: the exchange along a shortest way ===== -/
section
variable {r : Bool → BS → Nat} {sp : Bool → BS → Nat → Bool}
/-- after the last n of a way (pa 0 .. pa k) have gone where they enter -/
def qG (F : Bool → BS) (pa : Nat → Nat) (fo : Nat → Bool) (k : Nat) : Nat → Bool → BS
  | 0, t => F t
  | n + 1, t => fun z => if z = pa (k - n) then (fo (k - n) == t) else qG F pa fo k n t z
theorem qG_out {F : Bool → BS} {pa : Nat → Nat} {fo : Nat → Bool} {k : Nat} {t : Bool} {z : Nat} : ∀ n, (∀ j, j < n → z ≠ pa (k - j)) → qG F pa fo k n t z = F t z
  | 0, _ => rfl
  | n + 1, h => by
    show (if z = pa (k - n) then _ else qG F pa fo k n t z) = _
    rw [if_neg (h n (Nat.lt_succ_self n))]
    exact qG_out n (fun j hj => h j (by omega))
def qWay (r : Bool → BS → Nat) (sp : Bool → BS → Nat → Bool) (F : Bool → BS) (pa : Nat → Nat) (fo : Nat → Bool) (k : Nat) : Prop :=
  (∀ i, i ≤ k → pa i < 32) ∧ (∀ i j, i < j → j ≤ k → pa i ≠ pa j) ∧ (∀ t, F t (pa 0) = false) ∧
  (∀ i, i < k → F (fo i) (pa (i + 1)) = true ∧ F (fo i) (pa i) = false ∧ sp (fo i) (F (fo i)) (pa i) = true ∧ sp (fo i) (qE (F (fo i)) (pa (i + 1))) (pa i) = false) ∧
  (∀ t i j, i + 1 < j → j ≤ k → F t (pa i) = false → F t (pa j) = true → sp t (qE (F t) (pa j)) (pa i) = true) ∧
  (F (fo k) (pa k) = false ∧ sp (fo k) (F (fo k)) (pa k) = false)
theorem qG_ind (M : ∀ t, qM (r t) (sp t)) {F : Bool → BS} (hF : ∀ t, qInd (r t) (F t)) {pa : Nat → Nat} {fo : Nat → Bool} {k : Nat} (hw : qWay r sp F pa fo k) : ∀ n, n ≤ k → (∀ t, qInd (r t) (qG F pa fo k n t)) ∧ (∀ t, qInd (r t) (qG F pa fo k (n + 1) t)) := by
  obtain ⟨h1, h2, h3, h4, h5, h6⟩ := hw
  -- where one enters and where it leaves
  have hdisj : ∀ i, i < k → fo (i + 1) = !fo i := by
    intro i hi
    have a := (h4 i hi).1
    by_cases hk : i + 1 < k
    · have b := (h4 (i + 1) hk).2.1
      cases h7 : fo i <;> cases h8 : fo (i + 1) <;> rw [h7] at a <;> rw [h8] at b
      · rw [a] at b; cases b
      · rfl
      · rfl
      · rw [a] at b; cases b
    · have e : i + 1 = k := by omega
      have b := h6.1
      rw [← e] at b
      cases h7 : fo i <;> cases h8 : fo (i + 1) <;> rw [h7] at a <;> rw [h8] at b
      · rw [a] at b; cases b
      · rfl
      · rfl
      · rw [a] at b; cases b
  intro n
  induction n with
  | zero =>
    intro _
    refine ⟨hF, fun t => ?_⟩
    by_cases ht : fo k = t
    · subst ht
      have h7 := (q_ind_ins (M (fo k)) (hF (fo k)) (h1 k (Nat.le_refl _)) h6.2).1
      have e : qG F pa fo k 1 (fo k) = qI (F (fo k)) (pa k) := by
        funext z
        show (if z = pa (k - 0) then (fo (k - 0) == fo k) else F (fo k) z) = (F (fo k) z || decide (z = pa k))
        rw [Nat.sub_zero]
        by_cases hz : z = pa k <;> simp [hz]
      rw [e]; exact h7
    · refine q_ind_sub (M t) (hF t) (fun z hz => ?_)
      have hz : (if z = pa (k - 0) then (fo (k - 0) == t) else F t z) = true := hz
      rw [Nat.sub_zero] at hz
      by_cases hzk : z = pa k
      · rw [if_pos hzk] at hz
        simp at hz
        exact absurd hz ht
      · rwa [if_neg hzk] at hz
  | succ n ih =>
    intro hn
    obtain ⟨i1, i2⟩ := ih (by omega)
    refine ⟨i2, fun t => ?_⟩
    -- the one that comes now
    obtain ⟨i, hi⟩ : ∃ i, i = k - (n + 1) := ⟨_, rfl⟩
    have hi1 : k - n = i + 1 := by omega
    have hik : i < k := by omega
    by_cases ht : fo i = t
    · have hGt : qG F pa fo k n t (pa (i + 1)) = true := by
        rw [qG_out n (fun j hj => fun e => h2 (i + 1) (k - j) (by omega) (by omega) e), ← ht]
        exact (h4 i hik).1
      have e1 : qG F pa fo k (n + 1) t = qE (qG F pa fo k n t) (pa (i + 1)) := by
        funext z
        show (if z = pa (k - n) then (fo (k - n) == t) else qG F pa fo k n t z) = (qG F pa fo k n t z && !decide (z = pa (i + 1)))
        rw [hi1]
        by_cases hz : z = pa (i + 1)
        · simp [hz]
          rw [hdisj i hik, ht]
          simp
        · simp [hz]
      have hsw : sp t (qE (qG F pa fo k n t) (pa (i + 1))) (pa i) = false := by
        subst ht
        obtain ⟨a1, a2, a3, a4⟩ := h4 i hik
        refine q_swap (M (fo i)) (hF (fo i)) (i1 (fo i)) (h1 i (by omega)) (h1 (i + 1) (by omega)) a3 a1 a4 (fun w hw1 hw2 => ?_)
        -- w went before: it is one of the way behind i + 1
        have : ∃ j, j < n ∧ w = pa (k - j) := by
          refine Classical.byContradiction (fun hno => ?_)
          rw [qG_out n (fun j hj e => hno ⟨j, hj, e⟩)] at hw2
          rw [hw1] at hw2; cases hw2
        obtain ⟨j, hj, rfl⟩ := this
        exact h5 (fo i) i (k - j) (by omega) (by omega) a2 hw1
      have e2 : qG F pa fo k (n + 1 + 1) t = qI (qG F pa fo k (n + 1) t) (pa i) := by
        funext z
        show (if z = pa (k - (n + 1)) then (fo (k - (n + 1)) == t) else qG F pa fo k (n + 1) t z) = (qG F pa fo k (n + 1) t z || decide (z = pa i))
        rw [← hi]
        by_cases hz : z = pa i
        · simp [hz, ht]
        · simp [hz]
      rw [e2]
      refine (q_ind_ins (M t) (i2 t) (h1 i (by omega)) ?_).1
      rw [e1]; exact hsw
    · refine q_ind_sub (M t) (i2 t) (fun z hz => ?_)
      have hz : (if z = pa (k - (n + 1)) then (fo (k - (n + 1)) == t) else qG F pa fo k (n + 1) t z) = true := hz
      rw [← hi] at hz
      by_cases hzk : z = pa i
      · rw [if_pos hzk] at hz
        simp at hz
        exact absurd hz ht
      · rwa [if_neg hzk] at hz
/-- what a set holds behind all -/
theorem qG_all {F : Bool → BS} {pa : Nat → Nat} {fo : Nat → Bool} {k : Nat} (hd : ∀ z, ¬ (F true z = true ∧ F false z = true)) : ∀ n, n ≤ k + 1 → ∀ z, ¬ (qG F pa fo k n true z = true ∧ qG F pa fo k n false z = true) ∧ ((qG F pa fo k n true z = true ∨ qG F pa fo k n false z = true) ↔ (F true z = true ∨ F false z = true) ∨ ∃ j, j < n ∧ z = pa (k - j)) := by
  intro n
  induction n with
  | zero =>
    intro _ z
    refine ⟨hd z, ?_⟩
    constructor
    · intro h; exact Or.inl h
    · intro h
      rcases h with h | ⟨j, hj, -⟩
      · exact h
      · omega
  | succ n ih =>
    intro hn z
    obtain ⟨h1, h2⟩ := ih (by omega) z
    have e : ∀ t, qG F pa fo k (n + 1) t z = if z = pa (k - n) then (fo (k - n) == t) else qG F pa fo k n t z := fun t => rfl
    rw [e, e]
    by_cases hz : z = pa (k - n)
    · rw [if_pos hz, if_pos hz]
      refine ⟨?_, ?_⟩
      · cases fo (k - n) <;> simp
      · constructor
        · intro _; exact Or.inr ⟨n, by omega, hz⟩
        · intro _; cases fo (k - n) <;> simp
    · rw [if_neg hz, if_neg hz]
      refine ⟨h1, ?_⟩
      rw [h2]
      constructor
      · intro h
        rcases h with h | ⟨j, hj, hz2⟩
        · exact Or.inl h
        · exact Or.inr ⟨j, by omega, hz2⟩
      · intro h
        rcases h with h | ⟨j, hj, hz2⟩
        · exact Or.inl h
        · rcases Nat.lt_or_ge j n with h3 | h3
          · exact Or.inr ⟨j, h3, hz2⟩
          · have : j = n := by omega
            subst this
            exact absurd hz2 hz
/-- two disjoint independent sets -/
def qTwo (r : Bool → BS → Nat) (F : Bool → BS) : Prop := (∀ t, qInd (r t) (F t)) ∧ ∀ z, ¬ (F true z = true ∧ F false z = true)
def qUn (F : Bool → BS) : BS := qU (F true) (F false)
def qSz (F : Bool → BS) : Nat := qc (F true) + qc (F false)
theorem qSz_un {F : Bool → BS} (h : ∀ z, ¬ (F true z = true ∧ F false z = true)) : qSz F = qc (qUn F) := by
  have h1 : qc (qU (F true) (F false)) + qc (qN (F true) (F false)) = qc (F true) + qc (F false) := qc_un _ _ 32
  have e : qc (qN (F true) (F false)) = 0 := fb_ct_zero.mpr (fun k _ => by
    unfold qN
    cases h2 : F true k <;> cases h3 : F false k <;> simp
    exact absurd ⟨h2, h3⟩ (h k))
  unfold qSz qUn
  omega
/-- the way made: one more -/
theorem qG_two (M : ∀ t, qM (r t) (sp t)) {F : Bool → BS} (hF : qTwo r F) {pa : Nat → Nat} {fo : Nat → Bool} {k : Nat} (hw : qWay r sp F pa fo k) : qTwo r (qG F pa fo k (k + 1)) ∧ (∀ z, qUn (qG F pa fo k (k + 1)) z = qI (qUn F) (pa 0) z) := by
  have h1 := qG_ind M hF.1 hw k (Nat.le_refl _)
  have h2 := qG_all (pa := pa) (fo := fo) (k := k) hF.2 (k + 1) (Nat.le_refl _)
  refine ⟨⟨h1.2, fun z => (h2 z).1⟩, fun z => ?_⟩
  have h3 := (h2 z).2
  have hmem : ∀ j, j ≤ k → 1 ≤ j → F true (pa j) = true ∨ F false (pa j) = true := by
    intro j hj hj1
    have a := (hw.2.2.2.1 (j - 1) (by omega)).1
    rw [show j - 1 + 1 = j by omega] at a
    cases h7 : fo (j - 1) <;> rw [h7] at a
    · exact Or.inr a
    · exact Or.inl a
  show (qG F pa fo k (k + 1) true z || qG F pa fo k (k + 1) false z) = ((F true z || F false z) || decide (z = pa 0))
  have h4 : (qG F pa fo k (k + 1) true z = true ∨ qG F pa fo k (k + 1) false z = true) ↔ ((F true z = true ∨ F false z = true) ∨ z = pa 0) := by
    rw [h3]
    constructor
    · intro h
      rcases h with h | ⟨j, hj, hz⟩
      · exact Or.inl h
      · by_cases h5 : k - j = 0
        · rw [h5] at hz; exact Or.inr hz
        · have := hmem (k - j) (by omega) (by omega)
          rw [← hz] at this
          exact Or.inl this
    · intro h
      rcases h with h | h
      · exact Or.inl h
      · exact Or.inr ⟨k, by omega, by rw [Nat.sub_self]; exact h⟩
  cases h5 : (qG F pa fo k (k + 1) true z || qG F pa fo k (k + 1) false z) <;> cases h6 : ((F true z || F false z) || decide (z = pa 0))
  · rfl
  · have : ((F true z = true ∨ F false z = true) ∨ z = pa 0) := by simpa [or_assoc] using h6
    have := h4.mpr this
    simp at h5
    rcases this with h | h
    · rw [h5.1] at h; cases h
    · rw [h5.2] at h; cases h
  · have : (qG F pa fo k (k + 1) true z = true ∨ qG F pa fo k (k + 1) false z = true) := by simpa using h5
    have := h4.mp this
    simp at h6
    rcases this with (h | h) | h
    · rw [h6.1.1] at h; cases h
    · rw [h6.1.2] at h; cases h
    · exact absurd h h6.2
  · rfl
/-! ===== tight sets: no more is possible ===== -/
def qTight (r : Bool → BS → Nat) (F : Bool → BS) (T : BS) : Prop := r true T + r false T = qc (qN (F true) T) + qc (qN (F false) T)
theorem q_lb (M : ∀ t, qM (r t) (sp t)) {F : Bool → BS} (hF : qTwo r F) (T : BS) (t : Bool) : qc (qN (F t) T) ≤ r t T := by
  have h := q_ind_sub (M t) (hF.1 t) (qN_l (F t) T)
  unfold qInd at h
  rw [← h]
  exact q_mono (M t) (qN_r _ _)
theorem q_tight_un (M : ∀ t, qM (r t) (sp t)) {F : Bool → BS} (hF : qTwo r F) {S T : BS} (hS : qTight r F S) (hT : qTight r F T) : qTight r F (qU S T) := by
  unfold qTight at *
  have hc : ∀ t, qc (qN (F t) (qU S T)) + qc (qN (F t) (qN S T)) = qc (qN (F t) S) + qc (qN (F t) T) := by
    intro t
    have h := qc_un (qN (F t) S) (qN (F t) T) 32
    have e1 : qU (qN (F t) S) (qN (F t) T) = qN (F t) (qU S T) := by
      funext i
      show ((F t i && S i) || (F t i && T i)) = (F t i && (S i || T i))
      cases F t i <;> rfl
    have e2 : qN (qN (F t) S) (qN (F t) T) = qN (F t) (qN S T) := by
      funext i
      show ((F t i && S i) && (F t i && T i)) = (F t i && (S i && T i))
      cases F t i <;> rfl
    rw [e1, e2] at h
    exact h
  have s1 := q_submod (M true) S T
  have s2 := q_submod (M false) S T
  have l1 := q_lb M hF (qN S T) true
  have l2 := q_lb M hF (qN S T) false
  have l3 := q_lb M hF (qU S T) true
  have l4 := q_lb M hF (qU S T) false
  have c1 := hc true
  have c2 := hc false
  omega
/-- what a search that ends in vain has seen is tight -/
theorem q_closed (M : ∀ t, qM (r t) (sp t)) {F : Bool → BS} (hF : qTwo r F) {S : BS} (h : ∀ t y, y < 32 → S y = true → F t y = true ∨ (sp t (F t) y = true ∧ qS (qC (sp t) (F t) y) S)) : qTight r F S := by
  have h1 : ∀ t, r t S = qc (qN (F t) S) := by
    intro t
    have ha : ∀ y, y < 32 → S y = true → sp t (qN (F t) S) y = true := by
      intro y hy hs
      rcases h t y hy hs with h2 | ⟨h2, h3⟩
      · exact q_in (M t) hy (by show (F t y && S y) = true; rw [h2, hs]; rfl)
      · refine (M t).2.1 _ _ _ (fun i hi => ?_) (q_circ (M t) (hF.1 t) hy h2)
        have h4 := h3 i hi
        unfold qC at hi
        simp at hi
        show (F t i && S i) = true
        rw [hi.1, h4]; rfl
    have h2 := q_span (M t) ha
    have h3 : r t S ≤ r t (qU (qN (F t) S) S) := q_mono (M t) (qU_r _ _)
    have h4 := q_ind_sub (M t) (hF.1 t) (qN_l (F t) S)
    unfold qInd at h4
    have h5 := q_lb M hF S t
    omega
  unfold qTight
  rw [h1 true, h1 false]
/-- no two disjoint independent sets of E hold more -/
theorem q_bound (M : ∀ t, qM (r t) (sp t)) {F : Bool → BS} (hF : qTwo r F) {E : BS} (hE : qS (qUn F) E) (T : BS) : qSz F ≤ r true T + r false T + qc (qD E T) := by
  have l1 := q_lb M hF T true
  have l2 := q_lb M hF T false
  have c1 : qc (F true) = qc (qN (F true) T) + qc (qD (F true) T) := qc_split _ _ 32
  have c2 : qc (F false) = qc (qN (F false) T) + qc (qD (F false) T) := qc_split _ _ 32
  have c3 : qc (qD (F true) T) + qc (qD (F false) T) ≤ qc (qD E T) := by
    have h := qc_un (qD (F true) T) (qD (F false) T) 32
    have e : fb_ct (qN (qD (F true) T) (qD (F false) T)) 32 = 0 := fb_ct_zero.mpr (fun k _ => by
      show ((F true k && !T k) && (F false k && !T k)) = false
      cases h2 : F true k <;> cases h3 : F false k <;> simp
      exact absurd ⟨h2, h3⟩ (hF.2 k))
    have h4 : fb_ct (qU (qD (F true) T) (qD (F false) T)) 32 ≤ fb_ct (qD E T) 32 := qc_mono (fun i hi => by
      have hi : ((F true i && !T i) || (F false i && !T i)) = true := hi
      show (E i && !T i) = true
      simp at hi
      rcases hi with ⟨h5, h6⟩ | ⟨h5, h6⟩
      · rw [hE i (by show (F true i || F false i) = true; rw [h5]; rfl), h6]; rfl
      · rw [hE i (by show (F true i || F false i) = true; rw [h5]; simp), h6]; rfl) 32
    show fb_ct _ 32 + fb_ct _ 32 ≤ fb_ct _ 32
    omega
  unfold qSz
  omega
/-- the most lines of E in two sets: m -/
def qMost (r : Bool → BS → Nat) (E : BS) (m : Nat) : Prop := (∃ F : Bool → BS, qTwo r F ∧ qS (qUn F) E ∧ qSz F = m) ∧ ∃ T : BS, r true T + r false T + qc (qD E T) = m
theorem q_most_one (M : ∀ t, qM (r t) (sp t)) {E : BS} {m n : Nat} (h1 : qMost r E m) (h2 : qMost r E n) : m = n := by
  obtain ⟨⟨F, f1, f2, f3⟩, T, t1⟩ := h1
  obtain ⟨⟨F', g1, g2, g3⟩, T', t2⟩ := h2
  have a := q_bound M f1 f2 T'
  have b := q_bound M g1 g2 T
  omega
/-- the state of a search over the lines E: all that is out is in a tight set -/
def qDone (r : Bool → BS → Nat) (E : BS) (F : Bool → BS) : Prop := qTwo r F ∧ qS (qUn F) E ∧ ∃ T : BS, qTight r F T ∧ ∀ i, i < 32 → E i = true → qUn F i = false → T i = true
theorem q_done_most (M : ∀ t, qM (r t) (sp t)) {E : BS} {F : Bool → BS} (h : qDone r E F) : qMost r E (qSz F) := by
  obtain ⟨h1, h2, T, h3, h4⟩ := h
  refine ⟨⟨F, h1, h2, rfl⟩, T, ?_⟩
  have hb := q_bound M h1 h2 T
  have hu := qSz_un h1.2
  have c : qc (qUn F) = qc (qN (qUn F) T) + qc (qD (qUn F) T) := qc_split _ _ 32
  have c2 : qc (qD E T) ≤ qc (qD (qUn F) T) := fb_ct_sub (fun i hi he => by
    have he : (E i && !T i) = true := he
    show (qUn F i && !T i) = true
    cases hq : qUn F i
    · have : E i = true := by cases h9 : E i <;> simp_all
      have := h4 i hi this hq
      simp [this] at he
    · cases hT : T i <;> simp_all)
  have hn : qc (qN (F true) T) + qc (qN (F false) T) = qc (qN (qUn F) T) := by
    have h := qc_un (qN (F true) T) (qN (F false) T) 32
    have e : fb_ct (qN (qN (F true) T) (qN (F false) T)) 32 = 0 := fb_ct_zero.mpr (fun k _ => by
      show ((F true k && T k) && (F false k && T k)) = false
      cases h2 : F true k <;> cases h3 : F false k <;> simp
      exact absurd ⟨h2, h3⟩ (h1.2 k))
    have e2 : qU (qN (F true) T) (qN (F false) T) = qN (qUn F) T := by
      funext i
      show ((F true i && T i) || (F false i && T i)) = ((F true i || F false i) && T i)
      cases F true i <;> cases F false i <;> cases T i <;> rfl
    rw [e2] at h
    show fb_ct _ 32 + fb_ct _ 32 = fb_ct _ 32
    omega
  unfold qTight at h3
  omega
/-- one line more, brought -/
theorem q_done_yes (M : ∀ t, qM (r t) (sp t)) {E : BS} {F F' : Bool → BS} {x : Nat} (h : qDone r E F) (h' : qTwo r F') (hu : ∀ z, qUn F' z = qI (qUn F) x z) : qDone r (qI E x) F' := by
  obtain ⟨h1, h2, T, h3, h4⟩ := h
  have hu' : qUn F' = qI (qUn F) x := funext hu
  refine ⟨h', ?_, T, ?_, ?_⟩
  · rw [hu']
    exact fun i hi => by
      have hi : (qUn F i || decide (i = x)) = true := hi
      show (E i || decide (i = x)) = true
      cases hd : decide (i = x)
      · rw [hd] at hi
        have := h2 i (by simpa using hi)
        simp [this]
      · simp
  · have hn : ∀ G : Bool → BS, (∀ z, ¬ (G true z = true ∧ G false z = true)) → qc (qN (G true) T) + qc (qN (G false) T) = qc (qN (qUn G) T) := by
      intro G hG
      have h := qc_un (qN (G true) T) (qN (G false) T) 32
      have e : fb_ct (qN (qN (G true) T) (qN (G false) T)) 32 = 0 := fb_ct_zero.mpr (fun k _ => by
        show ((G true k && T k) && (G false k && T k)) = false
        cases h2 : G true k <;> cases h3 : G false k <;> simp
        exact absurd ⟨h2, h3⟩ (hG k))
      have e2 : qU (qN (G true) T) (qN (G false) T) = qN (qUn G) T := by
        funext i
        show ((G true i && T i) || (G false i && T i)) = ((G true i || G false i) && T i)
        cases G true i <;> cases G false i <;> cases T i <;> rfl
      rw [e2] at h
      show fb_ct _ 32 + fb_ct _ 32 = fb_ct _ 32
      omega
    have l1 := q_lb M h' T true
    have l2 := q_lb M h' T false
    have a := hn F h1.2
    have b := hn F' h'.2
    have c : qc (qN (qUn F) T) ≤ qc (qN (qUn F') T) := qc_mono (fun i hi => by
      have hi : (qUn F i && T i) = true := hi
      show (qUn F' i && T i) = true
      rw [hu]
      show ((qUn F i || decide (i = x)) && T i) = true
      cases hq : qUn F i <;> simp_all) 32
    unfold qTight at *
    omega
  · intro i hi he hq
    rw [hu] at hq
    have hq : (qUn F i || decide (i = x)) = false := hq
    have he : (E i || decide (i = x)) = true := he
    cases hd : decide (i = x)
    · rw [hd] at hq he
      exact h4 i hi (by simpa using he) (by simpa using hq)
    · rw [hd] at hq; simp at hq
/-- .. not brought: what was seen is tight -/
theorem q_done_no (M : ∀ t, qM (r t) (sp t)) {E : BS} {F : Bool → BS} {x : Nat} {S : BS} (h : qDone r E F) (hS : qTight r F S) (hx : S x = true) : qDone r (qI E x) F := by
  obtain ⟨h1, h2, T, h3, h4⟩ := h
  refine ⟨h1, qS_t h2 (qI_s _ _), qU T S, q_tight_un M h1 h3 hS, ?_⟩
  intro i hi he hq
  have he : (E i || decide (i = x)) = true := he
  show (T i || S i) = true
  cases hd : decide (i = x)
  · rw [hd] at he
    rw [h4 i hi (by simpa using he) hq]; rfl
  · have : i = x := by simpa using hd
    rw [this, hx]; simp
end
