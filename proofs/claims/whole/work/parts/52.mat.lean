/-! ===== sets of lines as rows of Bool; counting below 32 ===== -/
abbrev BS : Type := Nat → Bool
def qU (S T : BS) : BS := fun i => S i || T i
def qN (S T : BS) : BS := fun i => S i && T i
def qD (S T : BS) : BS := fun i => S i && !T i
def qI (S : BS) (x : Nat) : BS := fun i => S i || decide (i = x)
def qE (S : BS) (x : Nat) : BS := fun i => S i && !decide (i = x)
def qR (S : BS) (k : Nat) : BS := fun i => S i && decide (i < k)
def qS (S T : BS) : Prop := ∀ i, S i = true → T i = true
def q0 : BS := fun _ => false
abbrev qc (S : BS) : Nat := fb_ct S 32
theorem qc_split (S T : BS) : ∀ n, fb_ct S n = fb_ct (qN S T) n + fb_ct (qD S T) n
  | 0 => rfl
  | n + 1 => by
    rw [fb_ct_succ, fb_ct_succ, fb_ct_succ, qc_split S T n]
    unfold qN qD
    cases S n <;> cases T n <;> simp <;> omega
theorem qc_un (S T : BS) : ∀ n, fb_ct (qU S T) n + fb_ct (qN S T) n = fb_ct S n + fb_ct T n
  | 0 => rfl
  | n + 1 => by
    rw [fb_ct_succ, fb_ct_succ, fb_ct_succ, fb_ct_succ]
    have := qc_un S T n
    unfold qU qN at *
    cases S n <;> cases T n <;> simp <;> omega
theorem qc_mono {S T : BS} (h : qS S T) (n : Nat) : fb_ct S n ≤ fb_ct T n := fb_ct_sub (fun k _ => h k)
theorem qc_ins {S : BS} {x n : Nat} (hx : x < n) (h : S x = false) : fb_ct (qI S x) n = fb_ct S n + 1 := by
  have h1 := fb_ct_upd S true (i := x) (n := n) hx
  have e : (fun k => if k = x then true else S k) = qI S x := by
    funext k
    unfold qI
    by_cases hk : k = x <;> simp [hk]
  rw [e, h] at h1
  simpa using h1
theorem qc_era {S : BS} {x n : Nat} (hx : x < n) (h : S x = true) : fb_ct (qE S x) n + 1 = fb_ct S n := by
  have h1 := fb_ct_upd S false (i := x) (n := n) hx
  have e : (fun k => if k = x then false else S k) = qE S x := by
    funext k
    unfold qE
    by_cases hk : k = x <;> simp [hk]
  rw [e, h] at h1
  simpa using h1
theorem qI_mem {S : BS} {x : Nat} (h : S x = true) : qI S x = S := by
  funext k
  unfold qI
  by_cases hk : k = x
  · subst hk; simp [h]
  · simp [hk]
theorem qIE {S : BS} {x : Nat} (h : S x = true) : qI (qE S x) x = S := by
  funext k
  unfold qI qE
  by_cases hk : k = x
  · subst hk; simp [h]
  · simp [hk]
theorem qEI {S : BS} {x : Nat} (h : S x = false) : qE (qI S x) x = S := by
  funext k
  unfold qI qE
  by_cases hk : k = x
  · subst hk; simp [h]
  · simp [hk]
theorem qI_s (S : BS) (x : Nat) : qS S (qI S x) := fun i h => by unfold qI; simp [h]
theorem qE_s (S : BS) (x : Nat) : qS (qE S x) S := fun i h => by unfold qE at h; simp at h; exact h.1
theorem qU_l (S T : BS) : qS S (qU S T) := fun i h => by unfold qU; simp [h]
theorem qU_r (S T : BS) : qS T (qU S T) := fun i h => by unfold qU; simp [h]
theorem qN_l (S T : BS) : qS (qN S T) S := fun i h => by unfold qN at h; simp at h; exact h.1
theorem qN_r (S T : BS) : qS (qN S T) T := fun i h => by unfold qN at h; simp at h; exact h.2
theorem qR_s (S : BS) (k : Nat) : qS (qR S k) S := fun i h => by unfold qR at h; simp at h; exact h.1
theorem qS_t {S T V : BS} (h : qS S T) (h2 : qS T V) : qS S V := fun i h3 => h2 i (h i h3)
theorem qS_r (S : BS) : qS S S := fun _ h => h
theorem qS_I {S T : BS} {x : Nat} (h : qS S T) (hx : T x = true) : qS (qI S x) T := fun i hi => by
  unfold qI at hi
  simp at hi
  rcases hi with hi | hi
  · exact h i hi
  · rw [hi]; exact hx
theorem qU_R (A B : BS) (k : Nat) : qU A (qR B (k + 1)) = if B k = true then qI (qU A (qR B k)) k else qU A (qR B k) := by
  by_cases hb : B k = true
  · rw [if_pos hb]
    funext i
    unfold qU qR qI
    by_cases h1 : i = k
    · subst h1; simp [hb]
    · have : decide (i < k + 1) = decide (i < k) := by by_cases h2 : i < k <;> simp [h2] <;> omega
      simp [this, h1]
  · rw [if_neg hb]
    funext i
    unfold qU qR
    by_cases h1 : i = k
    · subst h1
      have : B i = false := by cases h : B i <;> simp_all
      simp [this]
    · have : decide (i < k + 1) = decide (i < k) := by by_cases h2 : i < k <;> simp [h2] <;> omega
      simp [this]
theorem qU_R0 (A B : BS) : qU A (qR B 0) = A := by
  funext i
  unfold qU qR
  simp
/-! ===== a rank and what it spans ===== -/
def qM (r : BS → Nat) (sp : BS → Nat → Bool) : Prop :=
  (∀ (S : BS) (x : Nat), x < 32 → r (qI S x) = r S + (if sp S x = true then 0 else 1)) ∧ (∀ (S T : BS) (x : Nat), qS S T → sp S x = true → sp T x = true) ∧ (∀ S T : BS, (∀ i, i < 32 → S i = T i) → r S = r T) ∧ r q0 = 0
section
variable {r : BS → Nat} {sp : BS → Nat → Bool}
theorem q_in (M : qM r sp) {S : BS} {x : Nat} (hx : x < 32) (h : S x = true) : sp S x = true := by
  have h1 := M.1 S x hx
  rw [qI_mem h] at h1
  by_cases h2 : sp S x = true
  · exact h2
  · rw [if_neg h2] at h1; omega
theorem q_spn (M : qM r sp) {S : BS} {x : Nat} (hx : x < 32) : sp S x = true ↔ r (qI S x) = r S := by
  rw [M.1 S x hx]
  by_cases h2 : sp S x = true <;> simp [h2]
theorem q_up (M : qM r sp) (A B : BS) : ∀ k, k ≤ 32 → r A ≤ r (qU A (qR B k)) ∧ r (qU A (qR B k)) ≤ r A + fb_ct B k := by
  intro k
  induction k with
  | zero => intro _; rw [qU_R0]; exact ⟨Nat.le_refl _, Nat.le_add_right _ _⟩
  | succ k ih =>
    intro hk
    have h := ih (by omega)
    rw [qU_R, fb_ct_succ]
    by_cases hb : B k = true
    · rw [if_pos hb, if_pos hb, M.1 _ _ (by omega)]
      by_cases h2 : sp (qU A (qR B k)) k = true
      · rw [if_pos h2]; omega
      · rw [if_neg h2]; omega
    · rw [if_neg hb, if_neg hb]; omega
theorem q_R32 (M : qM r sp) (A B : BS) : r (qU A (qR B 32)) = r (qU A B) := M.2.2.1 _ _ (fun i hi => by unfold qU qR; simp [hi])
theorem q_mono (M : qM r sp) {A B : BS} (h : qS A B) : r A ≤ r B := by
  have h1 := (q_up M A B 32 (Nat.le_refl _)).1
  rw [q_R32 M] at h1
  have e : qU A B = B := by
    funext i
    unfold qU
    cases ha : A i
    · rfl
    · simp [h i ha]
  rwa [e] at h1
theorem q_add (M : qM r sp) (A B : BS) : r (qU A B) ≤ r A + qc B := by
  have h1 := (q_up M A B 32 (Nat.le_refl _)).2
  rwa [q_R32 M] at h1
theorem q_le (M : qM r sp) (S : BS) : r S ≤ qc S := by
  have h := q_add M q0 S
  rw [M.2.2.2, Nat.zero_add] at h
  have e : qU q0 S = S := by funext i; unfold qU q0; simp
  rwa [e] at h
theorem q_submod (M : qM r sp) (A B : BS) : r (qU A B) + r (qN A B) ≤ r A + r B := by
  have h : ∀ k, k ≤ 32 → r (qU A (qR B k)) + r (qN A B) ≤ r A + r (qU (qN A B) (qR B k)) := by
    intro k
    induction k with
    | zero => intro _; rw [qU_R0, qU_R0]; exact Nat.le_refl _
    | succ k ih =>
      intro hk
      have h1 := ih (by omega)
      rw [qU_R, qU_R]
      by_cases hb : B k = true
      · rw [if_pos hb, if_pos hb, M.1 _ _ (by omega), M.1 _ _ (by omega)]
        by_cases h2 : sp (qU (qN A B) (qR B k)) k = true
        · have h3 : sp (qU A (qR B k)) k = true := M.2.1 _ _ _ (fun i hi => by
            unfold qU qN at *
            cases ha : A i <;> simp_all) h2
          rw [if_pos h2, if_pos h3]; omega
        · rw [if_neg h2]
          by_cases h3 : sp (qU A (qR B k)) k = true
          · rw [if_pos h3]; omega
          · rw [if_neg h3]; omega
      · rw [if_neg hb, if_neg hb]; exact h1
  have h1 := h 32 (Nat.le_refl _)
  rw [q_R32 M, q_R32 M] at h1
  have e : qU (qN A B) B = B := by
    funext i
    unfold qU qN
    cases A i <;> cases B i <;> rfl
  rwa [e] at h1
theorem q_span (M : qM r sp) {A S : BS} (h : ∀ y, y < 32 → S y = true → sp A y = true) : r (qU A S) = r A := by
  have h1 : ∀ k, k ≤ 32 → r (qU A (qR S k)) = r A := by
    intro k
    induction k with
    | zero => intro _; rw [qU_R0]
    | succ k ih =>
      intro hk
      rw [qU_R]
      by_cases hb : S k = true
      · rw [if_pos hb, M.1 _ _ (by omega), if_pos (M.2.1 _ _ _ (qU_l _ _) (h k (by omega) hb))]
        exact ih (by omega)
      · rw [if_neg hb]; exact ih (by omega)
  have h2 := h1 32 (Nat.le_refl _)
  rwa [q_R32 M] at h2
def qInd (r : BS → Nat) (S : BS) : Prop := r S = qc S
theorem qc_D {S T : BS} (h : qS S T) (n : Nat) : fb_ct T n = fb_ct S n + fb_ct (qD T S) n := by
  rw [qc_split T S n]
  have e : qN T S = S := by
    funext i
    unfold qN
    cases hs : S i
    · simp
    · simp [h i hs]
  rw [e]
theorem q_ind_sub (M : qM r sp) {S T : BS} (hT : qInd r T) (h : qS S T) : qInd r S := by
  unfold qInd at *
  have h1 := q_le M S
  have h2 := q_add M S (qD T S)
  have h3 : qc T = qc S + qc (qD T S) := qc_D h 32
  have h4 : r T ≤ r (qU S (qD T S)) := q_mono M (fun i hi => by
    unfold qU qD
    cases S i <;> simp [hi])
  omega
theorem q_ind_ins (M : qM r sp) {S : BS} {x : Nat} (hS : qInd r S) (hx : x < 32) (h : sp S x = false) : qInd r (qI S x) ∧ S x = false := by
  have h0 : S x = false := by
    cases hs : S x
    · rfl
    · rw [q_in M hx hs] at h; cases h
  unfold qInd at *
  rw [M.1 S x hx, h, qc, qc_ins hx h0]
  simp
  exact ⟨hS, h0⟩
theorem q_ind_not (M : qM r sp) {S : BS} {x : Nat} (hx : x < 32) (h : qInd r (qI S x)) (h0 : S x = false) : sp S x = false := by
  unfold qInd at h
  rw [M.1 S x hx, qc, qc_ins hx h0] at h
  have h1 : r S ≤ fb_ct S 32 := q_le M S
  cases hs : sp S x
  · rfl
  · rw [hs, if_pos rfl] at h; omega
theorem q_ind_era (M : qM r sp) {S : BS} {x : Nat} (hx : x < 32) (h : qInd r S) (h0 : S x = true) : sp (qE S x) x = false :=
  q_ind_not M hx (by rw [qIE h0]; exact h) (by unfold qE; simp)
theorem q_cong (M : qM r sp) {S T : BS} {x : Nat} (hx : x < 32) (h : ∀ i, i < 32 → S i = T i) (hs : sp S x = true) : sp T x = true := by
  rw [q_spn M hx] at *
  rw [← M.2.2.1 S T h, ← M.2.2.1 (qI S x) (qI T x) (fun i hi => by unfold qI; rw [h i hi])]
  exact hs
theorem q_inter (M : qM r sp) {F A B : BS} {y : Nat} (hF : qInd r F) (hA : qS A F) (hB : qS B F) (hy : y < 32) (h1 : sp A y = true) (h2 : sp B y = true) : sp (qN A B) y = true := by
  rw [q_spn M hy] at *
  have iA := q_ind_sub M hF hA
  have iB := q_ind_sub M hF hB
  have iN := q_ind_sub M hF (qS_t (qN_l A B) hA)
  have iU : qInd r (qU A B) := q_ind_sub M hF (fun i hi => by
    unfold qU at hi
    cases ha : A i
    · rw [ha] at hi; exact hB i (by simpa using hi)
    · exact hA i ha)
  unfold qInd at iA iB iN iU
  have hs := q_submod M (qI A y) (qI B y)
  have e1 : qN (qI A y) (qI B y) = qI (qN A B) y := by
    funext i
    show ((A i || decide (i = y)) && (B i || decide (i = y))) = ((A i && B i) || decide (i = y))
    cases A i <;> cases B i <;> cases decide (i = y) <;> rfl
  have hu : r (qU A B) ≤ r (qU (qI A y) (qI B y)) := q_mono M (fun i hi => by
    unfold qU qI at *
    cases ha : A i <;> cases hb : B i <;> simp_all)
  have hc : qc (qU A B) + qc (qN A B) = qc A + qc B := qc_un A B 32
  have hm : r (qN A B) ≤ r (qI (qN A B) y) := q_mono M (qI_s _ _)
  rw [e1, h1, h2] at hs
  have := q_le M (qN A B)
  omega
/-- what of an independent set y needs -/
def qC (sp : BS → Nat → Bool) (F : BS) (y : Nat) : BS := fun z => F z && !sp (qE F z) y
theorem q_circ (M : qM r sp) {F : BS} {y : Nat} (hF : qInd r F) (hy : y < 32) (h : sp F y = true) : sp (qC sp F y) y = true := by
  have h1 : ∀ k, k ≤ 32 → sp (fun z => F z && (qC sp F y z || decide (k ≤ z))) y = true := by
    intro k
    induction k with
    | zero =>
      intro _
      have e : (fun z => F z && (qC sp F y z || decide (0 ≤ z))) = F := by funext z; simp
      rw [e]; exact h
    | succ k ih =>
      intro hk
      have h2 := ih (by omega)
      by_cases hc : F k = true ∧ sp (qE F k) y = true
      · have h3 := q_inter M hF (fun i hi => by simp at hi; exact hi.1) (qE_s F k) hy h2 hc.2
        refine M.2.1 _ _ _ (fun i hi => ?_) h3
        unfold qN qE at hi
        simp at hi
        obtain ⟨⟨h4, h5⟩, -, h7⟩ := hi
        simp [h4]
        rcases h5 with h5 | h5
        · exact Or.inl h5
        · right; omega
      · refine M.2.1 _ _ _ (fun i hi => ?_) h2
        simp at hi
        obtain ⟨h4, h5⟩ := hi
        simp [h4]
        rcases h5 with h5 | h5
        · exact Or.inl h5
        · by_cases hik : i = k
          · left
            subst hik
            unfold qC
            rw [h4]
            cases hs : sp (qE F i) y
            · rfl
            · exact absurd ⟨h4, hs⟩ hc
          · right; omega
  refine q_cong M hy (fun i hi => ?_) (h1 32 (Nat.le_refl _))
  have : decide (32 ≤ i) = false := by simp; omega
  rw [this]
  unfold qC
  cases F i <;> simp
/-- an exchange holds on when only what isn't needed went before -/
theorem q_swap (M : qM r sp) {F F' : BS} {y z : Nat} (hF : qInd r F) (hF' : qInd r F') (hy : y < 32) (hz : z < 32) (h : sp F y = true) (hz1 : F z = true) (h0 : sp (qE F z) y = false) (hw : ∀ w, F w = true → F' w = false → sp (qE F w) y = true) : sp (qE F' z) y = false := by
  cases hs : sp (qE F' z) y
  · rfl
  · exfalso
    have h1 : sp (qN F F') y = true := M.2.1 _ _ _ (fun i hi => by
      unfold qC at hi
      simp at hi
      unfold qN
      cases hf : F' i
      · have := hw i hi.1 hf
        rw [hi.2] at this; cases this
      · rw [hi.1]; rfl) (q_circ M hF hy h)
    have h2 := q_inter M hF' (qN_r F F') (qE_s F' z) hy h1 hs
    have h3 : sp (qE F z) y = true := M.2.1 _ _ _ (fun i hi => by
      unfold qN qE at *
      simp at *
      exact ⟨hi.1.1, hi.2.2⟩) h2
    rw [h0] at h3; cases h3
end
