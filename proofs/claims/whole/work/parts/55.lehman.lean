/-! ===== what JOIN still lacks: the least of 2 r + the rest, with and without the ends' line ===== -/
def fJ (r : BS → Nat) (j E T : BS) : Nat := 2 * r (qU j T) + qc (qD E T)
def qMin (f : BS → Nat) (m : Nat) : Prop := (∃ T, f T = m) ∧ ∀ T, m ≤ f T
theorem q_arg {P : BS → Prop} (f : BS → Nat) : ∀ n, (∃ T, P T ∧ f T ≤ n) → ∃ T, P T ∧ ∀ T', P T' → f T ≤ f T' := by
  intro n
  induction n with
  | zero =>
    intro ⟨T, h1, h2⟩
    exact ⟨T, h1, fun T' _ => by omega⟩
  | succ n ih =>
    intro ⟨T, h1, h2⟩
    by_cases h : ∃ T, P T ∧ f T ≤ n
    · exact ih h
    · refine ⟨T, h1, fun T' h3 => ?_⟩
      rcases Nat.lt_or_ge n (f T') with h4 | h4
      · omega
      · exact absurd ⟨T', h3, h4⟩ h
theorem q_min_ex (f : BS → Nat) : ∃ m, qMin f m := by
  obtain ⟨T, -, h⟩ := q_arg (P := fun _ => True) f (f q0) ⟨q0, trivial, Nat.le_refl _⟩
  exact ⟨f T, ⟨T, rfl⟩, fun T' => h T' trivial⟩
theorem q_min_one {f : BS → Nat} {m n : Nat} (h1 : qMin f m) (h2 : qMin f n) : m = n := by
  obtain ⟨⟨T, rfl⟩, a⟩ := h1
  obtain ⟨⟨T', rfl⟩, b⟩ := h2
  exact Nat.le_antisymm (a T') (b T)
section
variable {r : BS → Nat} {sp : BS → Nat → Bool}
theorem fJ_sub (M : qM r sp) (j E A B : BS) : fJ r j E (qU A B) + fJ r j E (qN A B) ≤ fJ r j E A + fJ r j E B := by
  have h := q_submod M (qU j A) (qU j B)
  have e1 : qU (qU j A) (qU j B) = qU j (qU A B) := by
    funext i
    show ((j i || A i) || (j i || B i)) = (j i || (A i || B i))
    cases j i <;> cases A i <;> cases B i <;> rfl
  have e2 : qN (qU j A) (qU j B) = qU j (qN A B) := by
    funext i
    show ((j i || A i) && (j i || B i)) = (j i || (A i && B i))
    cases j i <;> cases A i <;> cases B i <;> rfl
  rw [e1, e2] at h
  have h2 := qc_un (qD E A) (qD E B) 32
  have e3 : qU (qD E A) (qD E B) = qD E (qN A B) := by
    funext i
    show ((E i && !A i) || (E i && !B i)) = (E i && !(A i && B i))
    cases E i <;> cases A i <;> cases B i <;> rfl
  have e4 : qN (qD E A) (qD E B) = qD E (qU A B) := by
    funext i
    show ((E i && !A i) && (E i && !B i)) = (E i && !(A i || B i))
    cases E i <;> cases A i <;> cases B i <;> rfl
  rw [e3, e4] at h2
  unfold fJ qc
  omega
theorem fJ_join (r : BS → Nat) (j E T : BS) (i : Nat) : fJ r (qI j i) (qE E i) T = fJ r j E (qI T i) := by
  unfold fJ
  have e1 : qU (qI j i) T = qU j (qI T i) := by
    funext k
    show ((j k || decide (k = i)) || T k) = (j k || (T k || decide (k = i)))
    cases j k <;> cases T k <;> cases decide (k = i) <;> rfl
  have e2 : qD (qE E i) T = qD E (qI T i) := by
    funext k
    show ((E k && !decide (k = i)) && !T k) = (E k && !(T k || decide (k = i)))
    cases E k <;> cases T k <;> cases decide (k = i) <;> rfl
  rw [e1, e2]
theorem fJ_del_le (r : BS → Nat) (j E T : BS) (i : Nat) : fJ r j (qE E i) T ≤ fJ r j E T := by
  unfold fJ
  have h : qc (qD (qE E i) T) ≤ qc (qD E T) := qc_mono (fun k hk => by
    have hk : ((E k && !decide (k = i)) && !T k) = true := hk
    show (E k && !T k) = true
    cases hE : E k <;> cases hT : T k <;> simp_all) 32
  omega
theorem fJ_del (r : BS → Nat) (j E T : BS) {i : Nat} (hi : i < 32) (hE : E i = true) (hT : T i = false) : fJ r j (qE E i) T + 1 = fJ r j E T := by
  unfold fJ
  have e : qD (qE E i) T = qE (qD E T) i := by
    funext k
    show ((E k && !decide (k = i)) && !T k) = ((E k && !T k) && !decide (k = i))
    cases E k <;> cases T k <;> cases decide (k = i) <;> rfl
  have h : qc (qE (qD E T) i) + 1 = qc (qD E T) := qc_era hi (by show (E i && !T i) = true; rw [hE, hT]; rfl)
  rw [e]
  omega
theorem fJ_del_ge (r : BS → Nat) (j E T : BS) {i : Nat} (hi : i < 32) (hE : E i = true) : fJ r j E T ≤ fJ r j (qE E i) T + 1 := by
  cases hT : T i
  · rw [fJ_del r j E T hi hE hT]; exact Nat.le_refl _
  · unfold fJ
    have e : qD (qE E i) T = qD E T := by
      funext k
      show ((E k && !decide (k = i)) && !T k) = (E k && !T k)
      by_cases hk : k = i
      · subst hk; simp [hT]
      · simp [hk]
    rw [e]
    omega
theorem fJ_era (M : qM r sp) (j E T : BS) (i : Nat) : fJ r j (qE E i) (qE T i) ≤ fJ r j (qE E i) T := by
  unfold fJ
  have h := q_mono M (A := qU j (qE T i)) (B := qU j T) (fun k hk => by
    have hk : (j k || (T k && !decide (k = i))) = true := hk
    show (j k || T k) = true
    cases hj : j k <;> cases hT : T k <;> simp_all)
  have e : qD (qE E i) (qE T i) = qD (qE E i) T := by
    funext k
    show ((E k && !decide (k = i)) && !(T k && !decide (k = i))) = ((E k && !decide (k = i)) && !T k)
    cases E k <;> cases T k <;> cases decide (k = i) <;> rfl
  rw [e]
  omega
theorem fJ_cut (M : qM r sp) (j E T : BS) : fJ r j E (qN T E) ≤ fJ r j E T := by
  unfold fJ
  have h := q_mono M (A := qU j (qN T E)) (B := qU j T) (fun k hk => by
    have hk : (j k || (T k && E k)) = true := hk
    show (j k || T k) = true
    cases hj : j k <;> cases hT : T k <;> simp_all)
  have e : qD E (qN T E) = qD E T := by
    funext k
    show (E k && !(T k && E k)) = (E k && !T k)
    cases E k <;> cases T k <;> rfl
  rw [e]
  omega
theorem fJ_e (M : qM r sp) (j E T : BS) {e : Nat} (he : e < 32) : fJ r (qI j e) E T = fJ r j E T + (if sp (qU j T) e = true then 0 else 2) := by
  unfold fJ
  have e1 : qU (qI j e) T = qI (qU j T) e := by
    funext k
    show ((j k || decide (k = e)) || T k) = ((j k || T k) || decide (k = e))
    cases j k <;> cases T k <;> cases decide (k = e) <;> rfl
  rw [e1, M.1 _ _ he]
  by_cases h : sp (qU j T) e = true
  · rw [if_pos h, if_pos h]; omega
  · rw [if_neg h, if_neg h]; omega
/-- JOIN lacks k -/
def qL (r : BS → Nat) (e : Nat) (j E : BS) (k : Nat) : Prop := ∃ m, qMin (fJ r j E) m ∧ qMin (fJ r (qI j e) E) (m + k)
theorem qL_one {e : Nat} {j E : BS} {k l : Nat} (h1 : qL r e j E k) (h2 : qL r e j E l) : k = l := by
  obtain ⟨m, a, b⟩ := h1
  obtain ⟨n, c, d⟩ := h2
  have := q_min_one a c
  have := q_min_one b d
  omega
theorem qL_ex (M : qM r sp) {e : Nat} (he : e < 32) (j E : BS) : ∃ k, k ≤ 2 ∧ qL r e j E k := by
  obtain ⟨m, hm⟩ := q_min_ex (fJ r j E)
  obtain ⟨n, hn⟩ := q_min_ex (fJ r (qI j e) E)
  have h1 : m ≤ n := by
    obtain ⟨⟨T, hT⟩, -⟩ := hn
    have := hm.2 T
    rw [fJ_e M j E T he] at hT
    omega
  have h2 : n ≤ m + 2 := by
    obtain ⟨⟨T, hT⟩, -⟩ := hm
    have := hn.2 T
    rw [fJ_e M j E T he] at this
    by_cases hs : sp (qU j T) e = true
    · rw [if_pos hs] at this; omega
    · rw [if_neg hs] at this; omega
  refine ⟨n - m, by omega, m, hm, ?_⟩
  rw [show m + (n - m) = n by omega]
  exact hn
theorem sp_up (M : qM r sp) {j A B : BS} {e : Nat} (he : e < 32) (h : ∀ i, i < 32 → A i = true → B i = true) (h2 : sp (qU j A) e = true) : sp (qU j B) e = true := by
  have h3 : sp (qU j (qU A B)) e = true := M.2.1 _ _ _ (fun i hi => by
    have hi : (j i || A i) = true := hi
    show (j i || (A i || B i)) = true
    cases hj : j i <;> cases hA : A i <;> simp_all) h2
  refine q_cong M he (fun i hi => ?_) h3
  show (j i || (A i || B i)) = (j i || B i)
  cases hA : A i
  · rfl
  · rw [h i hi hA]; rfl
/-- (a) joining keeps what is safe -/
theorem qL_a (M : qM r sp) {e i : Nat} (he : e < 32) {j E : BS} (h : qL r e j E 0) : qL r e (qI j i) (qE E i) 0 := by
  obtain ⟨m, hm, hg⟩ := h
  obtain ⟨x, hx⟩ := q_min_ex (fJ r (qI j i) (qE E i))
  obtain ⟨k, hk2, n, hn, hk⟩ := qL_ex M he (qI j i) (qE E i)
  have := q_min_one hx hn
  subst this
  obtain ⟨⟨T, hT⟩, -⟩ := hg
  rw [fJ_e M j E T he] at hT
  have h1 := hm.2 T
  have hs : sp (qU j T) e = true := by
    by_cases hs : sp (qU j T) e = true
    · exact hs
    · rw [if_neg hs] at hT; omega
  rw [if_pos hs] at hT
  obtain ⟨⟨X, hX⟩, -⟩ := hx
  rw [fJ_join] at hX
  have hsub := fJ_sub M j E (qI X i) T
  have h2 := hm.2 (qN (qI X i) T)
  have e1 : qI (qU (qI X i) T) i = qU (qI X i) T := qI_mem (by show ((X i || decide (i = i)) || T i) = true; simp)
  have h3 := hk.2 (qU (qI X i) T)
  have h4 : fJ r (qI (qI j i) e) (qE E i) (qU (qI X i) T) = fJ r (qI j i) (qE E i) (qU (qI X i) T) := by
    have hs2 : sp (qU (qI j i) (qU (qI X i) T)) e = true := M.2.1 _ _ _ (fun y hy => by
      have hy : (j y || T y) = true := hy
      show ((j y || decide (y = i)) || ((X y || decide (y = i)) || T y)) = true
      cases hj : j y <;> simp_all) hs
    rw [fJ_e M (qI j i) (qE E i) _ he, if_pos hs2, Nat.add_zero]
  rw [h4, fJ_join, e1] at h3
  have : k = 0 := by omega
  subst this
  exact ⟨x, hn, hk⟩
/-- (b) one cut off what is safe isn't lost -/
theorem qL_b (M : qM r sp) {e i : Nat} (he : e < 32) (hi : i < 32) {j E : BS} (hE : E i = true) (h : qL r e j E 0) : ¬ qL r e j (qE E i) 2 := by
  obtain ⟨m, hm, hg⟩ := h
  rintro ⟨x, hx, hy⟩
  obtain ⟨⟨T, hT⟩, -⟩ := hg
  obtain ⟨⟨X, hX⟩, -⟩ := hx
  have h1 := hm.2 X
  have h2 := fJ_del_ge r j E X hi hE
  have h3 := hy.2 T
  have h4 := fJ_del_le r (qI j e) E T i
  omega
/-- (c) a cut keeps what is lost -/
theorem qL_c (M : qM r sp) {e i : Nat} (he : e < 32) (hi : i < 32) {j E : BS} (hE : E i = true) (h : qL r e j E 2) : qL r e j (qE E i) 2 := by
  obtain ⟨m, hm, hg⟩ := h
  obtain ⟨k, hk2, x, hx, hy⟩ := qL_ex M he j (qE E i)
  have hlow : ∀ T, m ≤ fJ r j (qE E i) T + 1 := fun T => by
    have := hm.2 T
    have := fJ_del_ge r j E T hi hE
    omega
  have hx1 : m ≤ x + 1 := by obtain ⟨⟨X, hX⟩, -⟩ := hx; have := hlow X; omega
  have hx2 : x ≤ m := by
    obtain ⟨⟨X, hX⟩, -⟩ := hm
    have := hx.2 X
    have := fJ_del_le r j E X i
    omega
  have hy1 : m + 2 ≤ x + k + 1 := by
    obtain ⟨⟨Y, hY⟩, -⟩ := hy
    have := hg.2 Y
    have := fJ_del_ge r (qI j e) E Y hi hE
    omega
  rcases Nat.lt_or_ge x m with hc | hc
  · have : k = 2 := by omega
    subst this
    exact ⟨x, hx, hy⟩
  · have hxm : x = m := by omega
    subst hxm
    by_cases hk : k = 2
    · subst hk; exact ⟨x, hx, hy⟩
    · exfalso
      have hk1 : k = 1 := by omega
      subst hk1
      have hno : ∀ T, T i = false → x + 1 ≤ fJ r j E T := fun T hT => by
        have := hx.2 T
        have := fJ_del r j E T hi hE hT
        omega
      obtain ⟨⟨Y0, hY0⟩, -⟩ := hy
      -- one that lacks i
      obtain ⟨Y, hYi, hY⟩ : ∃ Y : BS, Y i = false ∧ fJ r (qI j e) E Y ≤ x + 2 := by
        refine ⟨qE Y0 i, by unfold qE; simp, ?_⟩
        have h1 := fJ_era M (qI j e) E Y0 i
        have h2 := fJ_del r (qI j e) E (qE Y0 i) hi hE (by unfold qE; simp)
        omega
      have h3 := hg.2 Y
      rw [fJ_e M j E Y he] at hY h3
      have h4 := hno Y hYi
      by_cases hs : sp (qU j Y) e = true
      · rw [if_pos hs] at hY h3
        obtain ⟨⟨T, hT⟩, -⟩ := hm
        have h5 := fJ_sub M j E Y T
        have h6 := hno (qN Y T) (by show (Y i && T i) = false; rw [hYi]; rfl)
        have h7 := hg.2 (qU Y T)
        rw [fJ_e M j E _ he, if_pos (sp_up M he (fun y _ hy => qU_l Y T y hy) hs)] at h7
        omega
      · rw [if_neg hs] at hY; omega
/-- (d) joining one doesn't save what is lost -/
theorem qL_d (M : qM r sp) {e i : Nat} (he : e < 32) (hi : i < 32) {j E : BS} (hE : E i = true) (h : qL r e j E 2) : ¬ qL r e (qI j i) (qE E i) 0 := by
  obtain ⟨m, hm, hg⟩ := h
  rintro ⟨x, hx, hy⟩
  obtain ⟨⟨T, hT⟩, -⟩ := hm
  have h1 := hx.2 T
  rw [fJ_join] at h1
  have h2 : fJ r j E (qI T i) ≤ fJ r j E T + 1 := by
    cases hTi : T i
    · have e1 : qU j (qI T i) = qI (qU j T) i := by
        funext k
        show (j k || (T k || decide (k = i))) = ((j k || T k) || decide (k = i))
        cases j k <;> rfl
      have e2 : qD E (qI T i) = qE (qD E T) i := by
        funext k
        show (E k && !(T k || decide (k = i))) = ((E k && !T k) && !decide (k = i))
        cases E k <;> cases T k <;> rfl
      have h3 : qc (qE (qD E T) i) + 1 = qc (qD E T) := qc_era hi (by show (E i && !T i) = true; rw [hE, hTi]; rfl)
      unfold fJ
      rw [e1, e2, M.1 _ _ hi]
      by_cases hs : sp (qU j T) i = true
      · rw [if_pos hs]; omega
      · rw [if_neg hs]; omega
    · rw [qI_mem hTi]; omega
  obtain ⟨⟨Y, hY⟩, -⟩ := hy
  have e3 : qI (qI j i) e = qI (qI j e) i := by
    funext k
    show ((j k || decide (k = i)) || decide (k = e)) = ((j k || decide (k = e)) || decide (k = i))
    cases j k <;> cases decide (k = i) <;> cases decide (k = e) <;> rfl
  rw [e3, fJ_join] at hY
  have h4 := hg.2 (qI Y i)
  omega
/-- (e) who lacks one has a line that saves him -/
theorem qL_e (M : qM r sp) {e : Nat} (he : e < 32) {j E : BS} (h : qL r e j E 1) : ∃ i, i < 32 ∧ E i = true ∧ qL r e (qI j i) (qE E i) 0 := by
  obtain ⟨m, hm, hg⟩ := h
  obtain ⟨T1, hT1, hmax⟩ := q_arg (P := fun T => fJ r j E T = m) (fun T => 32 - qc T) 32 (by obtain ⟨⟨T, hT⟩, -⟩ := id hm; exact ⟨T, hT, by omega⟩)
  obtain ⟨⟨Y0, hY0⟩, -⟩ := id hg
  obtain ⟨Y, hYE, hY⟩ : ∃ Y : BS, qS Y E ∧ fJ r (qI j e) E Y = m + 1 := ⟨qN Y0 E, qN_r _ _, by
    have h1 := fJ_cut M (qI j e) E Y0
    have h2 := hg.2 (qN Y0 E)
    omega⟩
  rw [fJ_e M j E Y he] at hY
  have h3 := hm.2 Y
  have hs : sp (qU j Y) e = true := by
    by_cases hs : sp (qU j Y) e = true
    · exact hs
    · rw [if_neg hs] at hY; omega
  rw [if_pos hs] at hY
  have hex : ∃ i, i < 32 ∧ Y i = true ∧ T1 i = false := by
    refine Classical.byContradiction (fun hno => ?_)
    have h4 : sp (qU j T1) e = true := sp_up M he (fun i hi hy => by
      cases hT : T1 i
      · exact absurd ⟨i, hi, hy, hT⟩ hno
      · rfl) hs
    have h5 := hg.2 T1
    rw [fJ_e M j E T1 he, if_pos h4, hT1] at h5
    omega
  obtain ⟨i, hi, hyi, hti⟩ := hex
  refine ⟨i, hi, hYE i hyi, m + 1, ⟨⟨Y, ?_⟩, fun T => ?_⟩, ⟨⟨Y, ?_⟩, fun T => ?_⟩⟩
  · rw [fJ_join, qI_mem hyi]; omega
  · rw [fJ_join]
    have h4 := hm.2 (qI T i)
    rcases Nat.lt_or_ge m (fJ r j E (qI T i)) with h5 | h5
    · exact h5
    · exfalso
      have h6 := fJ_sub M j E T1 (qI T i)
      have h7 := hm.2 (qN T1 (qI T i))
      have h8 := hm.2 (qU T1 (qI T i))
      have h9 := hmax (qU T1 (qI T i)) (by omega)
      have h10 : qc (qI T1 i) ≤ qc (qU T1 (qI T i)) := qc_mono (fun k hk => by
        have hk : (T1 k || decide (k = i)) = true := hk
        show (T1 k || (T k || decide (k = i))) = true
        cases hT1k : T1 k <;> simp_all) 32
      have h11 : qc (qI T1 i) = qc T1 + 1 := qc_ins hi hti
      have h12 : qc (qU T1 (qI T i)) ≤ 32 := fb_ct_le _ 32
      omega
  · have e3 : qI (qI j i) e = qI (qI j e) i := by
      funext k
      show ((j k || decide (k = i)) || decide (k = e)) = ((j k || decide (k = e)) || decide (k = i))
      cases j k <;> cases decide (k = i) <;> cases decide (k = e) <;> rfl
    rw [e3, fJ_join, qI_mem hyi, fJ_e M j E Y he, if_pos hs]; omega
  · have e3 : qI (qI j i) e = qI (qI j e) i := by
      funext k
      show ((j k || decide (k = i)) || decide (k = e)) = ((j k || decide (k = e)) || decide (k = i))
      cases j k <;> cases decide (k = i) <;> cases decide (k = e) <;> rfl
    rw [e3, fJ_join]
    have := hg.2 (qI T i)
    omega
/-- (f) .. and CUT one that loses it -/
theorem qL_f (M : qM r sp) {e : Nat} (he : e < 32) {j E : BS} (h : qL r e j E 1) : ∃ i, i < 32 ∧ E i = true ∧ qL r e j (qE E i) 2 := by
  obtain ⟨m, hm, hg⟩ := h
  obtain ⟨T0, hT0, hmin⟩ := q_arg (P := fun T => fJ r j E T = m) (fun T => qc T) 32 (by obtain ⟨⟨T, hT⟩, -⟩ := id hm; exact ⟨T, hT, fb_ct_le _ 32⟩)
  obtain ⟨Y1, hY1, hmin2⟩ := q_arg (P := fun T => fJ r (qI j e) E T = m + 1) (fun T => qc T) 32 (by obtain ⟨⟨T, hT⟩, -⟩ := id hg; exact ⟨T, hT, fb_ct_le _ 32⟩)
  -- within E
  have hYE : fJ r (qI j e) E (qN Y1 E) = m + 1 := by
    have h1 := fJ_cut M (qI j e) E Y1
    have h2 := hg.2 (qN Y1 E)
    omega
  obtain ⟨Y, hY⟩ : ∃ Y, Y = qN Y1 E := ⟨_, rfl⟩
  rw [← hY] at hYE
  have hsub : qS Y E := by rw [hY]; exact qN_r _ _
  have hYmin : ∀ T, fJ r (qI j e) E T = m + 1 → qc Y ≤ qc T := fun T hT => by
    have h1 := hmin2 T hT
    have h2 : qc Y ≤ qc Y1 := by rw [hY]; exact qc_mono (qN_l _ _) 32
    omega
  have hYe := hYE
  rw [fJ_e M j E Y he] at hYe
  have h3 := hm.2 Y
  have hs : sp (qU j Y) e = true := by
    by_cases hs : sp (qU j Y) e = true
    · exact hs
    · rw [if_neg hs] at hYe; omega
  have hex : ∃ i, i < 32 ∧ Y i = true ∧ T0 i = false := by
    refine Classical.byContradiction (fun hno => ?_)
    have h4 : sp (qU j T0) e = true := sp_up M he (fun i hi hy => by
      cases hT : T0 i
      · exact absurd ⟨i, hi, hy, hT⟩ hno
      · rfl) hs
    have h5 := hg.2 T0
    rw [fJ_e M j E T0 he, if_pos h4, hT0] at h5
    omega
  obtain ⟨i, hi, hyi, hti⟩ := hex
  have hE := hsub i hyi
  have h6 := fJ_del r j E T0 hi hE hti
  refine ⟨i, hi, hE, m - 1, ⟨⟨T0, by omega⟩, fun T => ?_⟩, ⟨?_, fun T => ?_⟩⟩
  · have := fJ_del_ge r j E T hi hE
    have := hm.2 T
    omega
  · -- the least is reached
    have hlow : ∀ T, m + 1 ≤ fJ r (qI j e) (qE E i) T := by
      intro T
      have h1 := fJ_era M (qI j e) E T i
      have h2 := fJ_del r (qI j e) E (qE T i) hi hE (by unfold qE; simp)
      rcases Nat.lt_or_ge (m + 1) (fJ r (qI j e) E (qE T i)) with h5 | h5
      · omega
      · exfalso
        have h7 := hg.2 (qE T i)
        have h8 := fJ_sub M (qI j e) E Y (qE T i)
        have h9 := hg.2 (qN Y (qE T i))
        have h10 := hg.2 (qU Y (qE T i))
        have h11 := hYmin (qN Y (qE T i)) (by omega)
        have h12 : qc (qN Y (qE T i)) ≤ qc (qE Y i) := qc_mono (fun k hk => by
          have hk : (Y k && (T k && !decide (k = i))) = true := hk
          show (Y k && !decide (k = i)) = true
          cases hYk : Y k <;> simp_all) 32
        have h13 : qc (qE Y i) + 1 = qc Y := qc_era hi hyi
        omega
    refine ⟨qE Y i, ?_⟩
    have h1 := hlow (qE Y i)
    have h2 := fJ_era M (qI j e) E Y i
    have h4 := fJ_del_le r (qI j e) E Y i
    omega
  · have h1 := fJ_era M (qI j e) E T i
    have h2 := fJ_del r (qI j e) E (qE T i) hi hE (by unfold qE; simp)
    rcases Nat.lt_or_ge (m + 1) (fJ r (qI j e) E (qE T i)) with h5 | h5
    · omega
    · exfalso
      have h7 := hg.2 (qE T i)
      have h8 := fJ_sub M (qI j e) E Y (qE T i)
      have h9 := hg.2 (qN Y (qE T i))
      have h10 := hg.2 (qU Y (qE T i))
      have h11 := hYmin (qN Y (qE T i)) (by omega)
      have h12 : qc (qN Y (qE T i)) ≤ qc (qE Y i) := qc_mono (fun k hk => by
        have hk : (Y k && (T k && !decide (k = i))) = true := hk
        show (Y k && !decide (k = i)) = true
        cases hYk : Y k <;> simp_all) 32
      have h13 : qc (qE Y i) + 1 = qc Y := qc_era hi hyi
      omega
end
