/-! ===== bringOpen ===== -/
theorem jSt_0 {ut vt : Nat → Nat} {uF : sx_C} {u' v' : Nat → Nat} (hN : fNet uF u' v') (h5 : gi uF 5 = 0) (h6 : gi uF 6 = 0) (h8 : gi uF 8 = 0) : jSt ut vt q0 uF := by
  have M := rr_mat hN.2 (bt 0)
  have hF : ∀ t z, fmk uF t z = false := fun t z => by
    cases t
    · show bt (gi uF 6) z = false; rw [h6, b_0]
    · show bt (gi uF 5) z = false; rw [h5, b_0]
  have hFq : ∀ t, fmk uF t = q0 := fun t => funext (fun z => hF t z)
  have hc : qc q0 = 0 := fb_ct_zero.mpr (fun k _ => rfl)
  refine ⟨h8, u', v', hN, fun i _ hi => (by cases hi), ⟨fun t => ?_, fun z hz => (by rw [hF] at hz; cases hz.1)⟩, fun i hi => ?_, q0, ?_, fun i _ hi => (by cases hi)⟩
  · unfold qInd
    rw [hFq t, (M t).2.2.2, hc]
  · have hi : (fmk uF true i || fmk uF false i) = true := hi
    rw [hF, hF] at hi; cases hi
  · unfold qTight
    have e : ∀ t, qN (fmk uF t) q0 = q0 := fun t => by rw [hFq t]; rfl
    rw [(M true).2.2.2, (M false).2.2.2, e, e, hc]
theorem qR_I {S : BS} {i : Nat} (h : S i = true) : qI (qR S i) i = qR S (i + 1) := by
  funext z
  show ((S z && decide (z < i)) || decide (z = i)) = (S z && decide (z < i + 1))
  by_cases e : z = i
  · subst e; simp [h]
  · have : decide (z < i + 1) = decide (z < i) := by by_cases h2 : z < i <;> simp [h2] <;> omega
    rw [this]; simp [e]
theorem qR_N {S : BS} {i : Nat} (h : S i = false) : qR S (i + 1) = qR S i := by
  funext z
  show (S z && decide (z < i + 1)) = (S z && decide (z < i))
  by_cases e : z = i
  · subst e; simp [h]
  · have : decide (z < i + 1) = decide (z < i) := by by_cases h2 : z < i <;> simp [h2] <;> omega
    rw [this]
theorem bringOpen_ok {N : Nat} (hN20 : 20 ≤ N) {uN uF : sx_C} {K L A B : Nat} {u v : Nat → Nat} (hN : cNet uN K L A B u v) {p : Int32} {f : Nat → Nat} (hp : pk p f) (hf : ∀ k, k < 8 → f k < 8) {O : Int32} (hO : ∀ z, bt O z = true → z < L) {ut vt : Nat → Nat} (hk : ∀ i, ut i < 8 ∧ vt i < 8) (hut : ∀ i, i < L → ut i = f (u i) ∧ vt i = f (v i)) {u0 v0 : Nat → Nat} (hF : fNet uF u0 v0) : ∃ uF', f_X3_bringOpen N uN p O uF = some uF' ∧ jSt ut vt (bt O) uF' := by
  obtain ⟨h1, h2, h3, h4, h5, ⟨h6, h7, h8⟩, h9, h10⟩ := id hN
  have loop : ∀ n i (w : sx_C), 14 - i < n → i ≤ 14 → jSt ut vt (qR (bt O) i) w → ∃ uF', f_X3_bringOpen_9 N uN n p O (nI i) w = some uF' ∧ jSt ut vt (bt O) uF' := by
    intro n
    induction n with
    | zero => intro i w hn; omega
    | succ n ih =>
      intro i w hn hi hw
      unfold f_X3_bringOpen_9
      have e14 : (14 : Int32) = nI 14 := rfl
      by_cases hc : 14 ≤ i
      · rw [e14, if_pos ((nle (by omega) (by omega)).mpr hc)]
        have : i = 14 := by omega
        subst this
        refine ⟨w, rfl, ?_⟩
        have e : qR (bt O) 14 = bt O := by
          funext z
          show (bt O z && decide (z < 14)) = bt O z
          cases hz : bt O z
          · rfl
          · have := hO z hz
            have : decide (z < 14) = true := by simp; omega
            rw [this]; rfl
        rwa [e] at hw
      · rw [e14, if_neg (fun h => hc ((nle (by omega) (by omega)).mp h)), has_ok _ (by omega)]
        have e1 : nI i + 1 = nI (i + 1) := nadd i 1
        show ∃ uF', (if bt O i = true then _ else _) = some uF' ∧ _
        by_cases hb : bt O i = true
        · rw [if_pos hb]
          have hiL := hO i hb
          rcases cline_ok hN (nI i) with ⟨-, hno⟩ | ⟨i2, -, -, ht⟩
          · exact absurd rfl (hno i hiL)
          · rw [ht]
            have hu := (h10 i).1
            have hv := (h10 i).2
            have r0 : sp_rd (ga uN 0) 14 (nI i) = some (nI (u i)) := by rw [rd_ok (by omega) (by decide), (h5 i hiL).1]
            have r1 : sp_rd (ga uN 1) 14 (nI i) = some (nI (v i)) := by rw [rd_ok (by omega) (by decide), (h5 i hiL).2]
            have n0 : f_X8_numberOf p (nI (u i)) = some (nI (ut i)) := by rw [num_ok hp (by omega) (hf _ (by omega)), ← (hut i hiL).1]
            have n1 : f_X8_numberOf p (nI (v i)) = some (nI (vt i)) := by rw [num_ok hp (by omega) (hf _ (by omega)), ← (hut i hiL).2]
            obtain ⟨w1, b, w2, q1, q2, q3, -, -⟩ := j_bring hN20 hk hw (x := i) (by omega) (fun z hz => by
              have hz : (bt O z && decide (z < i)) = true := hz
              simp at hz; omega) (by show (bt O i && decide (i < i)) = false; simp)
            simp only [Option.bind_some, if_true, r0, r1, n0, n1, q1, q2]
            show ∃ uF', f_X3_bringOpen_9 N uN n p O (nI i + 1) w2 = some uF' ∧ _
            rw [e1]
            rw [qR_I hb] at q3
            exact ih (i + 1) w2 (by omega) (by omega) q3
        · rw [if_neg hb]
          have hb' : bt O i = false := by cases h : bt O i <;> simp_all
          show ∃ uF', f_X3_bringOpen_9 N uN n p O (nI i + 1) w = some uF' ∧ _
          rw [e1]
          exact ih (i + 1) w (by omega) (by omega) (by rw [qR_N hb']; exact hw)
  unfold f_X3_bringOpen f_X0_begin
  show ∃ uF', f_X3_bringOpen_9 N uN N p O 0 (si (si (si (si uF 5 0) 6 0) 7 0) 8 0) = some uF' ∧ _
  have hq : qR (bt O) 0 = q0 := by
    funext z
    show (bt O z && decide (z < 0)) = false
    simp
  refine loop N 0 _ (by omega) (by omega) ?_
  rw [hq]
  exact jSt_0 (u' := u0) (v' := v0) ⟨fun i hi => by rw [ga_si, ga_si, ga_si, ga_si]; exact hF.1 i hi, hF.2⟩ (by rw [gi_si, if_neg (by decide), gi_si, if_neg (by decide), gi_si, if_neg (by decide), gi_si, if_pos rfl]) (by rw [gi_si, if_neg (by decide), gi_si, if_neg (by decide), gi_si, if_pos rfl]) (by rw [gi_si, if_pos rfl])
