/-! ===== the class's sets: layOpen, linesInside, carriesTwoTrees ===== -/
section
variable {N : Nat} {uN uF uP : sx_C} {K L A B : Nat} {u v : Nat → Nat}
theorem layOpen_ok (hN20 : 20 ≤ N) (hN : cNet uN K L A B u v) {p : Int32} {f : Nat → Nat} (hp : pk p f) (hf : ∀ k, k < 8 → f k < 8) (hO : ∀ z, bt (gi uP 2) z = true → z < L) {u0 v0 : Nat → Nat} (hF : fNet uF u0 v0) : ∃ uF' u1 v1, f_X7_layOpen N uN uP p uF = some uF' ∧ fNet uF' u1 v1 ∧ ∀ i, bt (gi uP 2) i = true → u1 i = f (u i) ∧ v1 i = f (v i) := by
  obtain ⟨h1, h2, h3, h4, h5, ⟨h6, h7, h8⟩, h9, h10⟩ := id hN
  have loop : ∀ n i (w : sx_C) (u1 v1 : Nat → Nat), 14 - i < n → i ≤ 14 → fNet w u1 v1 → (∀ z, z < i → bt (gi uP 2) z = true → u1 z = f (u z) ∧ v1 z = f (v z)) → ∃ uF' u1 v1, f_X7_layOpen_2 N uN uP n p (nI i) w = some uF' ∧ fNet uF' u1 v1 ∧ ∀ i, bt (gi uP 2) i = true → u1 i = f (u i) ∧ v1 i = f (v i) := by
    intro n
    induction n with
    | zero => intro i w u1 v1 hn; omega
    | succ n ih =>
      intro i w u1 v1 hn hi hw hlo
      unfold f_X7_layOpen_2
      by_cases hc : 14 ≤ i
      · rw [if_pos (show (14 : Int32) ≤ nI i from (nle (a := 14) (by omega) (by omega)).mpr hc)]
        exact ⟨w, u1, v1, rfl, hw, fun z hz => hlo z (by have := hO z hz; omega) hz⟩
      · rw [if_neg (show ¬ (14 : Int32) ≤ nI i from fun h => hc ((nle (a := 14) (by omega) (by omega)).mp h)), has_ok _ (by omega), Option.bind_some]
        unfold f_X7_layOpen_64
        rw [show nI i + 1 = nI (i + 1) from nadd i 1]
        cases hb : bt (gi uP 2) i
        · rw [if_neg (by decide)]
          refine ih (i + 1) w u1 v1 (by omega) (by omega) hw (fun z z1 z2 => ?_)
          by_cases e : z = i
          · rw [e, hb] at z2; cases z2
          · exact hlo z (by omega) z2
        · rw [if_pos rfl]
          have hiL := hO i hb
          rcases cline_ok hN (nI i) with ⟨-, hno⟩ | ⟨i2, -, -, ht⟩
          · exact absurd rfl (hno i hiL)
          · have hu := (h10 i).1
            have hv := (h10 i).2
            have r0 : sp_rd (ga uN 0) 14 (nI i) = some (nI (u i)) := by rw [rd_ok (by omega) (by decide), (h5 i hiL).1]
            have r1 : sp_rd (ga uN 1) 14 (nI i) = some (nI (v i)) := by rw [rd_ok (by omega) (by decide), (h5 i hiL).2]
            have n0 := num_ok hp (k := u i) (by omega) (hf _ (by omega))
            have n1 := num_ok hp (k := v i) (by omega) (hf _ (by omega))
            obtain ⟨w1, l1, l2, l3⟩ := lay_ok hw (x := i) (by omega) (hf (u i) (by omega)) (hf (v i) (by omega))
            simp only [ht, r0, r1, n0, n1, l1, Option.bind_some, ↓reduceIte]
            refine ih (i + 1) w1 _ _ (by omega) (by omega) l3 (fun z z1 z2 => ?_)
            by_cases e : z = i
            · rw [if_pos e, if_pos e, e]; exact ⟨rfl, rfl⟩
            · rw [if_neg e, if_neg e]; exact hlo z (by omega) z2
  unfold f_X7_layOpen
  exact loop N 0 uF u0 v0 (by omega) (by omega) hF (fun z hz => by omega)
theorem inside_ok {u1 v1 : Nat → Nat} (hF : fNet uF u1 v1) {i : Nat} (hi : i < 17) (S : Int32) : f_X0_isInside uF (nI i) S = some (!(u1 i == v1 i) && (bt S (u1 i) && bt S (v1 i))) := by
  have a := (hF.2 i).1
  have b := (hF.2 i).2
  unfold f_X0_isInside
  rw [if_neg (nI_ne_neg (by omega)).2.2, if_neg (show ¬ (17 : Int32) ≤ nI i from fun h => by have := (nle (a := 17) (by omega) (by omega)).mp h; omega), rd_ok hi (by decide), rd_ok hi (by decide), (hF.1 i hi).1, (hF.1 i hi).2]
  simp only [Option.bind_some]
  by_cases e : u1 i = v1 i
  · rw [if_pos (by rw [e]), e]; simp
  · rw [if_neg (fun h => e ((neq (by omega) (by omega)).mp h))]
    have hx : bt (sp_ushr S (nI (u1 i)) &&& sp_ushr S (nI (v1 i))) 0 = (bt S (u1 i) && bt S (v1 i)) := by
      rw [b_and, h_ushr S (by omega), h_ushr S (by omega)]; rfl
    have e2 : (u1 i == v1 i) = false := by simp [e]
    rw [e2]
    cases hz : (bt S (u1 i) && bt S (v1 i))
    · rw [if_pos ((h_and1 _).mpr (by rw [hx]; exact hz))]; rfl
    · rw [if_neg (fun h => by rw [(h_and1 _), hx, hz] at h; cases h)]; rfl
theorem linesInside_ok (hN20 : 20 ≤ N) {u1 v1 : Nat → Nat} (hF : fNet uF u1 v1) (hO : ∀ z, bt (gi uP 2) z = true → z < 14) (S : Int32) : ∃ W, f_X7_linesInside N uF uP S = some W ∧ ∀ z, bt W z = qW u1 v1 (bt (gi uP 2)) (bt S) z := by
  have loop : ∀ n i (W : Int32), 14 - i < n → i ≤ 14 → (∀ z, bt W z = qR (qW u1 v1 (bt (gi uP 2)) (bt S)) i z) → ∃ W', f_X7_linesInside_4 N uF uP n S W (nI i) = some W' ∧ ∀ z, bt W' z = qW u1 v1 (bt (gi uP 2)) (bt S) z := by
    intro n
    induction n with
    | zero => intro i W hn; omega
    | succ n ih =>
      intro i W hn hi hW
      unfold f_X7_linesInside_4
      by_cases hc : 14 ≤ i
      · rw [if_pos (show (14 : Int32) ≤ nI i from (nle (a := 14) (by omega) (by omega)).mpr hc)]
        refine ⟨W, rfl, fun z => ?_⟩
        rw [hW z]
        unfold qR
        by_cases hz : z < i
        · simp [hz]
        · have : qW u1 v1 (bt (gi uP 2)) (bt S) z = false := by
            unfold qW
            cases hb : bt (gi uP 2) z
            · rfl
            · have := hO z hb; omega
          rw [this]; rfl
      · rw [if_neg (show ¬ (14 : Int32) ≤ nI i from fun h => hc ((nle (a := 14) (by omega) (by omega)).mp h)), has_ok _ (by omega), Option.bind_some, inside_ok hF (by omega), Option.bind_some]
        unfold f_X7_linesInside_39
        rw [show nI i + 1 = nI (i + 1) from nadd i 1]
        have hWi : qW u1 v1 (bt (gi uP 2)) (bt S) i = (bt (gi uP 2) i && (!(u1 i == v1 i) && (bt S (u1 i) && bt S (v1 i)))) := rfl
        cases hb : bt (gi uP 2) i
        · rw [if_neg (by decide)]
          exact ih (i + 1) W (by omega) (by omega) (fun z => by rw [hW z, qR_N (by rw [hWi, hb]; rfl)])
        · rw [if_pos rfl]
          cases hq : (!(u1 i == v1 i) && (bt S (u1 i) && bt S (v1 i)))
          · rw [if_neg (by decide)]
            exact ih (i + 1) W (by omega) (by omega) (fun z => by rw [hW z, qR_N (by rw [hWi, hb, hq]; rfl)])
          · rw [if_pos rfl]
            refine ih (i + 1) _ (by omega) (by omega) (fun z => ?_)
            rw [b_or, bit_all (by omega), hW z, ← qR_I (by rw [hWi, hb, hq]; rfl)]
            rfl
  unfold f_X7_linesInside
  exact loop N 0 0 (by omega) (by omega) (fun z => by rw [b_0]; unfold qR; simp)
theorem carries_ok (hN20 : 20 ≤ N) {u1 v1 ut vt : Nat → Nat} (hk : ∀ i, ut i < 8 ∧ vt i < 8) (hF : fNet uF u1 v1) (hO : ∀ z, bt (gi uP 2) z = true → z < 14) (hut : ∀ i, bt (gi uP 2) i = true → u1 i = ut i ∧ v1 i = vt i) {S : Int32} (hS1 : 1 ≤ qc (bt S)) :
    ∃ b uF', f_X7_carriesTwoTrees N uP S uF = some (b, uF') ∧ fNet uF' u1 v1 ∧ (b = true ↔ qMost (fun _ => rk ut vt) (qW ut vt (bt (gi uP 2)) (bt S)) (2 * (qc (bt S) - 1))) ∧ (b = true → jSt ut vt (qW ut vt (bt (gi uP 2)) (bt S)) uF' ∧ (∀ z, bt (gi uF' 7) z = qW ut vt (bt (gi uP 2)) (bt S) z) ∧ qSz (fmk uF') = 2 * (qc (bt S) - 1)) := by
  have M := gs_mat hk
  obtain ⟨W, w1, w2⟩ := linesInside_ok hN20 hF hO S
  have hqW : qW u1 v1 (bt (gi uP 2)) (bt S) = qW ut vt (bt (gi uP 2)) (bt S) := by
    funext z
    unfold qW
    cases hz : bt (gi uP 2) z
    · rfl
    · rw [(hut z hz).1, (hut z hz).2]
  rw [hqW] at w2
  have hWb : bt W = qW ut vt (bt (gi uP 2)) (bt S) := funext w2
  have hWO : ∀ z, bt W z = true → bt (gi uP 2) z = true := fun z hz => by
    rw [w2] at hz
    unfold qW at hz
    simp at hz
    exact hz.1
  have hcS := qc_le32 (bt S)
  have hcW := qc_le32 (bt W)
  have e1 : 2 * (nI (qc (bt S)) - 1) = nI (2 * (qc (bt S) - 1)) := by
    have := nsub (qc (bt S) - 1) 1
    rw [show qc (bt S) - 1 + 1 = qc (bt S) by omega] at this
    rw [show (1 : Int32) = nI 1 from rfl, this, show (2 : Int32) = nI 2 from rfl, nmul]
  unfold f_X7_carriesTwoTrees
  simp only [bitCount_ok, w1, Option.bind_some]
  rw [e1, ← hWb]
  by_cases hle : 2 * (qc (bt S) - 1) ≤ qc (bt W)
  · rw [if_pos ((nle (by omega) (by omega)).mpr hle)]
    unfold f_X0_begin
    rw [Option.bind_some]
    have loop : ∀ n i (w : sx_C), 14 - i < n → i ≤ 14 → fNet w u1 v1 → gi w 8 = 0 → qDone (rr u1 v1 (bt 0)) (qR (bt W) i) (fmk w) → (∀ z, bt (gi w 7) z = qR (bt W) i z) → ∃ b uF', f_X7_carriesTwoTrees_35 N uP n (nI (2 * (qc (bt S) - 1))) W (nI i) w = some (b, uF') ∧ fNet uF' u1 v1 ∧ (b = true ↔ qMost (fun _ => rk ut vt) (bt W) (2 * (qc (bt S) - 1))) ∧ (b = true → jSt ut vt (bt W) uF' ∧ (∀ z, bt (gi uF' 7) z = bt W z) ∧ qSz (fmk uF') = 2 * (qc (bt S) - 1)) := by
      intro n
      induction n with
      | zero => intro i w hn; omega
      | succ n ih =>
        intro i w hn hi hw h8 hD h7
        unfold f_X7_carriesTwoTrees_35
        by_cases hc : 14 ≤ i
        · rw [if_pos (show (14 : Int32) ≤ nI i from (nle (a := 14) (by omega) (by omega)).mpr hc)]
          have e : qR (bt W) i = bt W := by
            funext z
            unfold qR
            cases hz : bt W z
            · rfl
            · have := hO z (hWO z hz)
              have : z < i := by omega
              simp [this]
          rw [e] at hD h7
          have hj : jSt ut vt (bt W) w := ⟨h8, u1, v1, hw, fun z _ hz => hut z (hWO z hz), hD⟩
          have hmost := j_most hk hj
          have hle2 := q_most_le hmost
          rw [total_ok, Option.bind_some]
          by_cases es : qSz (fmk w) = 2 * (qc (bt S) - 1)
          · rw [if_pos (by rw [es])]
            exact ⟨true, w, rfl, hw, ⟨fun _ => by rw [← es]; exact hmost, fun _ => rfl⟩, fun _ => ⟨hj, h7, es⟩⟩
          · rw [if_neg (fun h => es ((neq (by omega) (by omega)).mp h))]
            exact ⟨false, w, rfl, hw, ⟨fun h => (by cases h), fun h => absurd (q_most_one (fun _ => M) hmost h) es⟩, fun h => (by cases h)⟩
        · rw [if_neg (show ¬ (14 : Int32) ≤ nI i from fun h => hc ((nle (a := 14) (by omega) (by omega)).mp h)), has_ok _ (by omega), Option.bind_some]
          unfold f_X7_carriesTwoTrees_61
          rw [show nI i + 1 = nI (i + 1) from nadd i 1]
          cases hb : bt W i
          · rw [if_neg (by decide)]
            exact ih (i + 1) w (by omega) (by omega) hw h8 (by rw [qR_N hb]; exact hD) (fun z => by rw [h7 z, qR_N hb])
          · rw [if_pos rfl]
            have hni : qR (bt W) i i = false := by unfold qR; simp
            obtain ⟨b, w', q1, q2, q3, q4, q5, -⟩ := bring_done hN20 hw (x := i) (by omega) (E := qR (bt W) i) (fun z hz => by unfold qR at hz; simp at hz; omega) hni (by rw [h8]; exact hD)
            simp only [q1, Option.bind_some]
            rw [h8, qR_I hb] at q5
            refine ih (i + 1) w' (by omega) (by omega) q2 (by rw [q4]; exact h8) q5 (fun z => ?_)
            rw [q3, b_or, bit_all (by omega), h7 z, ← qR_I hb]; rfl
    have hq : qR (bt W) 0 = q0 := by funext z; unfold qR q0; simp
    obtain ⟨w0, hw0⟩ : ∃ w0, w0 = si (si (si (si uF 5 0) 6 0) 7 0) 8 0 := ⟨_, rfl⟩
    rw [← hw0]
    have hN0 : fNet w0 u1 v1 := by rw [hw0]; exact hF
    have g5 : gi w0 5 = 0 := by rw [hw0, gi_si, if_neg (by decide), gi_si, if_neg (by decide), gi_si, if_neg (by decide), gi_si, if_pos rfl]
    have g6 : gi w0 6 = 0 := by rw [hw0, gi_si, if_neg (by decide), gi_si, if_neg (by decide), gi_si, if_pos rfl]
    have g7 : gi w0 7 = 0 := by rw [hw0, gi_si, if_neg (by decide), gi_si, if_pos rfl]
    have g8 : gi w0 8 = 0 := by rw [hw0, gi_si, if_pos rfl]
    refine loop N 0 w0 (by omega) (by omega) hN0 g8 ?_ (fun z => by rw [g7, hq]; exact b_0 z)
    rw [hq]
    have M0 := rr_mat hF.2 (bt 0)
    have hFm : ∀ t, fmk w0 t = q0 := fun t => by
      funext z
      cases t
      · show bt (gi w0 6) z = false; rw [g6, b_0]
      · show bt (gi w0 5) z = false; rw [g5, b_0]
    have hc0 : qc q0 = 0 := fb_ct_zero.mpr (fun k _ => rfl)
    refine ⟨⟨fun t => ?_, fun z hz => (by rw [hFm] at hz; cases hz.1)⟩, fun i hi => ?_, q0, ?_, fun i _ hi => (by cases hi)⟩
    · unfold qInd
      rw [hFm t, (M0 t).2.2.2, hc0]
    · have hi : (fmk w0 true i || fmk w0 false i) = true := hi
      rw [hFm, hFm] at hi; cases hi
    · unfold qTight
      have e : ∀ t, qN (fmk w0 t) q0 = q0 := fun t => by rw [hFm t]; rfl
      rw [(M0 true).2.2.2, (M0 false).2.2.2, e, e, hc0]
  · rw [if_neg (fun h => hle ((nle (by omega) (by omega)).mp h))]
    refine ⟨false, uF, rfl, hF, ⟨fun h => (by cases h), fun h => absurd (q_most_le h) hle⟩, fun h => (by cases h)⟩
end
