/-! ===== the judge lays the open lines and brings them ===== -/
theorem la_cong2 {u1 v1 u2 v2 : Nat → Nat} {S : BS} (h : ∀ i, i < 32 → S i = true → u1 i = u2 i ∧ v1 i = v2 i) : la u1 v1 S = la u2 v2 S :=
  l_uniq (lb_ok u1 v1 S 32) (lb_ok u2 v2 S 32)
    (fun _ _ => la_least (fun i hi hs => by rw [(h i hi hs).1, (h i hi hs).2]; exact la_in hi hs))
    (fun _ _ => la_least (fun i hi hs => by rw [← (h i hi hs).1, ← (h i hi hs).2]; exact la_in hi hs))
theorem rk_cong2 {u1 v1 u2 v2 : Nat → Nat} {S : BS} (h : ∀ i, i < 32 → S i = true → u1 i = u2 i ∧ v1 i = v2 i) : rk u1 v1 S = rk u2 v2 S := by
  unfold rk; rw [la_cong2 h]
theorem rr_cong2 {u1 v1 u2 v2 : Nat → Nat} {S : BS} (Bq : BS) (h : ∀ i, i < 32 → S i = true → u1 i = u2 i ∧ v1 i = v2 i) (t : Bool) : rr u1 v1 Bq t S = rr u2 v2 Bq t S := by
  cases t
  · exact rk_cong2 h
  · exact rk_cong2 (fun i hi hs => h i hi (by
      have hs : (S i && !Bq i) = true := hs
      cases hS : S i
      · rw [hS] at hs; cases hs
      · rfl))
theorem done_cong {u1 v1 u2 v2 : Nat → Nat} (hk1 : ∀ i, u1 i < 8 ∧ v1 i < 8) {Bq E : BS} {F : Bool → BS} (h : ∀ i, i < 32 → E i = true → u1 i = u2 i ∧ v1 i = v2 i) (hD : qDone (rr u1 v1 Bq) E F) : qDone (rr u2 v2 Bq) E F := by
  have M := rr_mat hk1 Bq
  obtain ⟨⟨h1, h2⟩, h3, T, h4, h5⟩ := hD
  have hFE : ∀ t z, F t z = true → E z = true := fun t z hz => h3 z (by
    show (F true z || F false z) = true
    cases t <;> simp [hz])
  refine ⟨⟨fun t => ?_, h2⟩, h3, qN T E, ?_, fun i hi he hq => ?_⟩
  · unfold qInd
    rw [← rr_cong2 Bq (fun i hi hs => h i hi (hFE t i hs)) t]
    exact h1 t
  · have e : ∀ t, qN (F t) (qN T E) = qN (F t) T := fun t => by
      funext z
      show (F t z && (T z && E z)) = (F t z && T z)
      cases hz : F t z
      · rfl
      · rw [hFE t z hz]; cases T z <;> rfl
    unfold qTight at *
    rw [← rr_cong2 Bq (S := qN T E) (fun i hi hs => h i hi (qN_r T E i hs)) true, ← rr_cong2 Bq (S := qN T E) (fun i hi hs => h i hi (qN_r T E i hs)) false]
    have l1 := q_lb M ⟨h1, h2⟩ (qN T E) true
    have l2 := q_lb M ⟨h1, h2⟩ (qN T E) false
    have m1 := q_mono (M true) (qN_l T E)
    have m2 := q_mono (M false) (qN_l T E)
    rw [e] at l1 l2
    rw [e, e]
    omega
  · show (T i && E i) = true
    rw [h5 i hi he hq, he]; rfl
theorem rr_0 (u' v' : Nat → Nat) : rr u' v' (bt 0) = fun _ => rk u' v' := by
  funext t S
  cases t
  · rfl
  · show rk u' v' (qD S (bt 0)) = rk u' v' S
    congr 1
    funext z
    show (S z && !bt 0 z) = S z
    rw [b_0]; cases S z <;> rfl
theorem lay_ok {uF : sx_C} {u' v' : Nat → Nat} (hN : fNet uF u' v') {x a b : Nat} (hx : x < 17) (ha : a < 8) (hb : b < 8) : ∃ uF', f_X0_lay (nI x) (nI a) (nI b) uF = some uF' ∧ (∀ k, gi uF' k = gi uF k) ∧ fNet uF' (fun i => if i = x then a else u' i) (fun i => if i = x then b else v' i) := by
  unfold f_X0_lay
  have e0 : (0 : Int32) = nI 0 := rfl
  have e17 : (17 : Int32) = nI 17 := rfl
  rw [e0, if_neg (fun h => by have := (nlt (by omega) (by omega)).mp h; omega), e17, if_neg (fun h => by have := (nle (by omega) (by omega)).mp h; omega), if_pos (in_ok hx (by decide)), if_pos (in_ok hx (by decide)), nI_clamp (by omega), and7 a ha, and7 b hb]
  refine ⟨_, rfl, fun k => by rw [gi_sa, gi_sa], fun i hi => ?_, fun i => ?_⟩
  · have g0 : ga (sa (sa uF 0 x (nI a)) 1 x (nI b)) 0 i = if i = x then nI a else ga uF 0 i := by
      rw [ga_sa (sa uF 0 x (nI a)) 1 x 0 (nI b), if_neg (by decide), ga_up]
    have g1 : ga (sa (sa uF 0 x (nI a)) 1 x (nI b)) 1 i = if i = x then nI b else ga uF 1 i := by
      rw [ga_up, ga_sa uF 0 x 1 (nI a), if_neg (by decide : ¬ 1 = 0)]
    rw [g0, g1]
    by_cases e : i = x
    · rw [if_pos e, if_pos e]; simp [e]
    · rw [if_neg e, if_neg e]
      have := hN.1 i hi
      simp [e]
      exact this
  · dsimp only
    by_cases e : i = x
    · rw [if_pos e, if_pos e]; exact ⟨ha, hb⟩
    · rw [if_neg e, if_neg e]; exact hN.2 i
/-- the state of the judge's forests: the lines E over the places ut, vt -/
def jSt (ut vt : Nat → Nat) (E : BS) (uF : sx_C) : Prop := gi uF 8 = 0 ∧ ∃ u' v', fNet uF u' v' ∧ (∀ i, i < 32 → E i = true → u' i = ut i ∧ v' i = vt i) ∧ qDone (rr u' v' (bt 0)) E (fmk uF)
/-- a line laid and brought -/
theorem j_bring {N : Nat} (hN20 : 20 ≤ N) {ut vt : Nat → Nat} (hk : ∀ i, ut i < 8 ∧ vt i < 8) {E : BS} {uF : sx_C} (h : jSt ut vt E uF) {x : Nat} (hx : x < 17) (hE : ∀ z, E z = true → z < 17) (hEx : E x = false) : ∃ uF1 b uF', f_X0_lay (nI x) (nI (ut x)) (nI (vt x)) uF = some uF1 ∧ f_X0_bring N (nI x) uF1 = some (b, uF') ∧ jSt ut vt (qI E x) uF' ∧ gi uF' 7 = (gi uF 7 ||| sp_shl 1 (nI x)) ∧ qSz (fmk uF') = qSz (fmk uF) + (if b = true then 1 else 0) := by
  obtain ⟨h8, u', v', hN, hu, hD⟩ := h
  obtain ⟨uF1, l1, l2, l3⟩ := lay_ok hN hx (hk x).1 (hk x).2
  have hF1 : fmk uF1 = fmk uF := fmk_eq (l2 5) (l2 6)
  have hD1 : qDone (rr (fun i => if i = x then ut x else u' i) (fun i => if i = x then vt x else v' i) (bt (gi uF1 8))) E (fmk uF1) := by
    rw [l2 8, h8, hF1]
    refine done_cong hN.2 (fun i hi he => ?_) hD
    have : ¬ i = x := fun e => by rw [e, hEx] at he; cases he
    rw [if_neg this, if_neg this]; exact ⟨rfl, rfl⟩
  obtain ⟨b, uF', b1, b2, b3, b4, b5, b6⟩ := bring_done hN20 l3 hx hE hEx hD1
  refine ⟨uF1, b, uF', l1, b1, ⟨by rw [b4, l2 8]; exact h8, _, _, b2, fun i hi he => ?_, ?_⟩, by rw [b3, l2 7], by rw [b6, hF1]⟩
  · by_cases e : i = x
    · rw [if_pos e, if_pos e, e]; exact ⟨rfl, rfl⟩
    · rw [if_neg e, if_neg e]
      have he : (E i || decide (i = x)) = true := he
      exact hu i hi (by simpa [e] using he)
  · rw [l2 8, h8] at b5
    exact b5
/-- .. and the most of it -/
theorem j_most {ut vt : Nat → Nat} (hk : ∀ i, ut i < 8 ∧ vt i < 8) {E : BS} {uF : sx_C} (h : jSt ut vt E uF) : qMost (fun _ => rk ut vt) E (qSz (fmk uF)) := by
  obtain ⟨-, u', v', hN, hu, hD⟩ := h
  have h1 := done_cong hN.2 hu hD
  have h2 := q_done_most (rr_mat hk (bt 0)) h1
  rw [rr_0] at h2
  exact h2
