/-! ===== bring, from its start ===== -/
theorem bit_all {x : Nat} (hx : x < 17) (w : Nat) : bt (sp_shl 1 (nI x)) w = decide (w = x) := by
  by_cases hw : w < 32
  · exact h_bit (by omega) hw
  · rw [b_big (by omega)]
    have : ¬ w = x := by omega
    simp [this]
theorem bring_ok {N : Nat} (hN20 : 20 ≤ N) {u' v' : Nat → Nat} {uF : sx_C} (hN : fNet uF u' v') {x : Nat} (hx : x < 17) (hTwo : qTwo (rr u' v' (bt (gi uF 8))) (fmk uF)) (h17 : ∀ t z, fmk uF t z = true → z < 17) (hxF : ∀ t, fmk uF t x = false) :
    ∃ b uF', f_X0_bring N (nI x) uF = some (b, uF') ∧ fNet uF' u' v' ∧ gi uF' 7 = (gi uF 7 ||| sp_shl 1 (nI x)) ∧ gi uF' 8 = gi uF 8 ∧ ((b = false ∧ (gi uF' 5 = gi uF 5 ∧ gi uF' 6 = gi uF 6) ∧ ∃ S : BS, qTight (rr u' v' (bt (gi uF 8))) (fmk uF) S ∧ S x = true) ∨ (b = true ∧ qTwo (rr u' v' (bt (gi uF 8))) (fmk uF') ∧ ∀ z, qUn (fmk uF') z = qI (qUn (fmk uF)) x z)) := by
  unfold f_X0_bring
  have e0 : (0 : Int32) = nI 0 := rfl
  have e17 : (17 : Int32) = nI 17 := rfl
  rw [e0, if_neg (fun h => by have := (nlt (by omega) (by omega)).mp h; omega), e17, if_pos ((nlt (by omega) (by omega)).mpr hx), if_pos (in_ok (by omega) (by decide)), if_pos (in_ok hx (by decide)), nI_clamp (by omega), nI_clamp (by omega)]
  obtain ⟨w, hw⟩ : ∃ w, w = sa (sa (si uF 7 (gi uF 7 ||| sp_shl 1 (nI x))) 3 0 (nI x)) 2 x (-1) := ⟨_, rfl⟩
  rw [← hw]
  have hgi : ∀ k, gi w k = if k = 7 then gi uF 7 ||| sp_shl 1 (nI x) else gi uF k := fun k => by rw [hw, gi_sa, gi_sa, gi_si]
  have hga : ∀ k, k ≠ 2 → k ≠ 3 → ga w k = ga uF k := fun k h2 h3 => by rw [hw, ga_sa, if_neg h2, ga_sa, if_neg h3, ga_si]
  have hNw : fNet w u' v' := ⟨fun i hi => by rw [hga 0 (by decide) (by decide), hga 1 (by decide) (by decide)]; exact hN.1 i hi, hN.2⟩
  have hFw : fmk w = fmk uF := by
    funext t
    cases t
    · show bt (gi w 6) = bt (gi uF 6); rw [hgi, if_neg (by decide)]
    · show bt (gi w 5) = bt (gi uF 5); rw [hgi, if_neg (by decide)]
  have hBw : bt (gi w 8) = bt (gi uF 8) := by rw [hgi, if_neg (by decide)]
  have hq3 : ga w 3 0 = nI x := by rw [hw, ga_sa, if_neg (by decide), ga_up, if_pos rfl]
  have hq2 : ga w 2 x = -1 := by rw [hw, ga_up, if_pos rfl]
  have hc1 : fb_ct (bt (sp_shl 1 (nI x))) 17 = 1 := by
    have h7 : ∀ c, c < 17 → fb_ct (fun k => decide (k = c)) 17 = 1 := by decide
    rw [← h7 x hx]
    exact fb_ct_cong (fun k _ => bit_all hx k)
  have hS : qSea u' v' (bt (gi uF 8)) (fmk uF) x w (fun _ => x) (fun _ => 0) 1 0 (sp_shl 1 (nI x)) := by
    refine ⟨⟨by omega, by omega, by omega, hc1⟩, fun t ht => ?_, fun t t' h1 h2 => by omega, fun z => ?_, ⟨rfl, hq2⟩, fun t h1 h2 => by omega, fun t h1 h2 => by omega, fun t h1 => by omega⟩
    · have : t = 0 := by omega
      subst this
      exact ⟨hx, hq3⟩
    · rw [bit_all hx]
      constructor
      · intro h; exact ⟨0, by omega, (of_decide_eq_true h).symm⟩
      · rintro ⟨t, -, h⟩; simp [h]
  have e1 : (1 : Int32) = nI 1 := rfl
  rcases bring_loop hN20 hNw hFw hBw hTwo h17 hxF N 1 0 (sp_shl 1 (nI x)) w (fun _ => x) (fun _ => 0) (by omega) (g234_r w) hS with ⟨uF', a1, a2, S, a3, a4⟩ | ⟨uF', a1, a2, a3, a4, a5⟩
  · refine ⟨false, uF', a1, g234_net a2 hNw, by rw [a2.1, hgi, if_pos rfl], by rw [a2.1, hgi, if_neg (by decide)], Or.inl ⟨rfl, ⟨by rw [a2.1, hgi, if_neg (by decide)], by rw [a2.1, hgi, if_neg (by decide)]⟩, S, a3, a4⟩⟩
  · refine ⟨true, uF', a1, ⟨fun i hi => ?_, hN.2⟩, by rw [a2 7 (by decide) (by decide), hgi, if_pos rfl], by rw [a2 8 (by decide) (by decide), hgi, if_neg (by decide)], Or.inr ⟨rfl, a4, a5⟩⟩
    rw [a3 0 (by decide) (by decide) (by decide), a3 1 (by decide) (by decide) (by decide)]
    exact hNw.1 i hi
theorem fmk_eq {a b : sx_C} (h5 : gi a 5 = gi b 5) (h6 : gi a 6 = gi b 6) : fmk a = fmk b := by
  funext t
  cases t
  · show bt (gi a 6) = bt (gi b 6); rw [h6]
  · show bt (gi a 5) = bt (gi b 5); rw [h5]
/-- one line more, over a state in which all is done -/
theorem bring_done {N : Nat} (hN20 : 20 ≤ N) {u' v' : Nat → Nat} {uF : sx_C} (hN : fNet uF u' v') {x : Nat} (hx : x < 17) {E : BS} (hE : ∀ z, E z = true → z < 17) (hEx : E x = false) (hD : qDone (rr u' v' (bt (gi uF 8))) E (fmk uF)) :
    ∃ b uF', f_X0_bring N (nI x) uF = some (b, uF') ∧ fNet uF' u' v' ∧ gi uF' 7 = (gi uF 7 ||| sp_shl 1 (nI x)) ∧ gi uF' 8 = gi uF 8 ∧ qDone (rr u' v' (bt (gi uF 8))) (qI E x) (fmk uF') ∧ qSz (fmk uF') = qSz (fmk uF) + (if b = true then 1 else 0) := by
  have M := rr_mat hN.2 (bt (gi uF 8))
  have hFE : ∀ t z, fmk uF t z = true → E z = true := fun t z hz => hD.2.1 z (by
    show (fmk uF true z || fmk uF false z) = true
    cases t <;> simp [hz])
  have hxF : ∀ t, fmk uF t x = false := fun t => by
    cases h : fmk uF t x
    · rfl
    · have := hFE t x h; rw [hEx] at this; cases this
  obtain ⟨b, uF', h1, h2, h3, h4, h5⟩ := bring_ok hN20 hN hx hD.1 (fun t z hz => hE z (hFE t z hz)) hxF
  refine ⟨b, uF', h1, h2, h3, h4, ?_⟩
  rcases h5 with ⟨rfl, ⟨g5, g6⟩, S, g1, g2⟩ | ⟨rfl, g1, g2⟩
  · rw [fmk_eq g5 g6]
    exact ⟨q_done_no M hD g1 g2, by simp⟩
  · have hd := q_done_yes M hD g1 g2
    refine ⟨hd, ?_⟩
    rw [qSz_un g1.2, qSz_un hD.1.2, if_pos rfl]
    have e : qUn (fmk uF') = qI (qUn (fmk uF)) x := funext g2
    rw [e]
    exact qc_ins (by omega) (by show (fmk uF true x || fmk uF false x) = false; rw [hxF, hxF]; rfl)
