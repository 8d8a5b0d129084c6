/-! ===== the most lines of two forests and the least of fJ ===== -/
section
variable {r : BS → Nat} {sp : BS → Nat → Bool}
/-- one line more among the lines -/
theorem fJ_more (M : qM r sp) {j E : BS} {e a b : Nat} (he : e < 32) (hE : E e = false) (ha : qMin (fJ r j E) a) (hb : qMin (fJ r (qI j e) E) b) : qMin (fJ r j (qI E e)) (min (a + 1) b) := by
  have h1 : ∀ T, fJ r j (qI E e) (qI T e) = fJ r (qI j e) E T := fun T => by
    rw [← fJ_join r j (qI E e) T e, qEI hE]
  have h2 : ∀ T, T e = false → fJ r j (qI E e) T = fJ r j E T + 1 := fun T hT => by
    have h := fJ_del r j (qI E e) T he (by unfold qI; simp) hT
    rw [qEI hE] at h
    exact h.symm
  have low : ∀ T, min (a + 1) b ≤ fJ r j (qI E e) T := fun T => by
    cases hT : T e
    · rw [h2 T hT]; have := ha.2 T; omega
    · have := h1 T
      rw [qI_mem hT] at this
      rw [this]; have := hb.2 T; omega
  refine ⟨?_, low⟩
  obtain ⟨⟨A, hA⟩, -⟩ := ha
  obtain ⟨⟨B, hB⟩, -⟩ := hb
  by_cases hc : b ≤ a + 1
  · exact ⟨qI B e, by rw [h1 B, hB]; omega⟩
  · refine ⟨A, ?_⟩
    cases hT : A e
    · rw [h2 A hT, hA]; omega
    · exfalso
      have h3 := h1 A
      rw [qI_mem hT] at h3
      have h4 := low A
      have h5 : fJ r (qI j e) E A = fJ r j E A := by
        unfold fJ
        have e1 : qU (qI j e) A = qU j A := by
          funext k
          show ((j k || decide (k = e)) || A k) = (j k || A k)
          by_cases hk : k = e
          · subst hk; simp [hT]
          · simp [hk]
        rw [e1]
      omega
end
/-- the most of two forests over the places is the least of fJ, but for the joined lines' rank -/
theorem q_most_min {u v : Nat → Nat} (hk : ∀ i, u i < 8 ∧ v i < 8) {j : BS} {u' v' : Nat → Nat} (hk' : ∀ i, u' i < 8 ∧ v' i < 8) {E : BS} (hu : ∀ i, i < 32 → E i = true → u' i = la u v j (u i) ∧ v' i = la u v j (v i)) {m : Nat} (h : qMost (fun _ => rk u' v') E m) : qMin (fJ (rk u v) j E) (m + 2 * rk u v j) := by
  have M := gs_mat hk
  have M' := gs_mat hk'
  have hr : ∀ T, qS T E → fJ (rk u v) j E T = 2 * rk u v j + (rk u' v' T + rk u' v' T + qc (qD E T)) := fun T hT => by
    unfold fJ
    rw [rk_ct hk hk' hu (fun i _ hi => hT i hi)]
    omega
  obtain ⟨⟨F, f1, f2, f3⟩, T, hT⟩ := h
  have low : ∀ T, m + 2 * rk u v j ≤ fJ (rk u v) j E T := fun T => by
    have h1 := fJ_cut M j E T
    have h2 := hr (qN T E) (qN_r _ _)
    have h3 := q_bound (r := fun _ => rk u' v') (sp := fun _ => gs u' v') (fun _ => M') f1 f2 (qN T E)
    omega
  refine ⟨⟨qN T E, ?_⟩, low⟩
  have h2 := hr (qN T E) (qN_r _ _)
  have h3 := low (qN T E)
  have h4 : rk u' v' (qN T E) ≤ rk u' v' T := q_mono M' (qN_l _ _)
  have e : qD E (qN T E) = qD E T := by
    funext k
    show (E k && !(T k && E k)) = (E k && !T k)
    cases E k <;> cases T k <;> rfl
  rw [e] at h2
  dsimp only at hT
  omega
/-- lines that lie alike serve alike -/
theorem rk_par {u v : Nat → Nat} {e e' : Nat} (he : e < 32) (he' : e' < 32) (hu : u e = u e') (hv : v e = v e') (S : BS) : rk u v (qI S e) = rk u v (qI S e') := by
  unfold rk
  rw [la_ins u v S he, la_ins u v S he', hu, hv]
theorem rk_parU {u v : Nat → Nat} {e e' : Nat} (he : e < 32) (he' : e' < 32) (hu : u e = u e') (hv : v e = v e') (j T : BS) : rk u v (qU (qI j e) T) = rk u v (qU (qI j e') T) := by
  have e1 : ∀ x, qU (qI j x) T = qI (qU j T) x := fun x => by
    funext k
    show ((j k || decide (k = x)) || T k) = ((j k || T k) || decide (k = x))
    cases j k <;> cases T k <;> cases decide (k = x) <;> rfl
  rw [e1, e1]
  exact rk_par he he' hu hv _
/-- the ends' line once more -/
theorem fJ_twice {u v : Nat → Nat} (hk : ∀ i, u i < 8 ∧ v i < 8) {j E : BS} {e e' b : Nat} (he : e < 32) (he' : e' < 32) (hne : e ≠ e') (hu : u e = u e') (hv : v e = v e') (hE : E e = false) (hb : qMin (fJ (rk u v) (qI j e) E) b) : qMin (fJ (rk u v) (qI j e') (qI E e)) b := by
  have M := gs_mat hk
  have h1 : ∀ T, fJ (rk u v) (qI j e') (qI E e) T = 2 * rk u v (qU (qI j e) T) + qc (qD (qI E e) T) := fun T => by
    unfold fJ
    rw [rk_parU he he' hu hv]
  refine ⟨?_, fun T => ?_⟩
  · obtain ⟨⟨B, hB⟩, -⟩ := hb
    refine ⟨qI B e, ?_⟩
    rw [h1]
    unfold fJ at hB
    have e1 : qU (qI j e) (qI B e) = qU (qI j e) B := by
      funext k
      show ((j k || decide (k = e)) || (B k || decide (k = e))) = ((j k || decide (k = e)) || B k)
      cases j k <;> cases B k <;> cases decide (k = e) <;> rfl
    have e2 : qc (qD (qI E e) (qI B e)) = qc (qD E B) := fb_ct_cong (fun k _ => by
      show ((E k || decide (k = e)) && !(B k || decide (k = e))) = (E k && !B k)
      by_cases hk : k = e
      · subst hk; simp [hE]
      · simp [hk])
    rw [e1, e2]
    exact hB
  · rw [h1]
    have h2 := hb.2 T
    unfold fJ at h2
    have h3 : qc (qD E T) ≤ qc (qD (qI E e) T) := qc_mono (fun k hk => by
      have hk : (E k && !T k) = true := hk
      show ((E k || decide (k = e)) && !T k) = true
      cases hEk : E k <;> simp_all) 32
    omega
/-- what the class asks: can the ends' line be brought, and then once more -/
theorem qL_of_two {u v : Nat → Nat} (hk : ∀ i, u i < 8 ∧ v i < 8) {j E : BS} {e e' a : Nat} (he : e < 32) (he' : e' < 32) (hne : e ≠ e') (hu : u e = u e') (hv : v e = v e') (hE : E e = false) (hE' : E e' = false) (ha : qMin (fJ (rk u v) j E) a) :
    (qMin (fJ (rk u v) j (qI E e)) a → qL (rk u v) e j E 0) ∧ (qMin (fJ (rk u v) j (qI E e)) (a + 1) → qMin (fJ (rk u v) j (qI (qI E e) e')) (a + 1) → qL (rk u v) e j E 1) ∧ (qMin (fJ (rk u v) j (qI E e)) (a + 1) → qMin (fJ (rk u v) j (qI (qI E e) e')) (a + 2) → qL (rk u v) e j E 2) := by
  have M := gs_mat hk
  obtain ⟨k, hk2, m, hm, hg⟩ := qL_ex M he j E
  have := q_min_one ha hm
  subst this
  have h1 := fJ_more M he hE hm hg
  have h2 := fJ_twice hk (j := j) he he' hne hu hv hE hg
  have hE2 : qI E e e' = false := by
    show (E e' || decide (e' = e)) = false
    rw [hE']
    simp
    exact fun h => hne h.symm
  have h3 := fJ_more M he' hE2 h1 h2
  refine ⟨fun h4 => ?_, fun h4 h5 => ?_, fun h4 h5 => ?_⟩
  · have := q_min_one h4 h1
    have hk0 : k = 0 := by omega
    subst hk0
    exact ⟨a, hm, hg⟩
  · have := q_min_one h4 h1
    have := q_min_one h5 h3
    have hk0 : k = 1 := by omega
    subst hk0
    exact ⟨a, hm, hg⟩
  · have := q_min_one h4 h1
    have := q_min_one h5 h3
    have hk0 : k = 2 := by omega
    subst hk0
    exact ⟨a, hm, hg⟩
/-! ===== sets of places that carry two trees ===== -/
def qW (u' v' : Nat → Nat) (E P : BS) : BS := fun i => E i && (!(u' i == v' i) && (P (u' i) && P (v' i)))
/-- lines within P: at least one head in P, all others apart -/
theorem lh_in {u' v' : Nat → Nat} {W P : BS} (hW : ∀ i, i < 32 → W i = true → P (u' i) = true ∧ P (v' i) = true) {a : Nat} (ha : P a = true) (ha8 : a < 8) :
    (∀ k, P k = false → la u' v' W k = k) ∧ (∀ k, P k = true → P (la u' v' W k) = true) ∧ lh (la u' v' W) = fb_ct (fun k => !P k) 8 + fb_ct (fun k => P k && (la u' v' W k == k)) 8 := by
  have hok := lb_ok u' v' W 32
  have hq : ∀ k l, la u' v' W k = la u' v' W l → (if P k = true then a else k) = (if P l = true then a else l) := fun k l h =>
    la_least (q := fun k => if P k = true then a else k) (fun i hi hs => by
      obtain ⟨h1, h2⟩ := hW i hi hs
      simp [h1, h2]) h
  have h1 : ∀ k, P k = false → la u' v' W k = k := fun k hP => by
    have h2 := hq (la u' v' W k) k (hok.2 k)
    rw [hP] at h2
    simp at h2
    by_cases h3 : P (la u' v' W k) = true
    · rw [if_pos h3] at h2
      rw [← h2, ha] at hP; cases hP
    · rw [if_neg h3] at h2; exact h2
  have h2 : ∀ k, P k = true → P (la u' v' W k) = true := fun k hP => by
    have h3 := hq (la u' v' W k) k (hok.2 k)
    rw [if_pos hP] at h3
    by_cases h4 : P (la u' v' W k) = true
    · exact h4
    · rw [if_neg h4] at h3
      rw [h3]; exact ha
  refine ⟨h1, h2, ?_⟩
  unfold lh
  rw [← fb_ct_or (fun k _ h => by simp at h; rw [h.1] at h; simp at h)]
  refine fb_ct_cong (fun k hk => ?_)
  cases hP : P k
  · simp [h1 k hP]
  · simp
theorem rk_in {u' v' : Nat → Nat} {W P : BS} (hW : ∀ i, i < 32 → W i = true → P (u' i) = true ∧ P (v' i) = true) (hP8 : ∀ k, P k = true → k < 8) {a : Nat} (ha : P a = true) :
    rk u' v' W + 1 ≤ fb_ct P 8 ∧ ((rk u' v' W + 1 = fb_ct P 8) ↔ ∀ k, P k = true → la u' v' W k = la u' v' W a) := by
  have ha8 := hP8 a ha
  obtain ⟨h1, h2, h3⟩ := lh_in hW ha ha8
  have hok := lb_ok u' v' W 32
  have hn := fb_ct_not P 8
  have hle := lh_le (la u' v' W)
  have hx : 0 < fb_ct (fun k => P k && (la u' v' W k == k)) 8 := fb_ct_pos.mpr ⟨la u' v' W a, Nat.lt_of_le_of_lt (hok.1 a) ha8, by
    have := hok.2 a
    have h4 := h2 a ha
    simp [h4, this]⟩
  refine ⟨by unfold rk; omega, ?_⟩
  have hiff : (rk u' v' W + 1 = fb_ct P 8) ↔ fb_ct (fun k => P k && (la u' v' W k == k)) 8 = 1 := by unfold rk; omega
  rw [hiff]
  constructor
  · intro h k hk
    have hk8 := hP8 k hk
    -- one head alone
    have h5 : ∀ x y, x < 8 → y < 8 → (P x && (la u' v' W x == x)) = true → (P y && (la u' v' W y == y)) = true → x = y := by
      intro x y hx8 hy8 hx1 hy1
      have ex : ∀ z, z < 8 → (P z && (la u' v' W z == z)) = true → fb_ct (fun k => P k && (la u' v' W k == k)) z = 0 := fun z hz hz1 => by
        have := fb_ct_mono (fun k => P k && (la u' v' W k == k)) (m := z + 1) (n := 8) (by omega)
        rw [fb_ct_succ, if_pos hz1] at this
        omega
      exact fb_ct_kth_one hx1 hy1 (by rw [ex x hx8 hx1, ex y hy8 hy1])
    refine h5 _ _ (Nat.lt_of_le_of_lt (hok.1 k) hk8) (Nat.lt_of_le_of_lt (hok.1 a) ha8) ?_ ?_
    · have := hok.2 k; have h4 := h2 k hk; simp [h4, this]
    · have := hok.2 a; have h4 := h2 a ha; simp [h4, this]
  · intro h
    have h6 : fb_ct (fun k => P k && (la u' v' W k == k)) 8 ≤ fb_ct (fun k => decide (k = la u' v' W a)) 8 := fb_ct_sub (fun k hk h7 => by
      simp at h7
      have h8 := h k h7.1
      have h9 : la u' v' W k = k := h7.2
      simp
      rw [← h9]; exact h8)
    have h7 : ∀ c, c < 8 → fb_ct (fun k => decide (k = c)) 8 = 1 := by decide
    rw [h7 _ (Nat.lt_of_le_of_lt (hok.1 a) ha8)] at h6
    omega
