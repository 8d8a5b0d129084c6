/-! ===== safe: some places with both ends carry two trees ===== -/
section
variable {u v u' v' : Nat → Nat} {j E : BS} {e : Nat}
theorem gs_self {u v : Nat → Nat} (S : BS) {i : Nat} (h : u i = v i) : gs u v S i = true := by unfold gs; rw [h]; simp
theorem safe_of_two (hk : ∀ i, u i < 8 ∧ v i < 8) (hk' : ∀ i, u' i < 8 ∧ v' i < 8) (he : e < 32) (hu : ∀ i, i < 32 → qI E e i = true → u' i = la u v j (u i) ∧ v' i = la u v j (v i)) {P : BS} (hP8 : ∀ k, P k = true → k < 8) (hPa : P (u' e) = true) (hPb : P (v' e) = true) (h : qMost (fun _ => rk u' v') (qW u' v' E P) (2 * (fb_ct P 8 - 1))) : qL (rk u v) e j E 0 := by
  have M := gs_mat hk
  have M' := gs_mat hk'
  have huE : ∀ i, i < 32 → E i = true → u' i = la u v j (u i) ∧ v' i = la u v j (v i) := fun i hi hE => hu i hi (qI_s E e i hE)
  obtain ⟨⟨F, f1, f2, f3⟩, -⟩ := h
  obtain ⟨W, hWd⟩ : ∃ W, W = qW u' v' E P := ⟨_, rfl⟩
  rw [← hWd] at f2
  have hWP : ∀ i, W i = true → P (u' i) = true ∧ P (v' i) = true := fun i hi => by
    rw [hWd] at hi
    unfold qW at hi
    simp at hi
    exact hi.2.2
  have hWE : qS W E := fun i hi => by
    rw [hWd] at hi
    unfold qW at hi
    simp at hi
    exact hi.1
  have hWr := (rk_in (u' := u') (v' := v') (W := W) (fun i _ => hWP i) hP8 hPa).1
  have hFr : ∀ t, qc (F t) ≤ rk u' v' W := fun t => by
    have h1 := f1.1 t
    unfold qInd at h1
    rw [← h1]
    exact q_mono M' (fun i hi => f2 i (by
      show (F true i || F false i) = true
      cases t <;> simp [hi]))
  have h1 := hFr true
  have h2 := hFr false
  unfold qSz at f3
  have hFt : rk u' v' (F true) + 1 = fb_ct P 8 := by
    have h3 := f1.1 true
    unfold qInd at h3
    dsimp only at h3
    omega
  have hcon := ((rk_in (u' := u') (v' := v') (W := F true) (fun i _ hi => hWP i (f2 i (by show (F true i || F false i) = true; rw [hi]; rfl))) hP8 hPa).2.mp hFt) (v' e) hPb
  obtain ⟨m, hm⟩ := q_min_ex (fJ (rk u v) j E)
  obtain ⟨⟨T0, hT0⟩, hlow⟩ := hm
  obtain ⟨T, hTE, hT⟩ : ∃ T, qS T E ∧ fJ (rk u v) j E T = m := ⟨qN T0 E, qN_r _ _, by
    have h3 := fJ_cut M j E T0
    have h4 := hlow (qN T0 E)
    omega⟩
  have hr : ∀ T, qS T E → fJ (rk u v) j E T = 2 * rk u v j + (rk u' v' T + rk u' v' T + qc (qD E T)) := fun T hT => by
    unfold fJ
    rw [rk_ct hk hk' huE (fun i _ hi => hT i hi)]
    omega
  have hsub := fJ_sub M j E T W
  have hb := q_bound (r := fun _ => rk u' v') (sp := fun _ => gs u' v') (fun _ => M') f1 f2 (qN T W)
  have hc : qc (qD E (qN T W)) = qc (qD E W) + qc (qD W (qN T W)) := by
    have h3 := qc_un (qD E W) (qD W (qN T W)) 32
    have e1 : qU (qD E W) (qD W (qN T W)) = qD E (qN T W) := by
      funext k
      show ((E k && !W k) || (W k && !(T k && W k))) = (E k && !(T k && W k))
      cases hW : W k
      · cases E k <;> cases T k <;> rfl
      · rw [hWE k hW]; cases T k <;> rfl
    have e2 : fb_ct (qN (qD E W) (qD W (qN T W))) 32 = 0 := fb_ct_zero.mpr (fun k _ => by
      show ((E k && !W k) && (W k && !(T k && W k))) = false
      cases W k <;> cases E k <;> rfl)
    rw [e1] at h3
    show fb_ct _ 32 = fb_ct _ 32 + fb_ct _ 32
    omega
  have h3 := hr (qN T W) (qS_t (qN_l _ _) hTE)
  have h4 := hr W hWE
  have hX : fJ (rk u v) j E (qU T W) ≤ m := by
    unfold qSz at hb
    omega
  have hXE : qS (qU T W) E := fun i hi => by
    have hi : (T i || W i) = true := hi
    cases hTi : T i
    · rw [hTi] at hi; exact hWE i (by simpa using hi)
    · exact hTE i hTi
  have hg1 : gs u' v' (qU T W) e = true := by
    unfold gs
    simp
    refine la_mono (S := F true) (fun i _ hi => ?_) hcon.symm
    exact qU_r T W i (f2 i (by show (F true i || F false i) = true; rw [hi]; rfl))
  have hg : gs u v (qU j (qU T W)) e = true := by
    rw [← gs_ct hu (S := qU T W) (fun i _ hi => qI_s E e i (hXE i hi)) he (by unfold qI; simp)]
    exact hg1
  refine ⟨m, ⟨⟨T, hT⟩, hlow⟩, ⟨⟨qU T W, ?_⟩, fun Y => ?_⟩⟩
  · rw [fJ_e M j E _ he, if_pos hg]
    have := hlow (qU T W)
    omega
  · have := hlow Y
    rw [fJ_e M j E Y he]
    omega
theorem two_of_safe (hk : ∀ i, u i < 8 ∧ v i < 8) (hk' : ∀ i, u' i < 8 ∧ v' i < 8) (he : e < 32) (hu : ∀ i, i < 32 → qI E e i = true → u' i = la u v j (u i) ∧ v' i = la u v j (v i)) {Q : BS} (hQ : ∀ i, i < 32 → qI E e i = true → Q (u' i) = true ∧ Q (v' i) = true) {n : Nat} (hE32 : ∀ i, E i = true → i < 32) (hmost : qMost (fun _ => rk u' v') E n) (h : qL (rk u v) e j E 0) : ∃ P : BS, (∀ k, P k = true → k < 8) ∧ qS P Q ∧ P (u' e) = true ∧ P (v' e) = true ∧ qMost (fun _ => rk u' v') (qW u' v' E P) (2 * (fb_ct P 8 - 1)) := by
  have M := gs_mat hk
  have M' := gs_mat hk'
  have huE : ∀ i, i < 32 → E i = true → u' i = la u v j (u i) ∧ v' i = la u v j (v i) := fun i hi hE => hu i hi (qI_s E e i hE)
  have hIe : qI E e e = true := by unfold qI; simp
  obtain ⟨m, hm, hg⟩ := h
  have hmn := q_min_one hm (q_most_min hk hk' huE hmost)
  obtain ⟨⟨T0, hT0⟩, -⟩ := id hg
  obtain ⟨T, hTE, hT⟩ : ∃ T, qS T E ∧ fJ (rk u v) (qI j e) E T = m := ⟨qN T0 E, qN_r _ _, by
    have h3 := fJ_cut M (qI j e) E T0
    have h4 := hg.2 (qN T0 E)
    omega⟩
  rw [fJ_e M j E T he] at hT
  have h0 := hm.2 T
  have hs : gs u v (qU j T) e = true := by
    by_cases hs : gs u v (qU j T) e = true
    · exact hs
    · rw [if_neg hs] at hT; omega
  rw [if_pos hs] at hT
  have hs' : la u' v' T (u' e) = la u' v' T (v' e) := by
    rw [← gs_ct hu (S := T) (fun i _ hi => qI_s E e i (hTE i hi)) he hIe] at hs
    unfold gs at hs
    simpa using hs
  have hr : fJ (rk u v) j E T = 2 * rk u v j + (rk u' v' T + rk u' v' T + qc (qD E T)) := by
    unfold fJ
    rw [rk_ct hk hk' huE (fun i _ hi => hTE i hi)]
    omega
  obtain ⟨⟨F, f1, f2, f3⟩, -⟩ := hmost
  -- both hold as much of T as T's rank
  have l1 := q_lb (r := fun _ => rk u' v') (sp := fun _ => gs u' v') (fun _ => M') f1 T true
  have l2 := q_lb (r := fun _ => rk u' v') (sp := fun _ => gs u' v') (fun _ => M') f1 T false
  have c1 : qc (F true) = qc (qN (F true) T) + qc (qD (F true) T) := qc_split _ _ 32
  have c2 : qc (F false) = qc (qN (F false) T) + qc (qD (F false) T) := qc_split _ _ 32
  have c3 : qc (qD (F true) T) + qc (qD (F false) T) ≤ qc (qD E T) := by
    have h := qc_un (qD (F true) T) (qD (F false) T) 32
    have e0 : fb_ct (qN (qD (F true) T) (qD (F false) T)) 32 = 0 := fb_ct_zero.mpr (fun k _ => by
      show ((F true k && !T k) && (F false k && !T k)) = false
      cases h2 : F true k <;> cases h3 : F false k <;> simp
      exact absurd ⟨h2, h3⟩ (f1.2 k))
    have h4 : fb_ct (qU (qD (F true) T) (qD (F false) T)) 32 ≤ fb_ct (qD E T) 32 := qc_mono (fun i hi => by
      have hi : ((F true i && !T i) || (F false i && !T i)) = true := hi
      show (E i && !T i) = true
      simp at hi
      rcases hi with ⟨h5, h6⟩ | ⟨h5, h6⟩
      · rw [f2 i (by show (F true i || F false i) = true; rw [h5]; rfl), h6]; rfl
      · rw [f2 i (by show (F true i || F false i) = true; rw [h5]; simp), h6]; rfl) 32
    show fb_ct _ 32 + fb_ct _ 32 ≤ fb_ct _ 32
    omega
  unfold qSz at f3
  have hfull : ∀ t, qc (qN (F t) T) = rk u' v' T := by
    intro t
    cases t <;> omega
  have hspan : ∀ t i, i < 32 → T i = true → la u' v' (qN (F t) T) (u' i) = la u' v' (qN (F t) T) (v' i) := by
    intro t i hi hTi
    have h1 := q_ind_sub M' (f1.1 t) (qN_l (F t) T)
    unfold qInd at h1
    have h2 : gs u' v' (qN (F t) T) i = true := by
      rw [q_spn M' hi]
      have h3 : rk u' v' (qI (qN (F t) T) i) ≤ rk u' v' T := q_mono M' (qS_I (qN_r _ _) hTi)
      have h4 : rk u' v' (qN (F t) T) ≤ rk u' v' (qI (qN (F t) T) i) := q_mono M' (qI_s _ _)
      have := hfull t
      omega
    unfold gs at h2
    simpa using h2
  obtain ⟨P, hPd⟩ : ∃ P : BS, P = fun k => decide (k < 8) && (la u' v' T k == la u' v' T (u' e)) := ⟨_, rfl⟩
  have hPi : ∀ k, P k = true ↔ k < 8 ∧ la u' v' T k = la u' v' T (u' e) := fun k => by rw [hPd]; simp
  have hP8 : ∀ k, P k = true → k < 8 := fun k hk => ((hPi k).mp hk).1
  have hPa : P (u' e) = true := (hPi _).mpr ⟨(hk' e).1, rfl⟩
  have hPb : P (v' e) = true := (hPi _).mpr ⟨(hk' e).2, hs'.symm⟩
  have hTP : ∀ i, i < 32 → T i = true → (P (u' i) = true ↔ P (v' i) = true) := fun i hi hTi => by
    rw [hPi, hPi, la_in hi hTi]
    exact ⟨fun h => ⟨(hk' i).2, h.2⟩, fun h => ⟨(hk' i).1, h.2⟩⟩
  have hPQ : qS P Q := by
    intro k hkP
    have hQl := lh_in (u' := u') (v' := v') (W := T) (P := Q) (fun i hi hTi => hQ i hi (qI_s E e i (hTE i hTi))) (hQ e he hIe).1 (hk' e).1
    cases hQk : Q k
    · have h1 := hQl.1 k hQk
      have h2 := hQl.2.1 (u' e) (hQ e he hIe).1
      have h3 := ((hPi k).mp hkP).2
      rw [← h3, h1, hQk] at h2
      cases h2
    · rfl
  obtain ⟨G, hGd⟩ : ∃ G : Bool → BS, G = fun t => qN (qN (F t) T) (fun i => P (u' i)) := ⟨_, rfl⟩
  have hGi : ∀ t i, G t i = true ↔ F t i = true ∧ T i = true ∧ P (u' i) = true := fun t i => by
    rw [hGd]
    show ((F t i && T i) && P (u' i)) = true ↔ _
    simp [and_assoc]
  have hGF : ∀ t, qS (G t) (F t) := fun t i hi => ((hGi t i).mp hi).1
  have hGW : ∀ t, qS (G t) (qW u' v' E P) := by
    intro t i hi
    obtain ⟨h1, h2, h3⟩ := (hGi t i).mp hi
    have hEi : E i = true := hTE i h2
    have hi32 := hE32 i hEi
    have h4 := (hTP i hi32 h2).mp h3
    have h5 : ¬ u' i = v' i := fun h5 => by
      have h6 := q_ind_era M' hi32 (f1.1 t) h1
      rw [gs_self _ h5] at h6
      cases h6
    unfold qW
    simp [hEi, h3, h4, h5]
  have hGc : ∀ t k, P k = true → la u' v' (G t) k = la u' v' (G t) (u' e) := by
    intro t k hkP
    have h1 : la u' v' (qN (F t) T) k = la u' v' (qN (F t) T) (u' e) := la_least (S := T) (fun i hi hTi => hspan t i hi hTi) ((hPi k).mp hkP).2
    have h2 := la_least (u := u') (v := v') (S := qN (F t) T) (q := fun k => if P k = true then la u' v' (G t) k else 100) (fun i hi hFi => by
      have hFi : (F t i && T i) = true := hFi
      simp at hFi
      show (if P (u' i) = true then la u' v' (G t) (u' i) else 100) = (if P (v' i) = true then la u' v' (G t) (v' i) else 100)
      by_cases h3 : P (u' i) = true
      · rw [if_pos h3, if_pos ((hTP i hi hFi.2).mp h3)]
        exact la_in hi ((hGi t i).mpr ⟨hFi.1, hFi.2, h3⟩)
      · rw [if_neg h3, if_neg (fun h4 => h3 ((hTP i hi hFi.2).mpr h4))]) h1
    simpa [hkP, hPa] using h2
  have hWP : ∀ i, qW u' v' E P i = true → P (u' i) = true ∧ P (v' i) = true := fun i hi => by
    unfold qW at hi
    simp at hi
    exact hi.2.2
  have hGr : ∀ t, rk u' v' (G t) + 1 = fb_ct P 8 := fun t => (rk_in (fun i _ hi => hWP i (hGW t i hi)) hP8 hPa).2.mpr (hGc t)
  have hWr := (rk_in (u' := u') (v' := v') (W := qW u' v' E P) (fun i _ => hWP i) hP8 hPa).1
  have hGind : ∀ t, qInd (rk u' v') (G t) := fun t => q_ind_sub M' (f1.1 t) (hGF t)
  have hGW2 : rk u' v' (G true) ≤ rk u' v' (qW u' v' E P) := q_mono M' (hGW true)
  have g1 := hGr true
  have g2 := hGr false
  have i1 := hGind true
  have i2 := hGind false
  unfold qInd at i1 i2
  refine ⟨P, hP8, hPQ, hPa, hPb, ⟨G, ⟨hGind, fun z hz => f1.2 z ⟨hGF true z hz.1, hGF false z hz.2⟩⟩, fun i hi => ?_, ?_⟩, qW u' v' E P, ?_⟩
  · have hi : (G true i || G false i) = true := hi
    cases h1 : G true i
    · rw [h1] at hi; exact hGW false i (by simpa using hi)
    · exact hGW true i h1
  · unfold qSz; omega
  · have e0 : qc (qD (qW u' v' E P) (qW u' v' E P)) = 0 := fb_ct_zero.mpr (fun k _ => by
      show (qW u' v' E P k && !qW u' v' E P k) = false
      cases qW u' v' E P k <;> rfl)
    rw [e0]
    dsimp only
    omega
end
