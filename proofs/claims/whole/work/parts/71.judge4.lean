theorem bL_lt {x : Int32} {L i : Nat} (h : bL x L i = true) : i < L := by
  unfold bL at h
  simp at h
  exact h.2
theorem ux_lt {u : Nat → Nat} {K a : Nat} (hu : ∀ i, u i < K) (ha : a < K) (i : Nat) : ux u a i < K := by
  unfold ux
  by_cases h : i = 15 ∨ i = 16
  · rw [if_pos h]; exact ha
  · rw [if_neg h]; exact hu i
theorem ux_low (u : Nat → Nat) (a : Nat) {i : Nat} (h : i < 15) : ux u a i = u i := if_neg (by omega)
theorem ux_la {u v : Nat → Nat} {a b : Nat} {S : BS} (h : ∀ i, S i = true → i < 15) : la (ux u a) (ux v b) S = la u v S :=
  la_cong2 (fun i _ hi => ⟨ux_low u a (h i hi), ux_low v b (h i hi)⟩)
/-- the class's lacking: what JOIN lacks between a and b -/
theorem lackB_ok {N : Nat} (hN20 : 20 ≤ N) {uN uF : sx_C} {K L A B : Nat} {u v : Nat → Nat} (hN : cNet uN K L A B u v) {u0 v0 : Nat → Nat} (hF : fNet uF u0 v0) (J G : Int32) {a b : Nat} (ha : a < K) (hb : b < K) : ∃ k uF', k ≤ 2 ∧ f_X3_lackingBetween N uN J G (nI a) (nI b) uF = some (nI k, uF') ∧ qL (rk (ux u a) (ux v b)) 15 (bL J L) (bt (opn L J G)) k ∧ ∃ u' v', fNet uF' u' v' := by
  obtain ⟨h1, h2, h3, h4, h5, ⟨h6, h7, h8⟩, h9, h10⟩ := id hN
  have hk : ∀ i, ux u a i < 8 ∧ ux v b i < 8 := fun i => ⟨Nat.lt_of_lt_of_le (ux_lt (fun i => (h10 i).1) ha i) h7, Nat.lt_of_lt_of_le (ux_lt (fun i => (h10 i).2) hb i) h7⟩
  have hla : la (ux u a) (ux v b) (bL J L) = la u v (bL J L) := ux_la (fun i hi => by have := bL_lt hi; omega)
  have e15u : ux u a 15 = a := if_pos (Or.inl rfl)
  have e15v : ux v b 15 = b := if_pos (Or.inl rfl)
  have e16u : ux u a 15 = ux u a 16 := rfl
  have e16v : ux v b 15 = ux v b 16 := rfl
  obtain ⟨p, p1, p2⟩ := placesBy_ok hN hN20 J
  have hf8 := la_lt8 u v (bL J L)
  have a8 := hf8 a (by omega)
  have b8 := hf8 b (by omega)
  have n1 := num_ok p2 (k := a) (by omega) a8
  have n2 := num_ok p2 (k := b) (by omega) b8
  have M := gs_mat hk
  unfold f_X3_lackingBetween
  have htog : f_X8_together p (nI a) (nI b) = some (decide (la u v (bL J L) a = la u v (bL J L) b)) := by
    unfold f_X8_together
    simp only [n1, n2, Option.bind_some]
    by_cases h : la u v (bL J L) a = la u v (bL J L) b
    · rw [if_pos (by rw [h])]; simp [h]
    · rw [if_neg (fun h2 => h ((neq (by omega) (by omega)).mp h2))]; simp [h]
  simp only [p1, htog, Option.bind_some]
  by_cases h : la u v (bL J L) a = la u v (bL J L) b
  · rw [if_pos (decide_eq_true h)]
    refine ⟨0, uF, by omega, rfl, ?_, u0, v0, hF⟩
    obtain ⟨m, hm⟩ := q_min_ex (fJ (rk (ux u a) (ux v b)) (bL J L) (bt (opn L J G)))
    refine ⟨m, hm, ?_⟩
    have e : fJ (rk (ux u a) (ux v b)) (qI (bL J L) 15) (bt (opn L J G)) = fJ (rk (ux u a) (ux v b)) (bL J L) (bt (opn L J G)) := by
      funext T
      rw [fJ_e M _ _ _ (by omega : 15 < 32), if_pos, Nat.add_zero]
      unfold gs
      rw [e15u, e15v]
      have h2 : la (ux u a) (ux v b) (bL J L) a = la (ux u a) (ux v b) (bL J L) b := by rw [hla]; exact h
      have := la_mono (u := ux u a) (v := ux v b) (S := bL J L) (T := qU (bL J L) T) (fun i _ hi => qU_l _ _ i hi) h2
      simp [this]
    rw [e]; exact hm
  · rw [if_neg (fun h9 => h (of_decide_eq_true h9)), copen_ok hN]
    have hO : ∀ z, bt (opn L J G) z = true → z < L := fun z hz => by
      by_cases hz32 : z < 32
      · rw [opn_bit (by omega) J G hz32] at hz
        simp at hz
        exact hz.1
      · rw [b_big (by omega)] at hz; cases hz
    obtain ⟨w, w1, w2⟩ := bringOpen_ok hN20 hN p2 hf8 hO (ut := fun i => la (ux u a) (ux v b) (bL J L) (ux u a i)) (vt := fun i => la (ux u a) (ux v b) (bL J L) (ux v b i)) (fun i => ⟨la_lt8 _ _ _ _ (hk i).1, la_lt8 _ _ _ _ (hk i).2⟩) (fun i hi => by
      rw [hla, ux_low u a (by omega), ux_low v b (by omega)]; exact ⟨rfl, rfl⟩) hF
    obtain ⟨k, w', s1, s2, s3, s4⟩ := stillTaken_ok hN20 hk (E := bt (opn L J G)) (fun z hz => by have := hO z hz; omega) e16u e16v w2
    rw [hla, e15u, e15v] at s2
    simp only [w1, n1, n2, s2, Option.bind_some]
    exact ⟨k, w', s1, rfl, s3, s4⟩
