/-! ===== what is lacking between two knots ===== -/
def ux (u : Nat → Nat) (a : Nat) : Nat → Nat := fun i => if i = 15 ∨ i = 16 then a else u i
theorem stillTaken_ok {N : Nat} (hN20 : 20 ≤ N) {u v : Nat → Nat} (hk : ∀ i, u i < 8 ∧ v i < 8) {j E : BS} (hE : ∀ z, E z = true → z < 15) (hu15 : u 15 = u 16) (hv15 : v 15 = v 16) {uF : sx_C} (h : jSt (fun i => la u v j (u i)) (fun i => la u v j (v i)) E uF) : ∃ k uF', k ≤ 2 ∧ f_X3_stillTaken N (nI (la u v j (u 15))) (nI (la u v j (v 15))) uF = some (nI k, uF') ∧ qL (rk u v) 15 j E k ∧ ∃ u' v', fNet uF' u' v' := by
  have hkt : ∀ i, la u v j (u i) < 8 ∧ la u v j (v i) < 8 := fun i => ⟨la_lt8 u v j _ (hk i).1, la_lt8 u v j _ (hk i).2⟩
  obtain ⟨h8, u1, v1, hN, hu, hD⟩ := h
  obtain ⟨w1, l1, l2, l3⟩ := lay_ok hN (x := 15) (by omega) (hkt 15).1 (hkt 15).2
  obtain ⟨w2, m1, m2, m3⟩ := lay_ok l3 (x := 16) (by omega) (hkt 15).1 (hkt 15).2
  obtain ⟨u2, hu2⟩ : ∃ u2 : Nat → Nat, u2 = fun i => if i = 16 then la u v j (u 15) else (fun i => if i = 15 then la u v j (u 15) else u1 i) i := ⟨_, rfl⟩
  obtain ⟨v2, hv2⟩ : ∃ v2 : Nat → Nat, v2 = fun i => if i = 16 then la u v j (v 15) else (fun i => if i = 15 then la u v j (v 15) else v1 i) i := ⟨_, rfl⟩
  rw [← hu2, ← hv2] at m3
  have hlow : ∀ i, i < 15 → u2 i = u1 i ∧ v2 i = v1 i := fun i hi => by
    have a : ¬ i = 16 := by omega
    have b : ¬ i = 15 := by omega
    rw [hu2, hv2]; simp [a, b]
  have h15 : u2 15 = la u v j (u 15) ∧ v2 15 = la u v j (v 15) := by rw [hu2, hv2]; simp
  have h16 : u2 16 = la u v j (u 16) ∧ v2 16 = la u v j (v 16) := by rw [hu2, hv2, ← hu15, ← hv15]; simp
  have g8 : gi w2 8 = 0 := by rw [m2, l2]; exact h8
  have hF : fmk w2 = fmk uF := fmk_eq (by rw [m2, l2]) (by rw [m2, l2])
  have hD2 : qDone (rr u2 v2 (bt (gi w2 8))) E (fmk w2) := by
    rw [g8, hF]
    refine done_cong hN.2 (fun i _ he => ?_) hD
    have := hlow i (hE i he)
    exact ⟨this.1.symm, this.2.symm⟩
  have hE15 : E 15 = false := by cases h : E 15 <;> simp_all <;> (have := hE 15 h; omega)
  have hE16 : E 16 = false := by cases h : E 16 <;> simp_all <;> (have := hE 16 h; omega)
  have hE3 : qI E 15 16 = false := by show (E 16 || decide (16 = 15)) = false; rw [hE16]; rfl
  obtain ⟨b1, w3, p1, p2, p3, p4, p5, p6⟩ := bring_done hN20 m3 (x := 15) (by omega) (fun z hz => by have := hE z hz; omega) hE15 hD2
  have g83 : gi w3 8 = 0 := by rw [p4]; exact g8
  rw [g8] at p5
  have hD3 : qDone (rr u2 v2 (bt (gi w3 8))) (qI E 15) (fmk w3) := by rw [g83]; exact p5
  obtain ⟨b2, w4, r1, r2, r3, r4, r5, r6⟩ := bring_done hN20 p2 (x := 16) (by omega) (fun z hz => by
    have hz : (E z || decide (z = 15)) = true := hz
    cases hz2 : E z
    · rw [hz2] at hz
      have : z = 15 := by simpa using hz
      omega
    · have := hE z hz2; omega) hE3 hD3
  rw [g83] at r5
  rw [g8] at hD2
  have M2 := rr_mat m3.2 (bt 0)
  have hm1 := q_done_most M2 hD2
  have hm2 := q_done_most M2 p5
  have hm3 := q_done_most M2 r5
  rw [rr_0] at hm1 hm2 hm3
  have huall : ∀ i, i < 32 → qI (qI E 15) 16 i = true → u2 i = la u v j (u i) ∧ v2 i = la u v j (v i) := fun i hi he => by
    have he : ((E i || decide (i = 15)) || decide (i = 16)) = true := he
    by_cases e16 : i = 16
    · rw [e16]; exact h16
    · by_cases e15 : i = 15
      · rw [e15]; exact h15
      · have hEi : E i = true := by simpa [e15, e16] using he
        have := hlow i (hE i hEi)
        rw [this.1, this.2]
        exact hu i hi hEi
  have n1 := q_most_min hk m3.2 (fun i hi he => huall i hi (qI_s _ _ i (qI_s _ _ i he))) hm1
  have n2 := q_most_min hk m3.2 (fun i hi he => huall i hi (qI_s _ _ i he)) hm2
  have n3 := q_most_min hk m3.2 huall hm3
  obtain ⟨o1, o2, o3⟩ := qL_of_two hk (e := 15) (e' := 16) (by omega) (by omega) (by omega) hu15 hv15 hE15 hE16 n1
  unfold f_X3_stillTaken
  have e15 : (15 : Int32) = nI 15 := rfl
  have e16 : (16 : Int32) = nI 16 := rfl
  rw [e15, e16]
  simp only [Option.bind_some, l1, m1, p1]
  cases b1
  · rw [if_neg (by decide)]
    refine ⟨0, w3, by omega, rfl, o1 ?_, u2, v2, p2⟩
    rw [p6, if_neg (by decide)] at n2
    exact n2
  · rw [if_pos rfl]
    simp only [Option.bind_some, r1]
    rw [p6, if_pos rfl] at n2
    cases b2
    · rw [if_neg (by decide)]
      refine ⟨1, w4, by omega, rfl, o2 ?_ ?_, u2, v2, r2⟩
      · rw [show qSz (fmk w2) + 2 * rk u v j + 1 = qSz (fmk w2) + 1 + 2 * rk u v j by omega]; exact n2
      · rw [r6, p6, if_pos rfl, if_neg (by decide)] at n3
        rw [show qSz (fmk w2) + 2 * rk u v j + 1 = qSz (fmk w2) + 1 + 0 + 2 * rk u v j by omega]; exact n3
    · rw [if_pos rfl]
      refine ⟨2, w4, by omega, rfl, o3 ?_ ?_, u2, v2, r2⟩
      · rw [show qSz (fmk w2) + 2 * rk u v j + 1 = qSz (fmk w2) + 1 + 2 * rk u v j by omega]; exact n2
      · rw [r6, p6, if_pos rfl] at n3
        rw [show qSz (fmk w2) + 2 * rk u v j + 2 = qSz (fmk w2) + 1 + 1 + 2 * rk u v j by omega]; exact n3
