/-! ===== text: two numbers ===== -/
def flR (uR xC : sx_C) : Prop := gi xC 32 = gi uR 11 ∧ gi xC 33 = gi uR 12 ∧ ¬ gi xC 32 = 0
/-- the draft, on both sides -/
def dR (K L A B : Nat) (u v : Nat → Nat) (uD xC : sx_C) : Prop :=
  cNet uD K L A B u v ∧ (gi xC 16 = nI L ∧ (∀ i, i < L → ga xC 17 i = nI (u i) ∧ ga xC 18 i = nI (v i)) ∧ gi xC 21 = nI A ∧ gi xC 22 = nI B) ∧ (gi xC 19 = gi uD 7 ∧ gi xC 20 = gi uD 8 ∧ gi xC 23 = gi uD 9 ∧ gi xC 24 = gi uD 6) ∧ (∃ m, m < 2 ∧ gi uD 9 = nI m) ∧ (∀ z, bt (gi uD 7) z = true → z < L) ∧ (∀ z, bt (gi uD 8) z = true → z < L) ∧ ∀ z, ¬ (bt (gi uD 7) z = true ∧ bt (gi uD 8) z = true)
def fgR (e K : Nat) (uR xC : sx_C) : Prop := gi uR 2 = nI e ∧ gi xC 27 = nI e ∧ gi xC 32 = 0 ∧ (gi uR 11 = 0 ∧ gi uR 12 = -1) ∧ ((gi uR 8 = 0 ∧ gi xC 15 = 0 ∧ K = 2) ∨ (gi uR 8 = 1 ∧ gi xC 15 = nI K))
theorem fgR_t {e K : Nat} {uR uR' xC xC' : sx_C} (h : fgR e K uR xC) (f : tkF uR' uR xC' xC) : fgR e K uR' xC' := by
  obtain ⟨f1, f2, -⟩ := f
  unfold fgR at h ⊢
  rw [f1 2 (by decide) (by decide) (by decide) (by decide), f1 11 (by decide) (by decide) (by decide) (by decide), f1 12 (by decide) (by decide) (by decide) (by decide), f1 8 (by decide) (by decide) (by decide) (by decide), f2 27 (by decide) (by decide) (by decide) (by decide), f2 32 (by decide) (by decide) (by decide) (by decide), f2 15 (by decide) (by decide) (by decide) (by decide)]
  exact h
theorem dR_t {K L A B : Nat} {u v : Nat → Nat} {uD uR uR' xC xC' : sx_C} (h : dR K L A B u v uD xC) (f : tkF uR' uR xC' xC) : dR K L A B u v uD xC' := by
  obtain ⟨-, f2, f3⟩ := f
  unfold dR at h ⊢
  rw [f3, f2 16 (by decide) (by decide) (by decide) (by decide), f2 21 (by decide) (by decide) (by decide) (by decide), f2 22 (by decide) (by decide) (by decide) (by decide), f2 19 (by decide) (by decide) (by decide) (by decide), f2 20 (by decide) (by decide) (by decide) (by decide), f2 23 (by decide) (by decide) (by decide) (by decide), f2 24 (by decide) (by decide) (by decide) (by decide)]
  exact h
section
variable {N : Nat} {uG xA : sx_C} {e : Nat}
theorem wrong_f {xC : sx_C} (h : ¬ gi xC 32 = 0) (x : Int32) : f_X12_wrong x xC = some xC := by unfold f_X12_wrong; rw [if_neg h]
theorem goOn_f {xC : sx_C} (h : ¬ gi xC 32 = 0) : f_X12_goOn N xA xC = some xC := by unfold f_X12_goOn; rw [if_neg h]
theorem below_f {xC : sx_C} (h : ¬ gi xC 32 = 0) (x : Int32) : f_X12_numberBelow x xC = some (0, xC) := by unfold f_X12_numberBelow f_X12_numberBelow_28; rw [if_neg h, if_neg h]
/-- a fault, on both sides -/
theorem refuse_ok {q : Nat} {uR xC : sx_C} (h0 : gi xC 32 = 0) (ht : tkR N uG e q uR xC) {x : Int32} (hx : ¬ x = 0) : ∃ uR' xC', f_X9_refuse x uR = some (false, uR') ∧ f_X12_wrong x xC = some xC' ∧ flR uR' xC' := by
  obtain ⟨s, p, -, -, -, h5, h29, -⟩ := ht
  unfold f_X9_refuse f_X12_wrong
  rw [if_pos h0]
  refine ⟨_, _, rfl, rfl, rfl, ?_, hx⟩
  show gi xC 29 = gi uR 5
  rw [h5, h29]
theorem numK {a b : Int32} (h : numR a b) {K : Nat} (hK : K ≤ 14) : (∃ n, n < K ∧ a = nI n ∧ b = nI n ∧ ¬ a < 0 ∧ ¬ nI K ≤ a ∧ b < nI K) ∨ (¬ a < 0 ∧ nI K ≤ a ∧ ¬ b < nI K ∧ ¬ b < 0 ∧ nI K ≤ b) := by
  rcases h with ⟨n, n1, rfl, rfl⟩ | ⟨p, q, p1, p2, q1, q2, rfl, rfl⟩
  · by_cases h : n < K
    · exact Or.inl ⟨n, h, rfl, rfl, (nI_ne_neg (by omega)).2.2, fun h9 => by have := (nle (by omega) (by omega)).mp h9; omega, (nlt (by omega) (by omega)).mpr h⟩
    · exact Or.inr ⟨(nI_ne_neg (by omega)).2.2, (nle (by omega) (by omega)).mpr (by omega), fun h9 => h ((nlt (by omega) (by omega)).mp h9), (nI_ne_neg (by omega)).2.2, (nle (by omega) (by omega)).mpr (by omega)⟩
  · exact Or.inr ⟨(nI_ne_neg (by omega)).2.2, (nle (by omega) (by omega)).mpr (by omega), fun h9 => by have := (nlt (by omega) (by omega)).mp h9; omega, (nI_ne_neg (by omega)).2.2, (nle (by omega) (by omega)).mpr (by omega)⟩
theorem go_ok (hf : 2000 ≤ N) (hT : tpR uG xA e) {q K : Nat} {uR xC : sx_C} (hg : fgR e K uR xC) (ht : tkR N uG e q uR xC) (hne : ¬ gi xC 30 = 3) : ∃ uR' xC', f_X9_step N uG uR = some uR' ∧ f_X12_goOn N xA xC = some xC' ∧ tkR N uG e (q + 1) uR' xC' ∧ tkF uR' uR xC' xC := by
  obtain ⟨s, p, t1, t2, t3, t4, t5, t6, t7, t8⟩ := ht
  have h600 := hT.1
  have hsp : s < p := by
    rcases t8 with ⟨-, h, -⟩ | ⟨h, -⟩ | ⟨h, -⟩ | ⟨h, -⟩ | ⟨h, -⟩
    · exact absurd h hne
    all_goals exact h
  obtain ⟨uR', xC', a1, a2, ⟨s', p', b1, b2⟩, a4⟩ := step_ok hf hT N p uR xC (by omega) t3 hg.1 t6 hg.2.1 t7
  refine ⟨uR', xC', a1, ?_, ⟨s', p', by omega, b2⟩, a4⟩
  unfold f_X12_goOn f_X12_token
  rw [if_pos hg.2.2.1, a2]
  rfl
/-- the kind of the token, on both sides -/
theorem kind_no {q : Nat} {uR xC : sx_C} (ht : tkR N uG e q uR xC) : (gi uR 4 = 2 ∧ gi xC 30 = 1 ∧ numR (gi uR 6) (gi xC 31)) ∨ (¬ gi uR 4 = 2 ∧ ¬ gi xC 30 = 1) := by
  obtain ⟨s, p, t1, t2, t3, t4, t5, t6, t7, t8⟩ := ht
  rcases t8 with ⟨a, b, -⟩ | ⟨-, a, b, -⟩ | ⟨-, a, b, c⟩ | ⟨-, a, b⟩ | ⟨-, a, b⟩
  · exact Or.inr (by rw [a, b]; decide)
  · exact Or.inr (by rw [a, b]; decide)
  · exact Or.inl ⟨a, b, c⟩
  · exact Or.inr (by rw [a, b]; decide)
  · exact Or.inr (by rw [a, b]; decide)
/-- a number below K, on both sides -/
theorem below_ok {q K X : Nat} (hX : X ≤ 14) {uR xC : sx_C} (hg : fgR e K uR xC) (ht : tkR N uG e q uR xC) : (gi uR 4 = 2 ∧ ∃ n, n < X ∧ gi uR 6 = nI n ∧ gi xC 30 = 1 ∧ gi xC 31 = nI n ∧ f_X12_numberBelow (nI X) xC = some (nI n, xC)) ∨ ((¬ gi uR 4 = 2 ∨ (gi uR 4 = 2 ∧ ¬ gi uR 6 < 0 ∧ nI X ≤ gi uR 6)) ∧ ∃ uR' xC', f_X9_refuse 1 uR = some (false, uR') ∧ f_X12_numberBelow (nI X) xC = some (0, xC') ∧ flR uR' xC') := by
  have h0 := hg.2.2.1
  obtain ⟨uR', xC', r1, r2, r3⟩ := refuse_ok h0 ht (x := 1) (by decide)
  unfold f_X12_numberBelow f_X12_numberBelow_23
  rw [if_pos h0]
  rcases kind_no ht with ⟨k1, k2, k3⟩ | ⟨k1, k2⟩
  · rcases numK k3 hX with ⟨n, n1, n2, n3, n4, n5, n6⟩ | ⟨n1, n2, n3, -⟩
    · refine Or.inl ⟨k1, n, n1, n2, k2, n3, ?_⟩
      rw [if_pos k2, if_pos n6]
      unfold f_X12_numberBelow_28
      rw [if_pos h0, n3]
    · refine Or.inr ⟨Or.inr ⟨k1, n1, n2⟩, uR', xC', r1, ?_, r3⟩
      rw [if_pos k2, if_neg n3, r2, Option.bind_some]
      unfold f_X12_numberBelow_28
      rw [if_neg r3.2.2]
  · refine Or.inr ⟨Or.inl k1, uR', xC', r1, ?_, r3⟩
    rw [if_neg k2, r2, Option.bind_some]
    unfold f_X12_numberBelow_28
    rw [if_neg r3.2.2]
def m2 (N : Nat) (xA : sx_C) (cont : Int32 → Int32 → sx_C → Option sx_C) (xC : sx_C) : Option sx_C := Option.bind (f_X12_goOn N xA xC) (fun q1 => Option.bind (f_X12_numberBelow (gi q1 15) q1) (fun q2 => Option.bind (f_X12_goOn N xA (q2.2)) (fun q3 => Option.bind (f_X12_numberBelow (gi q3 15) q3) (fun q4 => (if (q2.1) = (q4.1) then Option.bind (f_X12_wrong 3 (q4.2)) (fun q6 => cont (q2.1) (q4.1) q6) else cont (q2.1) (q4.1) (q4.2))))))
theorem m2_f {xC : sx_C} (h : ¬ gi xC 32 = 0) (cont : Int32 → Int32 → sx_C → Option sx_C) : m2 N xA cont xC = cont 0 0 xC := by
  unfold m2
  simp only [goOn_f h, below_f h, wrong_f h, Option.bind_some, ↓reduceIte]
theorem two_ok (hf : 2000 ≤ N) (hT : tpR uG xA e) {q K : Nat} (hK : K ≤ 8) {uD uR xC : sx_C} (hD : gi uD 2 = nI K) (hg : fgR e K uR xC) (h8 : gi uR 8 = 1) (h15 : gi xC 15 = nI K) (ht : tkR N uG e q uR xC) (hne : ¬ gi xC 30 = 3) : ∃ b uR', f_X9_twoKnots N uG uD uR = some (b, uR') ∧ ((b = true ∧ ∃ a c xC', a < K ∧ c < K ∧ gi uR' 7 = nI a ∧ gi uR' 6 = nI c ∧ (∀ cont, m2 N xA cont xC = cont (nI a) (nI c) xC') ∧ tkR N uG e (q + 1) uR' xC' ∧ ¬ gi xC' 30 = 3 ∧ fgR e K uR' xC' ∧ (∀ k, k ≠ 3 → k ≠ 4 → k ≠ 5 → k ≠ 6 → k ≠ 7 → gi uR' k = gi uR k) ∧ (∀ k, k ≠ 28 → k ≠ 29 → k ≠ 30 → k ≠ 31 → gi xC' k = gi xC k) ∧ ga xC' = ga xC) ∨ (b = false ∧ ∃ x y xC', (∀ cont, m2 N xA cont xC = cont x y xC') ∧ flR uR' xC')) := by
  obtain ⟨u1, c1, s1, g1, t1, f1⟩ := go_ok hf hT hg ht hne
  have hg1 := fgR_t hg f1
  have h151 : gi c1 15 = nI K := by rw [f1.2.1 15 (by decide) (by decide) (by decide) (by decide)]; exact h15
  unfold f_X9_twoKnots m2
  simp only [s1, g1, Option.bind_some]
  rw [h151]
  rcases below_ok (X := K) (by omega) hg1 t1 with ⟨k1, n, n1, n2, n3, n4, n5⟩ | ⟨k1, u2, c2, r1, r2, r3⟩
  · rw [if_pos k1]
    unfold f_X6d_isKnot
    rw [hD, n2, if_neg (nI_ne_neg (by omega)).2.2, if_neg (fun h => by have := (nle (by omega) (by omega)).mp h; omega)]
    simp only [Option.bind_some, n5, ↓reduceIte]
    have hgs : fgR e K (si u1 7 (nI n)) c1 := hg1
    have ht1 : tkR N uG e (q + 1) (si u1 7 (nI n)) c1 := by
      obtain ⟨s, p, a1, a2, a3, a4, a5, a6, a7, a8⟩ := t1
      exact ⟨s, p, a1, a2, a3, a4, a5, a6, a7, Or.inr (Or.inr (Or.inl ⟨by
        rcases a8 with ⟨-, h, -⟩ | ⟨h, -⟩ | ⟨h, -⟩ | ⟨h, -⟩ | ⟨h, -⟩
        · rw [n3] at h; exact absurd h (by decide)
        all_goals exact h, k1, n3, Or.inl ⟨n, by omega, n2, n4⟩⟩))⟩
    obtain ⟨u3, c3, s3, g3, t3, f3⟩ := go_ok hf hT hgs ht1 (by rw [n3]; decide)
    have hg3 := fgR_t hgs f3
    have h153 : gi c3 15 = nI K := by rw [f3.2.1 15 (by decide) (by decide) (by decide) (by decide)]; exact h151
    have h73 : gi u3 7 = nI n := by rw [f3.1 7 (by decide) (by decide) (by decide) (by decide)]; rfl
    simp only [s3, g3, Option.bind_some]
    rw [h153]
    rcases below_ok (X := K) (by omega) hg3 t3 with ⟨k2, m, m1, m2', m3, m4, m5⟩ | ⟨k2, u4, c4, r1, r2, r3⟩
    · rw [if_pos k2, m2', h73, if_neg (nI_ne_neg (by omega)).2.2, if_neg (fun h => by have := (nle (by omega) (by omega)).mp h; omega)]
      simp only [Option.bind_some, m5, ↓reduceIte]
      by_cases hnm : m = n
      · obtain ⟨u5, c5, r1, r2, r3⟩ := refuse_ok hg3.2.2.1 t3 (x := 3) (by decide)
        rw [hnm]
        simp only [↓reduceIte, r1, r2, Option.bind_some, Bool.false_eq_true]
        exact ⟨false, u5, rfl, Or.inr ⟨rfl, _, _, c5, fun _ => rfl, r3⟩⟩
      · have hx : ¬ nI m = nI n := fun h => hnm ((neq (by omega) (by omega)).mp h)
        have hx2 : ¬ nI n = nI m := fun h => hx h.symm
        rw [if_neg hx]
        simp only [if_neg hx2]
        refine ⟨true, u3, rfl, Or.inl ⟨rfl, n, m, c3, n1, m1, h73, m2', fun _ => rfl, ?_, by rw [m3]; decide, hg3, fun k k1 k2 k3 k4 k5 => ?_, fun k k1 k2 k3 k4 => ?_, ?_⟩⟩
        · obtain ⟨s, p, a1, a2⟩ := t3
          exact ⟨s, p, by omega, a2⟩
        · rw [f3.1 k k1 k2 k3 k4, gi_si, if_neg k5, f1.1 k k1 k2 k3 k4]
        · rw [f3.2.1 k k1 k2 k3 k4, f1.2.1 k k1 k2 k3 k4]
        · rw [f3.2.2, f1.2.2]
    · simp only [r2, Option.bind_some, wrong_f r3.2.2]
      have hcl : ∀ (x : Option (Bool × sx_C)), (if gi u3 4 = 2 then Option.bind (if gi u3 6 < 0 then some false else if nI K ≤ gi u3 6 then some false else some true) (fun q9 => if q9 = true then x else f_X9_twoKnots_66 N uG uD u3) else f_X9_twoKnots_66 N uG uD u3) = some (false, u4) := fun x => by
        have h66 : f_X9_twoKnots_66 N uG uD u3 = some (false, u4) := by unfold f_X9_twoKnots_66; rw [r1]; rfl
        rcases k2 with k2 | ⟨k2, k3, k4⟩
        · rw [if_neg k2, h66]
        · rw [if_pos k2, if_neg k3, if_pos k4, Option.bind_some, if_neg (by decide), h66]
      rw [hcl]
      refine ⟨false, u4, rfl, Or.inr ⟨rfl, nI n, 0, c4, fun cont => ?_, r3⟩⟩
      split <;> rfl
  · have h26 : f_X9_twoKnots_26 N uG uD u1 = some (false, u2) := by unfold f_X9_twoKnots_26; rw [r1]; rfl
    simp only [r2, Option.bind_some, goOn_f r3.2.2, below_f r3.2.2, wrong_f r3.2.2, ↓reduceIte]
    unfold f_X6d_isKnot
    rw [hD]
    refine ⟨false, u2, ?_, Or.inr ⟨rfl, 0, 0, c2, fun _ => rfl, r3⟩⟩
    rcases k1 with k1 | ⟨k1, k3, k4⟩
    · rw [if_neg k1, h26]
    · rw [if_pos k1, if_neg k3, if_pos k4, Option.bind_some, if_neg (by decide), h26]
end
