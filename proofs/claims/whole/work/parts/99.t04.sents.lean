/-! ===== text: the sentences ===== -/
def eR (uR xC : sx_C) : Prop := gi xC 25 = gi uR 9 ∧ gi xC 26 = gi uR 10
theorem eR_t {uR uR' xC xC' : sx_C} (h : eR uR xC) (f : tkF uR' uR xC' xC) : eR uR' xC' := by
  obtain ⟨f1, f2, -⟩ := f
  unfold eR at h ⊢
  rw [f1 9 (by decide) (by decide) (by decide) (by decide), f1 10 (by decide) (by decide) (by decide) (by decide), f2 25 (by decide) (by decide) (by decide) (by decide), f2 26 (by decide) (by decide) (by decide) (by decide)]
  exact h
def oR (N : Nat) (uG : sx_C) (e q : Nat) (b : Bool) (uD uR xC : sx_C) : Prop := (b = true ∧ ∃ K L A B u v, dR K L A B u v uD xC ∧ fgR e K uR xC ∧ eR uR xC ∧ gi uR 8 = 1 ∧ tkR N uG e q uR xC) ∨ (b = false ∧ flR uR xC)
section
variable {N : Nat} {uG xA : sx_C} {e : Nat}
/-- a token that is a number stands, whatever else is written -/
theorem tk_num {q n : Nat} {uR uR' xC xC' : sx_C} (ht : tkR N uG e q uR xC) (k : gi xC 30 = 1) (hr : numR (gi uR' 6) (gi xC' 31)) (h3 : gi uR' 3 = gi uR 3) (h4 : gi uR' 4 = 2) (h5 : gi uR' 5 = gi uR 5) (c8 : gi xC' 28 = gi xC 28) (c9 : gi xC' 29 = gi xC 29) (c30 : gi xC' 30 = 1) : tkR N uG e q uR' xC' := by
  obtain ⟨s, p, a1, a2, a3, a4, a5, a6, a7, a8⟩ := ht
  refine ⟨s, p, a1, a2, a3, by rw [h5]; exact a4, by rw [c9]; exact a5, by rw [h3]; exact a6, by rw [c8]; exact a7, Or.inr (Or.inr (Or.inl ⟨?_, h4, c30, hr⟩))⟩
  rcases a8 with ⟨-, h, -⟩ | ⟨h, -⟩ | ⟨h, -⟩ | ⟨h, -⟩ | ⟨h, -⟩
  · rw [k] at h; exact absurd h (by decide)
  all_goals exact h
theorem spells_cong {a b : sx_C} (h5 : gi a 5 = gi b 5) (ti : Nat) : ∀ fu x, f_X9_spells_20 N ti uG a fu x = f_X9_spells_20 N ti uG b fu x
  | 0, _ => rfl
  | fu + 1, x => by
    unfold f_X9_spells_20
    rw [h5, spells_cong h5 ti fu]
theorem word_cong {a b : sx_C} (h3 : gi a 3 = gi b 3) (h4 : gi a 4 = gi b 4) (h5 : gi a 5 = gi b 5) : f_X9_word N uG a = f_X9_word N uG b := by
  have hs : ∀ ti, f_X9_spells N uG a ti = f_X9_spells N uG b ti := fun ti => by
    unfold f_X9_spells
    rw [h3, h5, spells_cong h5 ti N 0]
  unfold f_X9_word
  rw [h4]
  simp only [hs]
theorem knots_ok (hf : 2000 ≤ N) (hT : tpR uG xA e) {q K L A B : Nat} {u v : Nat → Nat} {uD uR xC : sx_C} (hd : dR K L A B u v uD xC) (hg : fgR e K uR xC) (he : eR uR xC) (ht : tkR N uG e q uR xC) (hne : ¬ gi xC 30 = 3) : ∃ b uD' uR' xC', f_X9_knotsSentence N uG uD uR = some (b, uD', uR') ∧ f_X12_readKnots N xA xC = some xC' ∧ oR N uG e (q + 1) b uD' uR' xC' := by
  have k12 : ∀ {c : sx_C}, ¬ gi c 32 = 0 → f_X12_readKnots_12 N xA c = some c := fun {c} h => by
    unfold f_X12_readKnots_12 f_X12_readKnots_36 f_X12_readKnots_65
    simp only [goOn_f h, Option.bind_some, if_neg h]
  have k65 : ∀ {c : sx_C}, ¬ gi c 32 = 0 → f_X12_readKnots_65 N xA c = some c := fun {c} h => by
    unfold f_X12_readKnots_65
    simp only [if_neg h]
  unfold f_X9_knotsSentence f_X12_readKnots
  rcases hg.2.2.2.2 with ⟨g8, g15, gK⟩ | ⟨g8, g15⟩
  · rw [if_pos g8, g15, if_pos (by decide)]
    unfold f_X12_readKnots_12 f_X12_readKnots_36 f_X12_readKnots_60 f_X9_knotsSentence_48
    obtain ⟨u1, c1, s1, o1, t1, f1⟩ := go_ok hf hT hg ht hne
    have hg1 := fgR_t hg f1
    have hd1 := dR_t hd f1
    have he1 := eR_t he f1
    have h0 := hg1.2.2.1
    simp only [s1, o1, Option.bind_some]
    rw [if_pos h0]
    rcases kind_no t1 with ⟨k1, k2, k3⟩ | ⟨k1, k2⟩
    · rw [if_pos k1, if_pos k2, if_pos h0]
      obtain ⟨u5, c5, r1, r2, r3⟩ := refuse_ok h0 t1 (x := 2) (by decide)
      have bad : ∃ b uD' uR' xC', Option.bind (f_X9_refuse 2 u1) (fun q1 => some (q1.1, uD, q1.2)) = some (b, uD', uR') ∧ Option.bind (f_X12_wrong 2 c1) (fun q8 => f_X12_readKnots_65 N xA q8) = some xC' ∧ oR N uG e (q + 1) b uD' uR' xC' := by
        rw [r1, r2, Option.bind_some, Option.bind_some, k65 r3.2.2]
        exact ⟨false, uD, u5, c5, rfl, rfl, Or.inr ⟨rfl, r3⟩⟩
      rcases k3 with ⟨n, n1, n2, n3⟩ | ⟨p, r, p1, p2, r4, r5, p3, r6⟩
      · rw [n2, n3]
        by_cases hn2 : n < 2
        · rw [if_pos (show nI n < 2 from (nlt (b := 2) (by omega) (by omega)).mpr hn2), if_pos (show nI n < 2 from (nlt (b := 2) (by omega) (by omega)).mpr hn2)]
          exact bad
        · rw [if_neg (show ¬ nI n < 2 from fun h => hn2 ((nlt (b := 2) (by omega) (by omega)).mp h)), if_neg (show ¬ nI n < 2 from fun h => hn2 ((nlt (b := 2) (by omega) (by omega)).mp h))]
          by_cases hn8 : n ≤ 8
          · rw [if_pos (show nI n ≤ 8 from (nle (b := 8) (by omega) (by omega)).mpr hn8), if_pos (show nI n ≤ 8 from (nle (b := 8) (by omega) (by omega)).mpr hn8)]
            unfold f_X12_readKnots_65
            rw [if_pos h0, n3]
            have e6 : gi (si u1 8 1) 6 = nI n := n2
            have e31 : gi (si c1 15 (nI n)) 31 = nI n := n3
            have en1 : nI n - 1 = nI (n - 1) := by
              have := nsub (n - 1) 1
              rw [show n - 1 + 1 = n by omega] at this
              exact this
            rw [e6, e31, en1]
            have hg2 : fgR e n (si u1 8 1) (si (si c1 15 (nI n)) 22 (nI (n - 1))) := ⟨hg1.1, hg1.2.1, h0, hg1.2.2.2.1, Or.inr ⟨rfl, rfl⟩⟩
            have t2 : tkR N uG e (q + 1) (si u1 8 1) (si (si c1 15 (nI n)) 22 (nI (n - 1))) := tk_num (n := n) t1 k2 (Or.inl ⟨n, n1, n2, n3⟩) rfl k1 rfl rfl rfl k2
            obtain ⟨u3, c3, s3, o3, t3, f3⟩ := go_ok hf hT hg2 t2 (by
              show ¬ gi c1 30 = 3
              rw [k2]; decide)
            simp only [s3, o3, Option.bind_some]
            have he2 : eR (si u1 8 1) (si (si c1 15 (nI n)) 22 (nI (n - 1))) := he1
            refine ⟨true, _, u3, c3, rfl, rfl, Or.inl ⟨rfl, n, L, A, n - 1, u, v, dR_t (uR' := u3) (uR := si u1 8 1) (xC := si (si c1 15 (nI n)) 22 (nI (n - 1))) ?_ f3, fgR_t hg2 f3, eR_t he2 f3, ?_, ?_⟩⟩
            · obtain ⟨⟨d1, d2, d3, d4, d5, ⟨d6, d7, d8⟩, ⟨d9, d10⟩, d11⟩, ⟨m1, m2, m3, m4⟩, m5⟩ := hd1
              exact ⟨⟨rfl, d2, rfl, d4, d5, ⟨by omega, by omega, d8⟩, ⟨by omega, by omega⟩, fun i => by have := d11 i; omega⟩, ⟨m1, m2, m3, rfl⟩, m5⟩
            · rw [f3.1 8 (by decide) (by decide) (by decide) (by decide)]; rfl
            · obtain ⟨s, p, a1, a2⟩ := t3
              exact ⟨s, p, by omega, a2⟩
          · rw [if_neg (show ¬ nI n ≤ 8 from fun h => hn8 ((nle (b := 8) (by omega) (by omega)).mp h)), if_neg (show ¬ nI n ≤ 8 from fun h => hn8 ((nle (b := 8) (by omega) (by omega)).mp h))]
            exact bad
      · rw [p3, r6, if_neg (show ¬ nI p < 2 from fun h => by have := (nlt (b := 2) (by omega) (by omega)).mp h; omega), if_neg (show ¬ nI r < 2 from fun h => by have := (nlt (b := 2) (by omega) (by omega)).mp h; omega), if_neg (show ¬ nI p ≤ 8 from fun h => by have := (nle (b := 8) (by omega) (by omega)).mp h; omega), if_neg (show ¬ nI r ≤ 8 from fun h => by have := (nle (b := 8) (by omega) (by omega)).mp h; omega)]
        exact bad
    · obtain ⟨u5, c5, r1, r2, r3⟩ := refuse_ok h0 t1 (x := 1) (by decide)
      rw [if_neg k1, if_neg k2, r1, r2]
      simp only [Option.bind_some, if_neg r3.2.2]
      rw [k65 r3.2.2]
      exact ⟨false, uD, u5, c5, rfl, rfl, Or.inr ⟨rfl, r3⟩⟩
  · have hK := hd.1.2.2.2.2.2.1
    obtain ⟨u5, c5, r1, r2, r3⟩ := refuse_ok hg.2.2.1 ht (x := 3) (by decide)
    rw [g8, if_neg (by decide), g15, if_neg (show ¬ nI K ≤ 0 from fun h => by have := (nle (b := 0) (by omega) (by omega)).mp h; omega), r1, r2, Option.bind_some, Option.bind_some, k12 r3.2.2]
    exact ⟨false, uD, u5, c5, rfl, rfl, Or.inr ⟨rfl, r3⟩⟩
theorem ends_ok (hf : 2000 ≤ N) (hT : tpR uG xA e) {q K L A B : Nat} {u v : Nat → Nat} {uD uR xC : sx_C} (hd : dR K L A B u v uD xC) (hg : fgR e K uR xC) (he : eR uR xC) (h8 : gi uR 8 = 1) (h15 : gi xC 15 = nI K) (ht : tkR N uG e q uR xC) (h30 : gi xC 30 = 0) : ∃ b uD' uR' xC', f_X9_endsSentence N uG uD uR = some (b, uD', uR') ∧ f_X12_readEnds N xA xC = some xC' ∧ oR N uG e (q + 1) b uD' uR' xC' := by
  have e48 : ∀ {c : sx_C} (x y : Int32), ¬ gi c 32 = 0 → f_X12_readEnds_48 N xA x y c = some c := fun {c} x y h => by
    unfold f_X12_readEnds_48
    simp only [goOn_f h, Option.bind_some, if_neg h]
  have hm : ∀ c, f_X12_readEnds_12 N xA c = m2 N xA (f_X12_readEnds_48 N xA) c := fun c => rfl
  have hK := hd.1.2.2.2.2.2.1
  unfold f_X9_endsSentence f_X12_readEnds
  rw [hm, he.1]
  by_cases h9 : gi uR 9 = 0
  · rw [if_pos h9, if_pos h9]
    have hg1 : fgR e K (si uR 9 1) xC := hg
    have ht1 : tkR N uG e q (si uR 9 1) xC := by
      obtain ⟨s, p, a1, a2, a3, a4, a5, a6, a7, a8⟩ := ht
      refine ⟨s, p, a1, a2, a3, a4, a5, a6, a7, ?_⟩
      have hw : f_X9_word N uG (si uR 9 1) = f_X9_word N uG uR := word_cong rfl rfl rfl
      rw [hw]
      exact a8
    obtain ⟨b, u1, w1, w2⟩ := two_ok (uD := uD) hf hT hK.2.1 hd.1.1 hg1 h8 h15 ht1 (by rw [h30]; decide)
    simp only [w1, Option.bind_some]
    rcases w2 with ⟨rfl, a, c, c1, a1, a2, a3, a4, a5, a6, a7, a8, a9, a10, a11⟩ | ⟨rfl, x, y, c1, a1, a2⟩
    · rw [if_pos rfl, a5]
      unfold f_X12_readEnds_48
      obtain ⟨u3, c3, s3, o3, t3, f3⟩ := go_ok hf hT a8 a6 a7
      have hg3 := fgR_t a8 f3
      simp only [s3, o3, Option.bind_some]
      rw [if_pos hg3.2.2.1, a3, a4]
      have hd1 : dR K L A B u v uD c1 := by
        unfold dR at hd ⊢
        rw [a11, a10 16 (by decide) (by decide) (by decide) (by decide), a10 21 (by decide) (by decide) (by decide) (by decide), a10 22 (by decide) (by decide) (by decide) (by decide), a10 19 (by decide) (by decide) (by decide) (by decide), a10 20 (by decide) (by decide) (by decide) (by decide), a10 23 (by decide) (by decide) (by decide) (by decide), a10 24 (by decide) (by decide) (by decide) (by decide)]
        exact hd
      have hd3 := dR_t hd1 f3
      refine ⟨true, _, u3, _, rfl, rfl, Or.inl ⟨rfl, K, L, a, c, u, v, ?_, hg3, ⟨?_, ?_⟩, ?_, ?_⟩⟩
      · obtain ⟨⟨d1, d2, d3, d4, d5, d6, d7, d11⟩, ⟨m1, m2, m3, m4⟩, m5⟩ := hd3
        exact ⟨⟨d1, rfl, rfl, d4, d5, d6, ⟨a1, a2⟩, d11⟩, ⟨m1, m2, rfl, rfl⟩, m5⟩
      · show (1 : Int32) = gi u3 9
        rw [f3.1 9 (by decide) (by decide) (by decide) (by decide), a9 9 (by decide) (by decide) (by decide) (by decide) (by decide)]; rfl
      · show gi c3 26 = gi u3 10
        rw [f3.1 10 (by decide) (by decide) (by decide) (by decide), a9 10 (by decide) (by decide) (by decide) (by decide) (by decide), f3.2.1 26 (by decide) (by decide) (by decide) (by decide), a10 26 (by decide) (by decide) (by decide) (by decide)]
        exact he.2
      · rw [f3.1 8 (by decide) (by decide) (by decide) (by decide), a9 8 (by decide) (by decide) (by decide) (by decide) (by decide)]; exact h8
      · obtain ⟨s, p, b1, b2⟩ := t3
        exact ⟨s, p, by omega, b2⟩
    · rw [if_neg (by decide), a1, e48 _ _ a2.2.2]
      exact ⟨false, uD, u1, c1, rfl, rfl, Or.inr ⟨rfl, a2⟩⟩
  · rw [if_neg h9, if_neg h9]
    obtain ⟨u5, c5, r1, r2, r3⟩ := refuse_ok hg.2.2.1 ht (x := 3) (by decide)
    rw [r1, r2, Option.bind_some, Option.bind_some, hm, m2_f r3.2.2, e48 _ _ r3.2.2]
    exact ⟨false, uD, u5, c5, rfl, rfl, Or.inr ⟨rfl, r3⟩⟩
theorem lineS_ok (hf : 2000 ≤ N) (hT : tpR uG xA e) {q K L A B : Nat} {u v : Nat → Nat} {uD uR xC : sx_C} (hd : dR K L A B u v uD xC) (hg : fgR e K uR xC) (he : eR uR xC) (h8 : gi uR 8 = 1) (h15 : gi xC 15 = nI K) (ht : tkR N uG e q uR xC) (h30 : gi xC 30 = 0) : ∃ b uD' uR' xC', f_X9_lineSentence N uG uD uR = some (b, uD', uR') ∧ f_X12_readOne N xA xC = some xC' ∧ oR N uG e (q + 1) b uD' uR' xC' := by
  have e50 : ∀ {c : sx_C} (x y : Int32), ¬ gi c 32 = 0 → f_X12_readOne_50 N xA x y c = some c := fun {c} x y h => by
    unfold f_X12_readOne_50
    simp only [goOn_f h, Option.bind_some, if_neg h]
  have hm : ∀ c, f_X12_readOne_14 N xA c = m2 N xA (f_X12_readOne_50 N xA) c := fun c => rfl
  have hK := hd.1.2.2.2.2.2.1
  have h5 : gi uD 5 = nI L := hd.1.2.2.2.1
  unfold f_X9_lineSentence f_X12_readOne
  rw [hm, h5, hd.2.1.1]
  by_cases hL : L < 14
  · rw [if_pos (show nI L < 14 from (nlt (b := 14) (by omega) (by omega)).mpr hL), if_neg (show ¬ nI L = 14 from fun h => by have := (neq (b := 14) (by omega) (by omega)).mp h; omega)]
    obtain ⟨b, u1, w1, w2⟩ := two_ok (uD := uD) hf hT hK.2.1 hd.1.1 hg h8 h15 ht (by rw [h30]; decide)
    simp only [w1, Option.bind_some]
    rcases w2 with ⟨rfl, a, c, c1, a1, a2, a3, a4, a5, a6, a7, a8, a9, a10, a11⟩ | ⟨rfl, x, y, c1, a1, a2⟩
    · rw [if_pos rfl, a5]
      unfold f_X12_readOne_50 f_X6d_addLine
      obtain ⟨u3, c3, s3, o3, t3, f3⟩ := go_ok hf hT a8 a6 a7
      have hg3 := fgR_t a8 f3
      have hd1 : dR K L A B u v uD c1 := by
        unfold dR at hd ⊢
        rw [a11, a10 16 (by decide) (by decide) (by decide) (by decide), a10 21 (by decide) (by decide) (by decide) (by decide), a10 22 (by decide) (by decide) (by decide) (by decide), a10 19 (by decide) (by decide) (by decide) (by decide), a10 20 (by decide) (by decide) (by decide) (by decide), a10 23 (by decide) (by decide) (by decide) (by decide), a10 24 (by decide) (by decide) (by decide) (by decide)]
        exact hd
      have hd3 := dR_t hd1 f3
      have h16 : gi c3 16 = nI L := hd3.2.1.1
      have h16b : gi (sa c3 17 L (nI a)) 16 = nI L := h16
      have h16c : gi (sa (sa c3 17 L (nI a)) 18 L (nI c)) 16 = nI L := h16
      have h5b : gi (sa uD 0 L (nI a)) 5 = nI L := h5
      have h5c : gi (sa (sa uD 0 L (nI a)) 1 L (nI c)) 5 = nI L := h5
      simp only [s3, o3, Option.bind_some]
      rw [if_pos hg3.2.2.1, a3, a4, h5, h16, if_neg (nI_ne_neg (by omega)).2.2, if_neg (show ¬ (14 : Int32) ≤ nI L from fun h => by have := (nle (a := 14) (by omega) (by omega)).mp h; omega), if_pos (in_ok hL (by decide)), if_pos (in_ok hL (by decide)), nI_clamp (by omega), h5b, h16b, if_pos (in_ok hL (by decide)), if_pos (in_ok hL (by decide)), nI_clamp (by omega), h5c, h16c, show nI L + 1 = nI (L + 1) from nadd L 1]
      simp only [Option.bind_some]
      refine ⟨true, _, u3, _, rfl, rfl, Or.inl ⟨rfl, K, L + 1, A, B, (fun i => if i = L then a else u i), (fun i => if i = L then c else v i), ?_, hg3, ⟨?_, ?_⟩, ?_, ?_⟩⟩
      · obtain ⟨⟨d1, d2, d3, d4, d5, d6, d7, d11⟩, ⟨m1, m2, m3, m4⟩, ⟨m5, m6, m7, m8⟩, m9, b1, b2, b3⟩ := hd3
        refine ⟨⟨d1, d2, d3, rfl, fun i hi => ?_, ⟨d6.1, d6.2.1, by omega⟩, d7, fun i => ?_⟩, ⟨rfl, fun i hi => ?_, m3, m4⟩, ⟨m5, m6, m7, m8⟩, m9, fun z hz => by have := b1 z hz; omega, fun z hz => by have := b2 z hz; omega, b3⟩
        · show _ = nI (if i = L then a else u i) ∧ _ = nI (if i = L then c else v i)
          rw [ga_si, ga_si]
          rw [ga_sa, if_neg (by decide), ga_up, ga_up]
          by_cases e1 : i = L
          · rw [if_pos e1, if_pos e1, if_pos e1, if_pos e1]; exact ⟨rfl, rfl⟩
          · rw [if_neg e1, if_neg e1, if_neg e1, if_neg e1]
            rw [ga_sa, if_neg (by decide)]
            exact d5 i (by omega)
        · have := d11 i
          constructor
          · show (if i = L then a else u i) < K
            split <;> omega
          · show (if i = L then c else v i) < K
            split <;> omega
        · show _ = nI (if i = L then a else u i) ∧ _ = nI (if i = L then c else v i)
          rw [ga_si, ga_si]
          rw [ga_sa, if_neg (by decide), ga_up, ga_up]
          by_cases e1 : i = L
          · rw [if_pos e1, if_pos e1, if_pos e1, if_pos e1]; exact ⟨rfl, rfl⟩
          · rw [if_neg e1, if_neg e1, if_neg e1, if_neg e1]
            rw [ga_sa, if_neg (by decide)]
            exact m2 i (by omega)
      · show gi c3 25 = gi u3 9
        rw [f3.1 9 (by decide) (by decide) (by decide) (by decide), a9 9 (by decide) (by decide) (by decide) (by decide) (by decide), f3.2.1 25 (by decide) (by decide) (by decide) (by decide), a10 25 (by decide) (by decide) (by decide) (by decide)]
        exact he.1
      · show gi c3 26 = gi u3 10
        rw [f3.1 10 (by decide) (by decide) (by decide) (by decide), a9 10 (by decide) (by decide) (by decide) (by decide) (by decide), f3.2.1 26 (by decide) (by decide) (by decide) (by decide), a10 26 (by decide) (by decide) (by decide) (by decide)]
        exact he.2
      · rw [f3.1 8 (by decide) (by decide) (by decide) (by decide), a9 8 (by decide) (by decide) (by decide) (by decide) (by decide)]; exact h8
      · obtain ⟨s, p, b1, b2⟩ := t3
        exact ⟨s, p, by omega, b2⟩
    · rw [if_neg (by decide), a1, e50 _ _ a2.2.2]
      exact ⟨false, uD, u1, c1, rfl, rfl, Or.inr ⟨rfl, a2⟩⟩
  · have hL14 : L = 14 := by omega
    rw [if_neg (show ¬ nI L < 14 from fun h => hL ((nlt (b := 14) (by omega) (by omega)).mp h)), if_pos (show nI L = 14 by rw [hL14]; rfl)]
    obtain ⟨u5, c5, r1, r2, r3⟩ := refuse_ok hg.2.2.1 ht (x := 2) (by decide)
    rw [r1, r2, Option.bind_some, Option.bind_some, hm, m2_f r3.2.2, e50 _ _ r3.2.2]
    exact ⟨false, uD, u5, c5, rfl, rfl, Or.inr ⟨rfl, r3⟩⟩
end
