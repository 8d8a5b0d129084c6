/-! ===== strong ===== -/
theorem rank_mono {O : Int32} {y z : Nat} (hy : bt O y = true) (hz : bt O z = true) : (fb_ct (bt O) y < fb_ct (bt O) z) ↔ y < z := by
  constructor
  · intro h
    by_cases e : y < z
    · exact e
    · have := fb_ct_mono (bt O) (show z ≤ y by omega)
      omega
  · intro h
    have := fb_ct_mono (bt O) (show y + 1 ≤ z by omega)
    rw [fb_ct_succ, hy] at this
    simp at this
    omega
theorem ct_ranks (O : Int32) (Q : Nat → Bool) : ∀ n, fb_ct (fun z => bt O z && Q (fb_ct (bt O) z)) n = fb_ct Q (fb_ct (bt O) n)
  | 0 => rfl
  | n + 1 => by
    rw [fb_ct_succ, ct_ranks O Q n, fb_ct_succ (bt O) n]
    cases h : bt O n
    · simp
    · simp only [Bool.true_and, ↓reduceIte]
      rw [fb_ct_succ]
/-- one is before another -/
def bet (T : Nat → Nat) (j i : Nat) : Bool := decide (T i < T j) || (decide (T j = T i) && decide (j < i))
def ahd (T : Nat → Nat) (c i : Nat) : Nat := fb_ct (fun j => bet T j i) c
def frs (O : Int32) (Q : Nat → Prop) (R : Int32) : Prop := (R = -2 ∧ ∀ z, bt O z = true → ¬ Q (fb_ct (bt O) z)) ∨ ∃ z, bt O z = true ∧ R = nI z ∧ Q (fb_ct (bt O) z) ∧ ∀ z', bt O z' = true → z' < z → ¬ Q (fb_ct (bt O) z')
theorem frs_one {O : Int32} {Q : Nat → Prop} {R R' : Int32} (h : frs O Q R) (h' : frs O Q R') : R = R' := by
  rcases h with ⟨a, b⟩ | ⟨z, a, b, c, d⟩
  · rcases h' with ⟨a', b'⟩ | ⟨z', a', b', c', d'⟩
    · rw [a, a']
    · exact absurd c' (b z' a')
  · rcases h' with ⟨a', b'⟩ | ⟨z', a', b', c', d'⟩
    · exact absurd c (b' z a)
    · have h1 : ¬ z < z' := fun h => d' z a h c
      have h2 : ¬ z' < z := fun h => d z' a' h c'
      rw [b, b', show z = z' by omega]
section
variable {N : Nat} {uG uN uL xA : sx_C} {K L A B : Nat} {u v : Nat → Nat}
theorem st_cong {a b : sx_C} {J G : Int32} (h1 : ∀ k, gi a k = gi b k) (h2 : ∀ k, k ≠ 4 → ga a k = ga b k) (h : stOK u v L A B J G b) : stOK u v L A B J G a := by
  obtain ⟨p1, p2, p3, p4⟩ := h
  have hw : ∀ n, wdb a n = wdb b n := fun n => by unfold wdb; rw [h2 1 (by decide)]
  refine ⟨by rw [h1]; exact p1, fun z hz => by rw [h2 3 (by decide)]; exact p2 z hz, fun n hn => by rw [hw]; exact p3 n hn, fun k hk => ?_⟩
  rw [h2 2 (by decide), p4 k hk]
  congr 2
  funext n
  rw [hw]
theorem lk_cong {a b : sx_C} (h1 : ∀ k, gi a k = gi b k) (h2 : ∀ k, k ≠ 4 → ga a k = ga b k) (h : LKd L A B u v b) : LKd L A B u v a := by
  rcases h with h | ⟨h3, h4⟩
  · exact Or.inl (by rw [h1]; exact h)
  · refine Or.inr ⟨by rw [h1]; exact h3, ?_⟩
    rw [h1 6, h1 7]
    exact st_cong h1 h2 h4
theorem pv_le {J : Int32} {m z : Nat} : pvS u v L A B J m z ≤ 16384 := fb_ct_le _ _
theorem nlt3 {a b c d : Nat} (ha : a ≤ 16384) (hb : b ≤ 16384) : (nI a < nI b ↔ a < b) ∧ (nI a = nI b ↔ a = b) := ⟨nlt (by omega) (by omega), neq (by omega) (by omega)⟩
theorem strongest_ok (hf : 200000 ≤ N) (hN : cNet uN K L A B u v) {J G : Int32} (h : stOK u v L A B J G uL) {m : Nat} (hm : ∀ z, m.testBit z = bt (opn L J G) z) (h14 : ∀ z, bt (opn L J G) z = true → z < 14) {T : Nat → Nat} (hT : ∀ z, bt (opn L J G) z = true → T (fb_ct (bt (opn L J G)) z) = pvS u v L A B J m z) {k : Nat} (hk : k < 2147483648) : ∃ R uL', f_X4_strongest N (nI k) uL = some (R, uL') ∧ (∀ k, gi uL' k = gi uL k) ∧ (∀ k, k ≠ 4 → ga uL' k = ga uL k) ∧ frs (opn L J G) (fun i => ahd T (qc (bt (opn L J G))) i = k) R := by
  have hL : L ≤ 14 := (cN_8 hN).2.2.2
  have hc14 := qc_opn14 hL J G
  have htb := fun (w : sx_C) (h1 : ∀ k, gi w k = gi uL k) (h2 : ∀ k, k ≠ 4 → ga w k = ga uL k) z hz => turnedBy_ok (uL := w) (z := z) (by omega : 2000 ≤ N) hN (st_cong h1 h2 h) hz hm h14
  have h8 := h.1
  have h3 := h.2.1
  obtain ⟨O, hO⟩ : ∃ O, O = opn L J G := ⟨_, rfl⟩
  rw [← hO] at h8 h3 hc14 htb hT ⊢
  have kth : ∀ i, i < qc (bt O) → ∃ z, z < 32 ∧ bt O z = true ∧ fb_ct (bt O) z = i := fun i hi => by
    obtain ⟨y, hy, hy2, hy3⟩ := fb_ct_kth (p := bt O) (n := 32) (show i < fb_ct (bt O) 32 from hi)
    exact ⟨y, hy, hy2, hy3⟩
  have hTle : ∀ i, i < qc (bt O) → T i ≤ 16384 := fun i hi => by
    obtain ⟨z, -, z2, z3⟩ := kth i hi
    rw [← z3, hT z z2]; exact pv_le
  -- the search
  have find : ∀ (w : sx_C), (∀ k, gi w k = gi uL k) → (∀ k, k ≠ 4 → ga w k = ga uL k) → (∀ i, i < qc (bt O) → ga w 4 i = nI (T i)) → ∀ fu i, qc (bt O) - i < fu → i ≤ qc (bt O) → (∀ j, j < i → ¬ ahd T (qc (bt O)) j = k) → ∃ R, f_X4_strongest_40 N fu (nI k) (nI i) w = some (R, w) ∧ frs O (fun i => ahd T (qc (bt O)) i = k) R := by
    intro w w1 w2 w4
    have w8 : gi w 8 = nI (qc (bt O)) := by rw [w1]; exact h8
    have ahead : ∀ i, i < qc (bt O) → f_X4_aheadOf N w (nI i) = some (nI (ahd T (qc (bt O)) i)) := by
      intro i hi
      have hTi := hTle i hi
      have loop : ∀ fu j, qc (bt O) - j < fu → j ≤ qc (bt O) → f_X4_aheadOf_16 N w fu (nI i) (nI (fb_ct (fun j => bet T j i) j)) (nI j) = some (nI (ahd T (qc (bt O)) i)) := by
        intro fu
        induction fu with
        | zero => intro j hj; omega
        | succ fu ih =>
          intro j hfu hj
          unfold f_X4_aheadOf_16 f_X4_aheadOf_65 f_X4_aheadOf_68
          rw [w8]
          by_cases hc : qc (bt O) ≤ j
          · rw [if_pos ((nle (by omega) (by omega)).mpr hc)]
            have : j = qc (bt O) := by omega
            rw [this]; rfl
          · have hTj := hTle j (by omega)
            rw [if_neg (fun h9 => hc ((nle (by omega) (by omega)).mp h9)), if_neg (show ¬ (14 : Int32) ≤ nI j from fun h => by have := (nle (a := 14) (by omega) (by omega)).mp h; omega), rd_ok (by omega) (by decide), rd_ok (by omega) (by decide)]
            simp only [Option.bind_some]
            rw [w4 j (by omega), w4 i hi, show nI j + 1 = nI (j + 1) from nadd j 1, show nI (fb_ct (fun j => bet T j i) j) + 1 = nI (fb_ct (fun j => bet T j i) j + 1) from nadd _ 1]
            have hs := fb_ct_succ (fun j => bet T j i) j
            have hn := ih (j + 1) (by omega) (by omega)
            by_cases c1 : T i < T j
            · have hb : bet T j i = true := by unfold bet; simp [c1]
              rw [if_pos ((nlt (by omega) (by omega)).mpr c1)]
              rw [hs, hb] at hn
              exact hn
            · rw [if_neg (fun h9 => c1 ((nlt (by omega) (by omega)).mp h9))]
              by_cases c2 : T j = T i
              · rw [if_pos (by rw [c2])]
                by_cases c3 : i ≤ j
                · have hb : bet T j i = false := by
                    unfold bet
                    have : ¬ j < i := by omega
                    simp [c1, this]
                  rw [if_pos ((nle (by omega) (by omega)).mpr c3)]
                  rw [hs, hb] at hn
                  exact hn
                · have hb : bet T j i = true := by
                    unfold bet
                    have : j < i := by omega
                    simp [c2, this]
                  rw [if_neg (fun h9 => c3 ((nle (by omega) (by omega)).mp h9))]
                  rw [hs, hb] at hn
                  exact hn
              · have hb : bet T j i = false := by unfold bet; simp [c1, c2]
                rw [if_neg (fun h9 => c2 ((neq (by omega) (by omega)).mp h9))]
                rw [hs, hb] at hn
                exact hn
      unfold f_X4_aheadOf
      rw [if_neg (nI_ne_neg (by omega)).2.2, if_pos (show nI i < 14 from (nlt (b := 14) (by omega) (by omega)).mpr (by omega))]
      exact loop N 0 (by omega) (by omega)
    intro fu
    induction fu with
    | zero => intro i hi; omega
    | succ fu ih =>
      intro i hfu hi hno
      unfold f_X4_strongest_40
      rw [w8]
      by_cases hc : qc (bt O) ≤ i
      · rw [if_pos ((nle (by omega) (by omega)).mpr hc)]
        refine ⟨_, rfl, Or.inl ⟨rfl, fun z hz => hno _ ?_⟩⟩
        have := rank_lt hz
        omega
      · rw [if_neg (fun h9 => hc ((nle (by omega) (by omega)).mp h9)), if_neg (show ¬ (14 : Int32) ≤ nI i from fun h => by have := (nle (a := 14) (by omega) (by omega)).mp h; omega), ahead i (by omega), Option.bind_some]
        have hale : ahd T (qc (bt O)) i ≤ qc (bt O) := fb_ct_le _ _
        by_cases he : ahd T (qc (bt O)) i = k
        · rw [if_pos (by rw [he]), rd_ok (by omega) (by decide), Option.bind_some]
          obtain ⟨z, -, z2, z3⟩ := kth i (by omega)
          refine ⟨_, rfl, Or.inr ⟨z, z2, ?_, by rw [z3]; exact he, fun z' hz' hlt => hno _ ?_⟩⟩
          · rw [w2 3 (by decide), ← z3]; exact h3 z z2
          · rw [← z3]; exact (rank_mono hz' z2).mpr hlt
        · rw [if_neg (fun h9 => he ((neq (by omega) (by omega)).mp h9)), show nI i + 1 = nI (i + 1) from nadd i 1]
          exact ih (i + 1) (by omega) (by omega) (fun j hj => by
            by_cases e : j = i
            · rw [e]; exact he
            · exact hno j (by omega))
  have fill : ∀ fu i (w : sx_C), qc (bt O) - i < fu → i ≤ qc (bt O) → (∀ k, gi w k = gi uL k) → (∀ k, k ≠ 4 → ga w k = ga uL k) → (∀ j, j < i → ga w 4 j = nI (T j)) → ∃ R uL', f_X4_strongest_2 N fu (nI k) (nI i) w = some (R, uL') ∧ (∀ k, gi uL' k = gi uL k) ∧ (∀ k, k ≠ 4 → ga uL' k = ga uL k) ∧ frs O (fun i => ahd T (qc (bt O)) i = k) R := by
    intro fu
    induction fu with
    | zero => intro i w hi; omega
    | succ fu ih =>
      intro i w hfu hi w1 w2 w4
      have w8 : gi w 8 = nI (qc (bt O)) := by rw [w1]; exact h8
      unfold f_X4_strongest_2 f_X4_strongest_38
      rw [w8]
      by_cases hc : qc (bt O) ≤ i
      · rw [if_pos ((nle (by omega) (by omega)).mpr hc)]
        obtain ⟨R, r1, r2⟩ := find w w1 w2 (fun j hj => w4 j (by omega)) N 0 (by omega) (by omega) (fun j hj => by omega)
        exact ⟨R, w, r1, w1, w2, r2⟩
      · obtain ⟨z, z1, z2, z3⟩ := kth i (by omega)
        have hgz : ga w 3 i = nI z := by rw [w2 3 (by decide), ← z3]; exact h3 z z2
        rw [if_neg (fun h9 => hc ((nle (by omega) (by omega)).mp h9)), if_neg (show ¬ (14 : Int32) ≤ nI i from fun h => by have := (nle (a := 14) (by omega) (by omega)).mp h; omega), rd_ok (by omega) (by decide), Option.bind_some, hgz, htb w w1 w2 z z2, Option.bind_some, if_pos (in_ok (by omega) (by decide)), nI_clamp (by omega), show nI i + 1 = nI (i + 1) from nadd i 1]
        refine ih (i + 1) _ (by omega) (by omega) (fun k => w1 k) (fun k hk => by rw [ga_sa, if_neg hk]; exact w2 k hk) (fun j hj => ?_)
        rw [ga_up]
        by_cases e : j = i
        · rw [if_pos e, e, ← z3, hT z z2]
        · rw [if_neg e]; exact w4 j (by omega)
  unfold f_X4_strongest
  exact fill N 0 uL (by omega) (by omega) (fun _ => rfl) (fun _ _ => rfl) (fun j hj => by omega)
theorem mstrong_ok (hf : 200000 ≤ N) (hM : mNet xA K L A B u v) (hL : L ≤ 14) {m : Nat} (hm14 : m < 16384) (hO : opn L (gi xA 7) (gi xA 8) = nI m) (hm : ∀ z, m.testBit z = bt (opn L (gi xA 7) (gi xA 8)) z) {T : Nat → Nat} (hT : ∀ z, bt (opn L (gi xA 7) (gi xA 8)) z = true → T (fb_ct (bt (opn L (gi xA 7) (gi xA 8))) z) = pvS u v L A B (gi xA 7) m z) {k : Nat} (hk : k < 2147483648) (xB xD : sx_C) : ∃ R xB' xD', f_X12_strong N xA (nI k) xB xD = some (R, xB', xD') ∧ frs (opn L (gi xA 7) (gi xA 8)) (fun i => ahd T (qc (bt (opn L (gi xA 7) (gi xA 8)))) i = k) R := by
  have hpv := fun z hz xD => pivotsOf_ok (z := z) hf hM hL hz hm14 hO hm xD
  have hopn := mOpenNow_ok hM
  have h4 : gi xA 4 = nI L := hM.2.2.2.1
  have hOL : ∀ z, bt (opn L (gi xA 7) (gi xA 8)) z = true → z < L := fun z hz => opn_lt (by omega : L < 31) hz
  have hcL : fb_ct (bt (opn L (gi xA 7) (gi xA 8))) L = qc (bt (opn L (gi xA 7) (gi xA 8))) := (ct_gap (a := L) (b := 32) (by omega) (fun t t1 t2 => by
    cases h9 : bt (opn L (gi xA 7) (gi xA 8)) t
    · rfl
    · have := hOL t h9; omega)).symm
  obtain ⟨J, hJ⟩ : ∃ J, J = gi xA 7 := ⟨_, rfl⟩
  obtain ⟨O, hO2⟩ : ∃ O, O = opn L (gi xA 7) (gi xA 8) := ⟨_, rfl⟩
  rw [← hO2] at hopn hOL hcL hT hO ⊢
  rw [← hO2, ← hJ] at hpv
  rw [← hJ] at hT
  -- the search
  have find : ∀ (tb : Nat → Int32), (∀ z, z < L → tb z = if bt O z = true then nI (pvS u v L A B J m z) else -1) → ∀ fu i xB xD, L - i < fu → i ≤ L → (∀ z, bt O z = true → z < i → ¬ ahd T (qc (bt O)) (fb_ct (bt O) z) = k) → ∃ R xB' xD', f_X12_strong_66 N xA fu (nI k) (nI i) xB xD tb = some (R, xB', xD') ∧ frs O (fun i => ahd T (qc (bt O)) i = k) R := by
    intro tb htb fu
    induction fu with
    | zero => intro i xB xD hi; omega
    | succ fu ih =>
      intro i xB xD hfu hi hno
      unfold f_X12_strong_66
      rw [h4]
      by_cases hc : L ≤ i
      · rw [if_pos ((nle (by omega) (by omega)).mpr hc)]
        exact ⟨_, _, _, rfl, Or.inl ⟨rfl, fun z hz => hno z hz (by have := hOL z hz; omega)⟩⟩
      · rw [if_neg (fun h9 => hc ((nle (by omega) (by omega)).mp h9))]
        have hti := htb i (by omega)
        -- the count
        have cnt : ∀ g j a, L - j < g → j ≤ L → (bt O i = true → a = fb_ct (fun z => bt O z && bet (fun z => pvS u v L A B J m z) z i) j) → ∃ R xB' xD', f_X12_strong_81 N (f_X12_strong_66 N xA fu) xA g (nI k) (nI i) (nI a) (nI j) xB xD tb = some (R, xB', xD') ∧ frs O (fun i => ahd T (qc (bt O)) i = k) R := by
          intro g
          induction g with
          | zero => intro j a hj; omega
          | succ g ihg =>
            intro j a hg hj ha
            unfold f_X12_strong_81 f_X12_strong_152
            rw [h4]
            by_cases hcj : L ≤ j
            · rw [if_pos ((nle (by omega) (by omega)).mpr hcj), rd_ok (by omega) (by decide), Option.bind_some, show nI i + 1 = nI (i + 1) from nadd i 1]
              cases hoi : bt O i
              · rw [hoi] at hti
                have hti : tb i = -1 := hti
                rw [hti, if_pos rfl]
                exact ih (i + 1) xB xD (by omega) (by omega) (fun z h1 h2 => by
                  by_cases e : z = i
                  · rw [e, hoi] at h1; cases h1
                  · exact hno z h1 (by omega))
              · have hpl : pvS u v L A B J m i ≤ 16384 := pv_le
                rw [hti, hoi, if_pos rfl, if_neg (nI_ne_neg (by omega)).1]
                have hje : j = L := by omega
                have hcount : a = ahd T (qc (bt O)) (fb_ct (bt O) i) := by
                  rw [ha hoi, hje]
                  unfold ahd
                  rw [← hcL, ← ct_ranks]
                  refine fb_ct_cong (fun z _ => ?_)
                  cases hoz : bt O z
                  · rfl
                  · unfold bet
                    rw [hT z hoz, hT i hoi]
                    have := rank_mono hoz hoi
                    simp only [this]
                have hale : a ≤ 14 := by
                  rw [hcount]
                  have : ahd T (qc (bt O)) (fb_ct (bt O) i) ≤ qc (bt O) := fb_ct_le _ _
                  have h2 := fb_ct_le (bt O) L
                  omega
                by_cases he : a = k
                · rw [if_pos (by rw [he])]
                  exact ⟨_, _, _, rfl, Or.inr ⟨i, hoi, rfl, hcount.symm.trans he, hno⟩⟩
                · rw [if_neg (fun h9 => he ((neq (by omega) (by omega)).mp h9))]
                  exact ih (i + 1) xB xD (by omega) (by omega) (fun z h1 h2 => by
                    by_cases e : z = i
                    · rw [e, ← hcount]; exact he
                    · exact hno z h1 (by omega))
            · rw [if_neg (fun h9 => hcj ((nle (by omega) (by omega)).mp h9)), rd_ok (by omega) (by decide), rd_ok (by omega) (by decide)]
              simp only [Option.bind_some]
              unfold f_X12_strong_121 f_X12_strong_125 f_X12_strong_126
              rw [show nI j + 1 = nI (j + 1) from nadd j 1, show nI a + 1 = nI (a + 1) from nadd a 1, show nI a + 0 = nI (a + 0) from nadd a 0]
              have htj := htb j (by omega)
              have hs := fb_ct_succ (fun z => bt O z && bet (fun z => pvS u v L A B J m z) z i) j
              have go : ∀ x, (bt O i = true → x = if (bt O j && bet (fun z => pvS u v L A B J m z) j i) = true then 1 else 0) → ∃ R xB' xD', f_X12_strong_81 N (f_X12_strong_66 N xA fu) xA g (nI k) (nI i) (nI (a + x)) (nI (j + 1)) xB xD tb = some (R, xB', xD') ∧ frs O (fun i => ahd T (qc (bt O)) i = k) R := fun x hx => ihg (j + 1) (a + x) (by omega) (by omega) (fun h9 => by rw [hs, ha h9, hx h9])
              have hpi : pvS u v L A B J m i ≤ 16384 := pv_le
              have hpj : pvS u v L A B J m j ≤ 16384 := pv_le
              by_cases c1 : tb i < tb j
              · rw [if_pos c1]
                refine go 1 (fun hoi => ?_)
                rw [hti, htj, hoi, if_pos rfl] at c1
                cases hoj : bt O j
                · rw [hoj, if_neg (by decide)] at c1
                  exact absurd (Int32.lt_trans c1 (by decide : (-1 : Int32) < 0)) (nI_ne_neg (by omega)).2.2
                · rw [hoj, if_pos rfl] at c1
                  have := (nlt (by omega) (by omega)).mp c1
                  unfold bet
                  simp [this]
              · rw [if_neg c1]
                by_cases c2 : tb j = tb i
                · rw [if_pos c2]
                  by_cases c3 : i ≤ j
                  · rw [if_pos ((nle (by omega) (by omega)).mpr c3)]
                    refine go 0 (fun hoi => ?_)
                    rw [hti, htj, hoi, if_pos rfl] at c1
                    cases hoj : bt O j
                    · rfl
                    · rw [hoj, if_pos rfl] at c1
                      have h5 : ¬ pvS u v L A B J m i < pvS u v L A B J m j := fun h => c1 ((nlt (by omega) (by omega)).mpr h)
                      have h6 : ¬ j < i := by omega
                      unfold bet
                      simp [h5, h6]
                  · rw [if_neg (fun h9 => c3 ((nle (by omega) (by omega)).mp h9))]
                    refine go 1 (fun hoi => ?_)
                    rw [hti, htj, hoi, if_pos rfl] at c2
                    cases hoj : bt O j
                    · rw [hoj, if_neg (by decide)] at c2
                      exact absurd c2.symm (nI_ne_neg (by omega)).1
                    · rw [hoj, if_pos rfl] at c2
                      have h5 : pvS u v L A B J m j = pvS u v L A B J m i := (neq (by omega) (by omega)).mp c2
                      have h6 : j < i := by omega
                      unfold bet
                      simp [h5, h6]
                · rw [if_neg c2]
                  refine go 0 (fun hoi => ?_)
                  rw [hti, htj, hoi, if_pos rfl] at c1 c2
                  cases hoj : bt O j
                  · rfl
                  · rw [hoj, if_pos rfl] at c1 c2
                    have h5 : ¬ pvS u v L A B J m i < pvS u v L A B J m j := fun h => c1 ((nlt (by omega) (by omega)).mpr h)
                    have h6 : ¬ pvS u v L A B J m j = pvS u v L A B J m i := fun h => c2 (by rw [h])
                    unfold bet
                    simp [h5, h6]
        exact cnt N 0 0 (by omega) (by omega) (fun _ => rfl)
  have fill : ∀ fu i xB xD (tb : Nat → Int32), L - i < fu → i ≤ L → (∀ z, z < i → tb z = if bt O z = true then nI (pvS u v L A B J m z) else -1) → ∃ R xB' xD', f_X12_strong_24 N xA fu (nI k) O (nI i) xB xD tb = some (R, xB', xD') ∧ frs O (fun i => ahd T (qc (bt O)) i = k) R := by
    intro fu
    induction fu with
    | zero => intro i xB xD tb hi; omega
    | succ fu ih =>
      intro i xB xD tb hfu hi htb
      unfold f_X12_strong_24
      rw [h4]
      by_cases hc : L ≤ i
      · rw [if_pos ((nle (by omega) (by omega)).mpr hc)]
        exact find tb (fun z hz => htb z (by omega)) N 0 xB xD (by omega) (by omega) (fun z h1 h2 => by omega)
      · rw [if_neg (fun h9 => hc ((nle (by omega) (by omega)).mp h9))]
        have put : ∀ x xD, (x = if bt O i = true then nI (pvS u v L A B J m i) else -1) → ∃ R xB' xD', f_X12_strong_56 N (f_X12_strong_24 N xA fu) xA (nI k) O (nI i) (nI i) x xB xD tb = some (R, xB', xD') ∧ frs O (fun i => ahd T (qc (bt O)) i = k) R := by
          intro x xD hx
          unfold f_X12_strong_56
          rw [if_pos (in_ok (by omega) (by decide)), nI_clamp (by omega), show nI i + 1 = nI (i + 1) from nadd i 1]
          refine ih (i + 1) xB xD _ (by omega) (by omega) (fun z hz => ?_)
          show (if z = i then x else tb z) = _
          by_cases e : z = i
          · rw [if_pos e, e, hx]
          · rw [if_neg e]; exact htb z (by omega)
        have hsh := (shr_ok O (show i < 32 by omega)).1
        cases hoi : bt O i
        · rw [if_neg (fun h9 => by have := hsh.mp h9; rw [hoi] at this; cases this)]
          exact put (-1) xD (by rw [hoi]; rfl)
        · rw [if_pos (hsh.mpr hoi)]
          obtain ⟨xD1, p1⟩ := hpv i hoi xD
          simp only [p1, Option.bind_some]
          exact put _ xD1 (by rw [hoi]; rfl)
  unfold f_X12_strong
  rw [if_pos (show (0 : Int32) ≤ nI k from (nle (a := 0) (by omega) (by omega)).mpr (by omega)), hopn, Option.bind_some]
  exact fill N 0 (si xB 0 0) xD (fun _ => 0) (by omega) (by omega) (fun z hz => by omega)
end
theorem lo_strong {N : Nat} (hf : 200000 ≤ N) : LO_strong N (sI LKd) := by
  rintro uG uN uD uR uF uP uL uTT uA uM uH xA xB xC xD xE xF xG xH xI xJ xK xL x ⟨K, L, A, B, u, v, hC, hR⟩
  have hI : ∀ uL' xB' xD', LKd L A B u v uL' → sI LKd uG uN uD uR uF uP uL' uTT uA uM uH xA xB' xC xD' xE xF xG xH xI xJ xK xL := fun _ _ _ h => ⟨K, L, A, B, u, v, hC, sRest_L hR h⟩
  obtain ⟨hN, hM, hF, ⟨e7, e8, e11⟩, -, hJ, hG, hdis⟩ := id hC
  have hL : L ≤ 14 := (cN_8 hN).2.2.2
  by_cases h0 : 0 ≤ x
  · obtain ⟨k, hk, rfl⟩ := n_pos h0
    obtain ⟨uL', l1, l2, l3⟩ := lookAt_ok (by omega : 2000 ≤ N) hN hR.2.2.2 (gi uG 12) (gi uG 13)
    obtain ⟨m, hm14, hO, hm, h14⟩ := opn_num hL (gi uG 12) (gi uG 13)
    have each : ∀ j, ∃ t, ∀ z, bt (opn L (gi uG 12) (gi uG 13)) z = true → fb_ct (bt (opn L (gi uG 12) (gi uG 13))) z = j → t = pvS u v L A B (gi uG 12) m z := fun j => by
      by_cases h : ∃ z, bt (opn L (gi uG 12) (gi uG 13)) z = true ∧ fb_ct (bt (opn L (gi uG 12) (gi uG 13))) z = j
      · obtain ⟨z, z1, z2⟩ := h
        exact ⟨pvS u v L A B (gi uG 12) m z, fun z' a b => by rw [fb_ct_kth_one z1 a (by omega)]⟩
      · exact ⟨0, fun z a b => absurd ⟨z, a, b⟩ h⟩
    obtain ⟨T, hT⟩ := Classical.axiomOfChoice each
    obtain ⟨R, uL2, r1, r2, r3, r4⟩ := strongest_ok hf hN l3 hm h14 (T := T) (fun z hz => hT _ z hz rfl) hk
    obtain ⟨R2, xB', xD', s1, s2⟩ := mstrong_ok (xA := xA) hf hM hL hm14 (by rw [e7, e8]; exact hO) (by rw [e7, e8]; exact hm) (T := T) (by rw [e7, e8]; exact fun z hz => hT _ z hz rfl) hk xB xD
    rw [e7, e8] at s2
    unfold f_X11_strong
    rw [if_pos h0, l1, Option.bind_some, r1, s1]
    exact ⟨_, rfl, _, rfl, frs_one r4 s2, hI _ _ _ (lk_cong r2 r3 l2)⟩
  · unfold f_X11_strong f_X12_strong
    rw [if_neg h0, if_neg h0]
    exact ⟨_, rfl, _, rfl, rfl, hI _ _ _ hR.2.2.2⟩
