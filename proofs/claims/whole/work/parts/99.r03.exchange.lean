/-! ===== exchange ===== -/
section
variable {N : Nat} {uF uP xA xE xH : sx_C} {K L A B : Nat} {u v ut vt : Nat → Nat} {f : Nat → Nat} {W : BS} {c : Nat}
theorem swap_key (hN20 : 20 ≤ N) {u' v' : Nat → Nat} (hF : fNet uF u' v') (hag : ∀ i, W i = true → u' i = ut i ∧ v' i = vt i) (hk : ∀ i, ut i < 8 ∧ vt i < 8) {own oth : Int32} (ht : trP ut vt W own oth c) {i j : Nat} (hi : bt own i = true) (hj1 : xV ut vt own oth i j = true) (hj2 : fb_ct (xV ut vt own oth i) j = 0) :
    ∀ n z (w : sx_C), 14 - z < n → z ≤ 14 → f4 w uF → z ≤ j → ∃ uF', f_X7_swapFor_68 N uP n (nI i) own oth (nI z) w = some (nI j, uF') ∧ f4 uF' uF := by
  obtain ⟨t1, t2, t3, t4, t5, t6, t7, t8, t9, t10⟩ := ht
  have i14 := t1 i (t2 i hi)
  have hjo : bt oth j = true := by unfold xV at hj1; simp at hj1; exact hj1.1
  have j14 := t1 j (t3 j hjo)
  intro n
  induction n with
  | zero => intro z w hn; omega
  | succ n ih =>
    intro z w hn hz hw hzj
    unfold f_X7_swapFor_68
    rw [if_neg (show ¬ (14 : Int32) ≤ nI z from fun h => by have := (nle (a := 14) (by omega) (by omega)).mp h; omega), has_ok _ (by omega), Option.bind_some]
    unfold f_X7_swapFor_109
    rw [show nI z + 1 = nI (z + 1) from nadd z 1]
    have hne : xV ut vt own oth i z = false → z + 1 ≤ j := fun h => by
      by_cases e : z = j
      · rw [e, hj1] at h; cases h
      · omega
    cases hb : bt oth z
    · rw [if_neg (by decide)]
      exact ih (z + 1) w (by omega) (by omega) hw (hne (by unfold xV; rw [hb]; rfl))
    · rw [if_pos rfl]
      obtain ⟨w1, l1, l2⟩ := links_ok hN20 (f4_net hw hF) hag t1 t2 t5 hk (by omega : i < 17) (t3 z hb)
      simp only [l1, Option.bind_some]
      cases hg : gs ut vt (qE (bt own) i) z
      · rw [if_pos (by rfl)]
        obtain ⟨w2, m1, m2⟩ := links_ok hN20 (f4_net (f4_t l2 hw) hF) hag t1 t3 t6 hk (by omega : z < 17) (t2 i hi)
        simp only [m1, Option.bind_some]
        cases hg2 : gs ut vt (qE (bt oth) z) i
        · rw [if_pos (by rfl)]
          have hV : xV ut vt own oth i z = true := by unfold xV; rw [hb, hg, hg2]; rfl
          have : z = j := by
            by_cases e : z = j
            · exact e
            · have := fb_ct_zero.mp hj2 z (by omega)
              rw [hV] at this; cases this
          rw [this]
          exact ⟨w2, rfl, f4_t m2 (f4_t l2 hw)⟩
        · rw [if_neg (by decide)]
          exact ih (z + 1) w2 (by omega) (by omega) (f4_t m2 (f4_t l2 hw)) (hne (by unfold xV; rw [hb, hg, hg2]; rfl))
      · rw [if_neg (by decide)]
        exact ih (z + 1) w1 (by omega) (by omega) (f4_t l2 hw) (hne (by unfold xV; rw [hb, hg]; rfl))
theorem mswap_key (hf : 20 ≤ N) (H : mPl xA xE K L A B u v ut vt f) (hWL : ∀ z, W z = true → z < L) {own oth : Int32} (ht : trP ut vt W own oth c) {i j : Nat} (hi : bt own i = true) (hj1 : xV ut vt own oth i j = true) (hj2 : fb_ct (xV ut vt own oth i) j = 0) :
    ∀ n z (w : sx_C), L - z < n → z ≤ L → z ≤ j → ∃ xF', f_X12_exchangeOf_60 N xA xE xH n (sp_shl 1 (nI i)) (own &&& (sp_shl 1 (nI i) ^^^ (-1))) oth (nI z) w = some (nI j, xF') := by
  have h4 : gi xA 4 = nI L := H.1.2.2.2.1
  have hL17 : L ≤ 17 := H.1.2.2.2.2.2.1.2.2
  obtain ⟨t1, t2, t3, t4, t5, t6, t7, t8, t9, t10⟩ := ht
  have i14 := t1 i (t2 i hi)
  have hjo : bt oth j = true := by unfold xV at hj1; simp at hj1; exact hj1.1
  have jL := hWL j (t3 j hjo)
  intro n
  induction n with
  | zero => intro z w hn; omega
  | succ n ih =>
    intro z w hn hz hzj
    unfold f_X12_exchangeOf_60
    rw [h4, if_neg (fun h => by have := (nle (by omega) (by omega)).mp h; omega)]
    unfold f_X12_exchangeOf_115
    rw [show nI z + 1 = nI (z + 1) from nadd z 1]
    have hne : xV ut vt own oth i z = false → z + 1 ≤ j := fun h => by
      by_cases e : z = j
      · rw [e, hj1] at h; cases h
      · omega
    cases hb : bt oth z
    · have n1 : ¬ (sp_shr oth (nI z)) &&& 1 = 1 := fun h => by rw [(shr_ok _ (by omega)).1, hb] at h; cases h
      rw [if_neg n1]
      exact ih (z + 1) w (by omega) (by omega) (hne (by unfold xV; rw [hb]; rfl))
    · rw [if_pos ((shr_ok oth (by omega : z < 32)).1.mpr hb)]
      have hown : bt own z = false := by
        cases h9 : bt own z
        · rfl
        · exact absurd ⟨h9, hb⟩ (t4 z)
      have hoi : bt oth i = false := by
        cases h9 : bt oth i
        · rfl
        · exact absurd ⟨hi, h9⟩ (t4 i)
      obtain ⟨w1, l1⟩ := mlink_ok hf H hWL t2 t5 (by omega : i < 17) (t3 z hb) hown w
      simp only [l1, Option.bind_some]
      cases hg : gs ut vt (qE (bt own) i) z
      · rw [if_pos (by rfl)]
        obtain ⟨w2, m1⟩ := mlink_ok hf H hWL t3 t6 (by omega : z < 17) (t2 i hi) hoi w1
        simp only [m1, Option.bind_some]
        cases hg2 : gs ut vt (qE (bt oth) z) i
        · rw [if_pos (by rfl)]
          have hV : xV ut vt own oth i z = true := by unfold xV; rw [hb, hg, hg2]; rfl
          have : z = j := by
            by_cases e : z = j
            · exact e
            · have := fb_ct_zero.mp hj2 z (by omega)
              rw [hV] at this; cases this
          rw [this]
          exact ⟨w2, rfl⟩
        · rw [if_neg (by decide)]
          exact ih (z + 1) w2 (by omega) (by omega) (hne (by unfold xV; rw [hb, hg, hg2]; rfl))
      · rw [if_neg (by decide)]
        exact ih (z + 1) w1 (by omega) (by omega) (hne (by unfold xV; rw [hb, hg]; rfl))
theorem swap_ok (hN20 : 20 ≤ N) {u' v' : Nat → Nat} (hF : fNet uF u' v') (hag : ∀ i, W i = true → u' i = ut i ∧ v' i = vt i) (H : mPl xA xE K L A B u v ut vt f) (hWL : ∀ z, W z = true → z < L) (h : trP ut vt W (gi uP 4) (gi uP 5) c) (e44 : gi xH 44 = gi uP 4) (e45 : gi xH 45 = gi uP 5) {i : Nat} (hi : i < 14) (xF : sx_C) :
    (bt (gi uP 4 ||| gi uP 5) i = false ∧ f_X7_swapFor N uP (nI i) uF = some (-2, uF)) ∨ (bt (gi uP 4 ||| gi uP 5) i = true ∧ ∃ j uF' xF', f_X7_swapFor N uP (nI i) uF = some (nI j, uF') ∧ f4 uF' uF ∧ f_X12_exchangeOf N xA xE xH (nI i) xF = some (nI j, xF')) := by
  have hk := H.2.2.2.1
  have hL17 : L ≤ 17 := H.1.2.2.2.2.2.1.2.2
  unfold f_X7_swapFor
  rw [has_ok _ (by omega), Option.bind_some]
  cases hb : bt (gi uP 4 ||| gi uP 5) i
  · exact Or.inl ⟨rfl, rfl⟩
  · right
    refine ⟨rfl, ?_⟩
    rw [if_pos rfl, has_ok _ (by omega), Option.bind_some]
    unfold f_X7_swapFor_41 f_X7_swapFor_64 f_X12_exchangeOf f_X12_exchangeOf_18 f_X12_exchangeOf_34 f_X12_exchangeOf_55
    rw [has_ok _ (by omega), Option.bind_some, Option.bind_some, e44, e45]
    have go : ∀ own oth, trP ut vt W own oth c → bt own i = true → ∃ j uF' xF', f_X7_swapFor_68 N uP N (nI i) own oth 0 uF = some (nI j, uF') ∧ f4 uF' uF ∧ f_X12_exchangeOf_60 N xA xE xH N (sp_shl 1 (nI i)) (own &&& (sp_shl 1 (nI i) ^^^ (-1))) oth 0 xF = some (nI j, xF') := by
      intro own oth ht ho
      obtain ⟨j, j1, j2, j3⟩ := fb_ct_kth (k := 0) (n := 14) (fb_ct_pos.mpr (tr_swap hk ht ho))
      obtain ⟨uF', a1, a2⟩ := swap_key hN20 hF hag hk ht ho j2 j3 N 0 uF (by omega) (by omega) (f4_r uF) (Nat.zero_le _)
      obtain ⟨xF', a3⟩ := mswap_key (xH := xH) hN20 H hWL ht ho j2 j3 N 0 xF (by omega) (by omega) (Nat.zero_le _)
      exact ⟨j, uF', xF', a1, a2, a3⟩
    cases ha : bt (gi uP 4) i
    · rw [if_pos ((b_bit0 (by omega)).mpr ha)]
      have hbi : bt (gi uP 5) i = true := by
        rw [b_or, ha] at hb
        simpa using hb
      simp only [Bool.false_eq_true, ↓reduceIte]
      exact go _ _ (trP_sym h) hbi
    · have n1 : ¬ gi uP 4 &&& sp_shl 1 (nI i) = 0 := fun h9 => by rw [b_bit0 (by omega), ha] at h9; cases h9
      rw [if_neg n1]
      have e10 : ¬ (1 : Int32) = 0 := by decide
      simp only [e10, ↓reduceIte]
      exact go _ _ h ha
end
theorem lo_exchange {N : Nat} {LK : sLK} (hf : 200000 ≤ N) : LO_exchange N (sI LK) := by
  rintro uG uN uD uR uF uP uL uTT uA uM uH xA xB xC xD xE xF xG xH xI xJ xK xL x ⟨K, L, A, B, u, v, hC, hR⟩
  have hI : ∀ uF' uP' xB' xD' xE' xF' xG' xH', (∃ u' v', fNet uF' u' v') → sI LK uG uN uD uR uF' uP' uL uTT uA uM uH xA xB' xC xD' xE' xF' xG' xH' xI xJ xK xL := fun _ _ _ _ _ _ _ _ h => ⟨K, L, A, B, u, v, sCore_F hC h, hR⟩
  obtain ⟨hN, hM, hF, ⟨e7, e8, e11⟩, -⟩ := id hC
  have hL : L ≤ 14 := (cN_8 hN).2.2.2
  unfold f_X11_exchange f_X12_exchange
  rcases line_cases hN hM x with ⟨a, b⟩ | ⟨i, i1, rfl, i3, i4⟩
  · simp only [a, b, Option.bind_some, Bool.false_eq_true, ↓reduceIte]
    exact ⟨_, rfl, _, rfl, rfl, hI _ _ _ _ _ _ _ _ hF⟩
  · simp only [i3, i4, Option.bind_some, ↓reduceIte]
    rw [e7, e8]
    obtain ⟨fb, uF', uP', xD', xE', xF', xG', xH', a1, a2, a3, a4, a5⟩ := find_ok (uP := uP) hf hN hM hF (gi uG 12) (gi uG 13) xD xE xF xG xH
    simp only [a1, a2, Option.bind_some]
    cases fb
    · exact ⟨_, rfl, _, rfl, rfl, hI _ _ _ _ _ _ _ _ a3⟩
    · obtain ⟨s, q3, q43, -, q44, q45, -, q5, -, -, q6, u', v', q7, q8⟩ := a5 rfl
      have hWL : ∀ z, qW (uT u v L A (gi uG 12) u) (uT u v L B (gi uG 12) v) (bt (opn L (gi uG 12) (gi uG 13))) (bt (nI s)) z = true → z < L := fun z hz => by
        unfold qW at hz
        simp at hz
        exact opn_lt (by omega) hz.1
      rw [if_pos rfl, if_pos rfl]
      rcases swap_ok (by omega : 20 ≤ N) q7 q8 q5 hWL q6 q44 q45 (by omega : i < 14) xF' with ⟨b1, b2⟩ | ⟨b1, j, uF2, xF2, b2, b3, b4⟩
      · have n1 : ¬ (sp_shr (gi xH' 44 ||| gi xH' 45) (nI i)) &&& 1 = 1 := fun h => by rw [(shr_ok _ (by omega)).1, q44, q45, b1] at h; cases h
        simp only [b2, Option.bind_some]
        rw [if_neg n1]
        exact ⟨_, rfl, _, rfl, rfl, hI _ _ _ _ _ _ _ _ a3⟩
      · simp only [b2, Option.bind_some]
        rw [if_pos ((shr_ok (gi xH' 44 ||| gi xH' 45) (by omega : i < 32)).1.mpr (by rw [q44, q45]; exact b1)), b4]
        exact ⟨_, rfl, _, rfl, rfl, hI _ _ _ _ _ _ _ _ ⟨u', v', f4_net b3 q7⟩⟩
