/-! ===== LuckySets: mark ===== -/
def lkS (u v : Nat → Nat) (L A B : Nat) (J : Int32) (S : BS) : Bool := decide (la u v (qU (bL J L) S) A = la u v (qU (bL J L) S) B)
theorem lkS_mono {u v : Nat → Nat} {L A B : Nat} {J : Int32} {S T : BS} (h : qS S T) (h1 : lkS u v L A B J S = true) : lkS u v L A B J T = true := by
  unfold lkS at *
  refine decide_eq_true (la_mono (fun i _ hi => ?_) (of_decide_eq_true h1))
  have hi : (bL J L i || S i) = true := hi
  show (bL J L i || T i) = true
  cases hb : bL J L i
  · rw [hb] at hi
    rw [h i (by simpa using hi)]; rfl
  · rfl
def wdb (uL : sx_C) (n : Nat) : Bool := bt (ga uL 1 (n / 32)) (n % 32)
/-- all but the words stay -/
def g1s (a b : sx_C) : Prop := (∀ k, gi a k = gi b k) ∧ ∀ k, k ≠ 1 → ga a k = ga b k
theorem g1s_r (a : sx_C) : g1s a a := ⟨fun _ => rfl, fun _ _ => rfl⟩
theorem g1s_t {a b c : sx_C} (h : g1s a b) (h2 : g1s b c) : g1s a c := ⟨fun k => (h.1 k).trans (h2.1 k), fun k hk => (h.2 k hk).trans (h2.2 k hk)⟩
theorem mask_dec : ∀ l, l < 5 → ∀ q, q < 32 → q % 2 ^ l = 0 → ∀ z, z < 32 → bt (sp_shl (sp_shl 1 (sp_shl 1 (nI l)) - 1) (nI q)) z = (decide (q ≤ z) && decide (z < q + 2 ^ l)) := by decide +kernel
theorem ushr5 {T : Nat} (h : T < 65536) : sp_ushr (nI T) 5 = nI (T / 32) := by
  have := nx_ush (k := T) (j := 5) h (by omega)
  rw [Nat.shiftRight_eq_div_pow] at this
  exact this
theorem and31 (T : Nat) : nI T &&& 31 = nI (T % 32) := fa_mask T 5
theorem shl1_dec : ∀ q, q < 15 → sp_shl 1 (nI q) = nI (2 ^ q) := by decide +kernel
section
variable {N : Nat} {uN uL : sx_C} {K L A B : Nat} {u v : Nat → Nat}
theorem markAll_ok (hf : 2000 ≤ N) {l T : Nat} (hl : l ≤ 14) (hT : T % 2 ^ l = 0) (hT2 : T + 2 ^ l ≤ 16384) : ∃ uL', f_X4_markAll N (nI l) (nI T) uL = some uL' ∧ g1s uL' uL ∧ ∀ n, n < 16384 → wdb uL' n = (wdb uL n || (decide (T ≤ n) && decide (n < T + 2 ^ l))) := by
  have hTlt : T < 65536 := by omega
  unfold f_X4_markAll
  rw [ushr5 hTlt]
  by_cases h5 : 5 ≤ l
  · rw [if_pos (show (5 : Int32) ≤ nI l from (nle (a := 5) (by omega) (by omega)).mpr h5)]
    obtain ⟨e, rfl⟩ : ∃ e, l = e + 5 := ⟨l - 5, by omega⟩
    have e5 : nI (e + 5) - 5 = nI e := nsub e 5
    have hp : 2 ^ (e + 5) = 32 * 2 ^ e := by rw [Nat.pow_add]; omega
    rw [e5, shl1_dec e (by omega), nadd]
    have hmod : T % 32 = 0 := by
      have h1 : 32 ∣ 2 ^ (e + 5) := ⟨2 ^ e, hp⟩
      have h2 : 2 ^ (e + 5) ∣ T := Nat.dvd_of_mod_eq_zero hT
      exact Nat.mod_eq_zero_of_dvd (Nat.dvd_trans h1 h2)
    have hmin : f_J9_min_7cf53 (nI (T / 32 + 2 ^ e)) 512 = some (nI (T / 32 + 2 ^ e)) := by
      unfold f_J9_min_7cf53
      rw [if_neg (show ¬ (512 : Int32) < nI (T / 32 + 2 ^ e) from fun h => by have := (nlt (a := 512) (by omega) (by omega)).mp h; omega)]
    rw [hmin, Option.bind_some]
    have loop : ∀ n i (w : sx_C), T / 32 + 2 ^ e - i < n → T / 32 ≤ i → i ≤ T / 32 + 2 ^ e → g1s w uL → (∀ n, n < 16384 → wdb w n = (wdb uL n || (decide (T ≤ n) && decide (n < 32 * i)))) → ∃ uL', f_X4_markAll_56 N n (nI (T / 32 + 2 ^ e)) (nI i) w = some uL' ∧ g1s uL' uL ∧ ∀ n, n < 16384 → wdb uL' n = (wdb uL n || (decide (T ≤ n) && decide (n < T + 2 ^ (e + 5)))) := by
      intro n
      induction n with
      | zero => intro i w hn; omega
      | succ n ih =>
        intro i w hn hi1 hi2 hw hb
        unfold f_X4_markAll_56
        by_cases hc : T / 32 + 2 ^ e ≤ i
        · rw [if_pos ((nle (by omega) (by omega)).mpr hc)]
          refine ⟨w, rfl, hw, fun n hn2 => ?_⟩
          rw [hb n hn2, show 32 * i = T + 2 ^ (e + 5) by omega]
        · rw [if_neg (fun h => hc ((nle (by omega) (by omega)).mp h)), if_pos (in_ok (by omega) (by decide)), nI_clamp (by omega), show nI i + 1 = nI (i + 1) from nadd i 1]
          refine ih (i + 1) _ (by omega) (by omega) (by omega) ⟨fun k => hw.1 k, fun k hk => by rw [ga_sa, if_neg hk]; exact hw.2 k hk⟩ (fun q hq => ?_)
          unfold wdb
          rw [ga_up]
          by_cases e2 : q / 32 = i
          · rw [if_pos e2, b_m1 _ (by omega)]
            have h1 : T ≤ q := by omega
            have h2 : q < 32 * (i + 1) := by omega
            simp [h1, h2]
          · rw [if_neg e2]
            have := hb q hq
            unfold wdb at this
            rw [this]
            have : decide (q < 32 * i) = decide (q < 32 * (i + 1)) := by
              by_cases h9 : q < 32 * i
              · have : q < 32 * (i + 1) := by omega
                simp [h9, this]
              · have : ¬ q < 32 * (i + 1) := by omega
                simp [h9, this]
            rw [this]
    refine loop N (T / 32) uL (by omega) (Nat.le_refl _) (by omega) (g1s_r uL) (fun n hn => ?_)
    have : (decide (T ≤ n) && decide (n < 32 * (T / 32))) = false := by
      by_cases h9 : T ≤ n
      · have : ¬ n < 32 * (T / 32) := by omega
        simp [this]
      · simp [h9]
    rw [this]; simp
  · rw [if_neg (show ¬ (5 : Int32) ≤ nI l from fun h => h5 ((nle (a := 5) (by omega) (by omega)).mp h))]
    have hl5 : l < 5 := by omega
    have hp32 : ∃ d, 32 = 2 ^ l * d ∧ 0 < d := by
      have : l = 0 ∨ l = 1 ∨ l = 2 ∨ l = 3 ∨ l = 4 := by omega
      rcases this with h | h | h | h | h <;> rw [h]
      · exact ⟨32, rfl, by decide⟩
      · exact ⟨16, rfl, by decide⟩
      · exact ⟨8, rfl, by decide⟩
      · exact ⟨4, rfl, by decide⟩
      · exact ⟨2, rfl, by decide⟩
    have hq0 : T % 32 % 2 ^ l = 0 := by
      obtain ⟨d, hd, -⟩ := hp32
      rw [hd, Nat.mod_mul_right_mod]; exact hT
    have hfit : T % 32 + 2 ^ l ≤ 32 := by
      have : l = 0 ∨ l = 1 ∨ l = 2 ∨ l = 3 ∨ l = 4 := by omega
      rcases this with h | h | h | h | h <;> rw [h] at hq0 ⊢ <;> simp at hq0 ⊢ <;> omega
    have hw512 : T / 32 < 512 := by
      have := Nat.two_pow_pos l
      omega
    rw [if_neg (show ¬ (512 : Int32) ≤ nI (T / 32) from fun h => by have := (nle (a := 512) (by omega) (by omega)).mp h; omega), rd_ok hw512 (by decide), Option.bind_some, if_pos (in_ok hw512 (by decide)), nI_clamp (by omega), and31]
    refine ⟨_, rfl, ⟨fun k => rfl, fun k hk => by rw [ga_sa, if_neg hk]⟩, fun n hn => ?_⟩
    unfold wdb
    rw [ga_up]
    by_cases e2 : n / 32 = T / 32
    · rw [if_pos e2, b_or, mask_dec l hl5 _ (by omega) hq0 _ (by omega), e2]
      have h1 : decide (T % 32 ≤ n % 32) = decide (T ≤ n) := by
        by_cases h9 : T ≤ n
        · have : T % 32 ≤ n % 32 := by omega
          simp [h9, this]
        · have : ¬ T % 32 ≤ n % 32 := by omega
          simp [h9, this]
      have h2 : decide (n % 32 < T % 32 + 2 ^ l) = decide (n < T + 2 ^ l) := by
        by_cases h9 : n < T + 2 ^ l
        · have : n % 32 < T % 32 + 2 ^ l := by omega
          simp [h9, this]
        · have : ¬ n % 32 < T % 32 + 2 ^ l := by omega
          simp [h9, this]
      rw [h1, h2]
    · rw [if_neg e2]
      have : (decide (T ≤ n) && decide (n < T + 2 ^ l)) = false := by
        by_cases h9 : T ≤ n
        · have : ¬ n < T + 2 ^ l := by omega
          simp [this]
        · simp [h9]
      rw [this]; simp
theorem withLine_ok (hN : cNet uN K L A B u v) {p : Int32} {f : Nat → Nat} (hp : pk p f) (hf : ∀ k, k < 8 → f k < 8) {z : Nat} (hz : z < L) : ∃ p', f_X6_withLine uN p (nI z) = some p' ∧ pk p' (lm f (u z) (v z)) := by
  obtain ⟨h1, h2, h3, h4, h5, ⟨h6, h7, h8⟩, h9, h10⟩ := id hN
  unfold f_X6_withLine
  rcases cline_ok hN (nI z) with ⟨-, hno⟩ | ⟨i2, -, -, ht⟩
  · exact absurd rfl (hno z hz)
  · have hu := (h10 z).1
    have hv := (h10 z).2
    have r0 : sp_rd (ga uN 0) 14 (nI z) = some (nI (u z)) := by rw [rd_ok (by omega) (by decide), (h5 z hz).1]
    have r1 : sp_rd (ga uN 1) 14 (nI z) = some (nI (v z)) := by rw [rd_ok (by omega) (by decide), (h5 z hz).2]
    obtain ⟨p', m1, m2⟩ := merged_ok hp hf (a := u z) (b := v z) (by omega) (by omega)
    simp only [ht, r0, r1, m1, Option.bind_some, ↓reduceIte]
    exact ⟨p', rfl, m2⟩
theorem mark_ok (hf : 2000 ≤ N) (hN : cNet uN K L A B u v) {J O : Int32} (hO : ∀ z, bt O z = true → z < L) : ∀ l T d p uL, l < d → l ≤ qc (bt O) → T % 2 ^ l = 0 → T + 2 ^ l ≤ 2 ^ qc (bt O) → pk p (la u v (qU (bL J L) (pS O T))) → (∀ z, bt O z = true → ga uL 3 (fb_ct (bt O) z) = nI z) → ∃ uL', f_X4_mark N uN d (nI l) p (nI T) uL = some uL' ∧ g1s uL' uL ∧ ∀ n, n < 16384 → wdb uL' n = (wdb uL n || ((decide (T ≤ n) && decide (n < T + 2 ^ l)) && lkS u v L A B J (pS O n))) := by
  have hL : L ≤ 14 := (cN_8 hN).2.2.2
  have hc14 : qc (bt O) ≤ 14 := by
    have : fb_ct (bt O) 14 = qc (bt O) := ct14 (fun z hz => by have := hO z hz; omega)
    rw [← this]; exact fb_ct_le _ 14
  have hp14 : 2 ^ qc (bt O) ≤ 16384 := by
    have : 2 ^ qc (bt O) ≤ 2 ^ 14 := Nat.pow_le_pow_right (by decide) hc14
    omega
  intro l
  induction l with
  | zero =>
    intro T d p uL hd hl hT hT2 hp h3
    obtain ⟨d', rfl⟩ : ∃ d', d = d' + 1 := ⟨d - 1, by omega⟩
    unfold f_X4_mark
    rw [meet_ok hN hp (la_lt8 _ _ _), Option.bind_some]
    by_cases hm : la u v (qU (bL J L) (pS O T)) A = la u v (qU (bL J L) (pS O T)) B
    · rw [if_pos (decide_eq_true hm)]
      obtain ⟨uL', a1, a2, a3⟩ := markAll_ok (uL := uL) hf (l := 0) (T := T) (by omega) hT (by omega)
      rw [a1]
      refine ⟨uL', rfl, a2, fun n hn => ?_⟩
      rw [a3 n hn]
      by_cases e : n = T
      · have : lkS u v L A B J (pS O n) = true := by rw [e]; exact decide_eq_true hm
        rw [this]; simp
      · have : (decide (T ≤ n) && decide (n < T + 2 ^ 0)) = false := by
          by_cases h9 : T ≤ n
          · have : ¬ n < T + 2 ^ 0 := by simp; omega
            simp [this]
          · simp [h9]
        rw [this]; simp
    · rw [if_neg (fun h => hm (of_decide_eq_true h)), if_pos (by decide)]
      refine ⟨uL, rfl, g1s_r uL, fun n hn => ?_⟩
      by_cases e : n = T
      · have : lkS u v L A B J (pS O n) = false := by rw [e]; exact decide_eq_false hm
        rw [this]; simp
      · have : (decide (T ≤ n) && decide (n < T + 2 ^ 0)) = false := by
          by_cases h9 : T ≤ n
          · have : ¬ n < T + 2 ^ 0 := by simp; omega
            simp [this]
          · simp [h9]
        rw [this]; simp
  | succ l ih =>
    intro T d p uL hd hl hT hT2 hp h3
    obtain ⟨d', rfl⟩ : ∃ d', d = d' + 1 := ⟨d - 1, by omega⟩
    have hpw : 2 ^ (l + 1) = 2 * 2 ^ l := by rw [Nat.pow_succ]; omega
    obtain ⟨q, hq⟩ : ∃ q, T = 2 ^ (l + 1) * q := by
      obtain ⟨q, hq⟩ := Nat.dvd_of_mod_eq_zero hT
      exact ⟨q, hq⟩
    unfold f_X4_mark
    rw [meet_ok hN hp (la_lt8 _ _ _), Option.bind_some]
    by_cases hm : la u v (qU (bL J L) (pS O T)) A = la u v (qU (bL J L) (pS O T)) B
    · rw [if_pos (decide_eq_true hm)]
      obtain ⟨uL', a1, a2, a3⟩ := markAll_ok (uL := uL) hf (l := l + 1) (T := T) (by omega) hT (by omega)
      rw [a1]
      refine ⟨uL', rfl, a2, fun n hn => ?_⟩
      rw [a3 n hn]
      by_cases hr : T ≤ n ∧ n < T + 2 ^ (l + 1)
      · have : lkS u v L A B J (pS O n) = true := by
          refine lkS_mono (S := pS O T) (fun z hz => ?_) (decide_eq_true hm)
          unfold pS at *
          simp at hz ⊢
          refine ⟨hz.1, ?_⟩
          have hz2 := hz.2
          have e1 := Nat.testBit_two_pow_mul_add q (b := 0) (i := l + 1) (Nat.two_pow_pos _) (fb_ct (bt O) z)
          have e2 := Nat.testBit_two_pow_mul_add q (b := n - T) (i := l + 1) (by omega) (fb_ct (bt O) z)
          rw [Nat.add_zero, ← hq, hz2] at e1
          rw [← hq, show T + (n - T) = n by omega] at e2
          rw [e2]
          by_cases h9 : fb_ct (bt O) z < l + 1
          · rw [if_pos h9] at e1; rw [Nat.zero_testBit] at e1; cases e1
          · rw [if_neg h9] at e1 ⊢; exact e1.symm
        rw [this]; simp
      · have : (decide (T ≤ n) && decide (n < T + 2 ^ (l + 1))) = false := by
          by_cases h9 : T ≤ n
          · have : ¬ n < T + 2 ^ (l + 1) := fun h => hr ⟨h9, h⟩
            simp [this]
          · simp [h9]
        rw [this]; simp
    · rw [if_neg (fun h => hm (of_decide_eq_true h))]
      have e1 : nI (l + 1) - 1 = nI l := nsub l 1
      rw [e1, if_neg (nI_ne_neg (by omega)).2.2, if_pos (show nI l < 14 from (nlt (b := 14) (by omega) (by omega)).mpr (by omega))]
      have hTl : T % 2 ^ l = 0 := by rw [hq, hpw, Nat.mul_assoc, Nat.mul_left_comm]; exact Nat.mul_mod_right _ _
      obtain ⟨uL1, a1, a2, a3⟩ := ih T d' p uL (by omega) (by omega) hTl (by omega) hp h3
      rw [a1, Option.bind_some]
      -- the line with number l
      obtain ⟨z, -, z2, z3⟩ := fb_ct_kth (p := bt O) (k := l) (n := 32) (by show l < qc (bt O); omega)
      have zL := hO z z2
      have h3z := h3 z z2
      rw [z3] at h3z
      have r3 : sp_rd (ga uL1 3) 14 (nI l) = some (nI z) := by rw [rd_ok (by omega) (by decide), a2.2 3 (by decide), h3z]
      obtain ⟨p', w1, w2⟩ := withLine_ok hN hp (la_lt8 _ _ _) zL
      have hset : sp_shl 1 (nI l) = nI (2 ^ l) := shl1_dec l (by omega)
      have hor : nI T ||| nI (2 ^ l) = nI (T + 2 ^ l) := by
        have := fa_or_sum (a := 2 ^ l) (k := l + 1) q (by omega)
        rw [← hq] at this
        exact this
      have hTb : ∀ i, (T + 2 ^ l).testBit i = (T.testBit i || decide (i = l)) := fun i => by
        have e2 := Nat.testBit_two_pow_mul_add q (b := 2 ^ l) (i := l + 1) (by omega) i
        have e3 := Nat.testBit_two_pow_mul_add q (b := 0) (i := l + 1) (Nat.two_pow_pos _) i
        rw [← hq] at e2 e3
        rw [Nat.add_zero] at e3
        rw [e2, e3]
        by_cases h9 : i < l + 1
        · rw [if_pos h9, if_pos h9, Nat.testBit_two_pow, Nat.zero_testBit]
          by_cases e : i = l
          · simp [e]
          · have : ¬ l = i := fun h => e h.symm
            simp [e, this]
        · rw [if_neg h9, if_neg h9]
          have : ¬ i = l := by omega
          simp [this]
      have hpS : pS O (T + 2 ^ l) = qI (pS O T) z := by
        funext i
        show (bt O i && (T + 2 ^ l).testBit (fb_ct (bt O) i)) = ((bt O i && T.testBit (fb_ct (bt O) i)) || decide (i = z))
        rw [hTb]
        cases ho : bt O i
        · have : ¬ i = z := fun e => by rw [e, z2] at ho; cases ho
          simp [this]
        · by_cases e : i = z
          · rw [e, z3]; simp
          · have : ¬ fb_ct (bt O) i = l := fun e2 => e (fb_ct_kth_one ho z2 (by rw [e2, z3]))
            simp [e, this]
      have hp' : pk p' (la u v (qU (bL J L) (pS O (T + 2 ^ l)))) := by
        have e2 : qU (bL J L) (pS O (T + 2 ^ l)) = qI (qU (bL J L) (pS O T)) z := by
          rw [hpS]
          funext i
          show (bL J L i || (pS O T i || decide (i = z))) = ((bL J L i || pS O T i) || decide (i = z))
          rw [Bool.or_assoc]
        rw [e2, la_ins _ _ _ (by omega)]
        exact w2
      obtain ⟨uL2, b1, b2, b3⟩ := ih (T + 2 ^ l) d' p' uL1 (by omega) (by omega) (by rw [Nat.add_mod_right]; exact hTl) (by omega) hp' (by rw [a2.2 3 (by decide)]; exact h3)
      simp only [r3, w1, Option.bind_some]
      rw [hset, hor, b1]
      refine ⟨uL2, rfl, g1s_t b2 a2, fun n hn => ?_⟩
      rw [b3 n hn, a3 n hn]
      cases hls : lkS u v L A B J (pS O n)
      · simp
      · rw [Bool.and_true, Bool.and_true, Bool.and_true, Bool.or_assoc]
        congr 1
        by_cases h9 : n < T + 2 ^ l
        · have m1 : ¬ T + 2 ^ l ≤ n := by omega
          have m2 : n < T + 2 ^ (l + 1) := by omega
          simp [h9, m1, m2]
        · have m1 : T + 2 ^ l ≤ n := by omega
          have m3 : T ≤ n := by omega
          have m4 : (n < T + 2 ^ l + 2 ^ l) = (n < T + 2 ^ (l + 1)) := by rw [hpw, Nat.two_mul, Nat.add_assoc]
          simp [h9, m1, m3, m4]
end
