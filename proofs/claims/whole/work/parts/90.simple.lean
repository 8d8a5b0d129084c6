/-! ===== feed ===== -/
def bb (v : Int32) (j : Nat) : Int32 := sp_ushr v (nI (24 - 8 * j)) &&& 255
theorem bb_b (x : Int32) : sp_i2b (sp_i2b x) &&& 255 = x &&& 255 := by
  unfold sp_i2b
  rw [bp_b, bp_b]
theorem bb_s (v : Int32) {j : Nat} (hj : j < 4) : sp_shr v (nI (24 - 8 * j)) &&& 255 = bb v j := by
  unfold bb
  refine b_ext (fun i hi => ?_)
  rw [b_and, b_and, b_255]
  by_cases h : i < 8
  · rw [h_sshr v (by omega) (by omega), h_ushr v (by omega)]
  · simp [h]
theorem feedNumber_ok {N : Nat} (hf : 20 ≤ N) {uG : sx_C} {t : Nat} (ht : gi uG 11 = nI t) (h4 : t + 4 ≤ 600) (v : Int32) : ∃ uG', f_X11_feedNumber N v uG = some uG' ∧ gi uG' 11 = nI (t + 4) ∧ (∀ k, k ≠ 11 → gi uG' k = gi uG k) ∧ (∀ i, i < t → ga uG' 0 i = ga uG 0 i) ∧ ∀ j, j < 4 → ga uG' 0 (t + j) &&& 255 = bb v j := by
  have loop : ∀ n j (w : sx_C), 4 - j < n → j ≤ 4 → gi w 11 = nI (t + j) → (∀ k, k ≠ 11 → gi w k = gi uG k) → (∀ i, i < t → ga w 0 i = ga uG 0 i) → (∀ q, q < j → ga w 0 (t + q) &&& 255 = bb v q) → ∃ uG', f_X11_feedNumber_3 N n v (if j = 4 then -8 else nI (24 - 8 * j)) w = some uG' ∧ gi uG' 11 = nI (t + 4) ∧ (∀ k, k ≠ 11 → gi uG' k = gi uG k) ∧ (∀ i, i < t → ga uG' 0 i = ga uG 0 i) ∧ ∀ q, q < 4 → ga uG' 0 (t + q) &&& 255 = bb v q := by
    intro n
    induction n with
    | zero => intro j w hn; omega
    | succ n ih =>
      intro j w hn hj h11 hg hlo hhi
      unfold f_X11_feedNumber_3
      by_cases e : j = 4
      · rw [if_pos e, if_pos (by decide)]
        rw [e] at h11 hhi
        exact ⟨w, rfl, h11, hg, hlo, hhi⟩
      · rw [if_neg e, if_neg (nI_ne_neg (by omega)).2.2, h11, if_neg (nI_ne_neg (by omega)).2.2, if_neg (fun h => by have := (nle (a := 600) (by omega) (by omega)).mp h; omega), if_pos (in_ok (by omega) (by decide)), nI_clamp (by omega)]
        unfold f_X11_feedNumber_49
        have q11 : gi (sa w 0 (t + j) (sp_i2b (sp_i2b (sp_ushr v (nI (24 - 8 * j)))))) 11 = nI (t + j) := h11
        rw [q11, show nI (t + j) + 1 = nI (t + (j + 1)) from nadd (t + j) 1]
        have es : nI (24 - 8 * j) + (-8) = if j + 1 = 4 then -8 else nI (24 - 8 * (j + 1)) := by
          have : ∀ j, j < 4 → nI (24 - 8 * j) + (-8) = if j + 1 = 4 then -8 else nI (24 - 8 * (j + 1)) := by decide +kernel
          exact this j (by omega)
        rw [es]
        refine ih (j + 1) _ (by omega) (by omega) rfl (fun k hk => ?_) (fun i hi => ?_) (fun q hq => ?_)
        · rw [gi_si, if_neg hk]; exact hg k hk
        · rw [ga_si, ga_up, if_neg (by omega)]; exact hlo i hi
        · rw [ga_si, ga_up]
          by_cases e2 : q = j
          · rw [if_pos (by omega), bb_b, e2]; rfl
          · rw [if_neg (by omega)]; exact hhi q (by omega)
  unfold f_X11_feedNumber
  exact loop N 0 uG (by omega) (by omega) ht (fun _ _ => rfl) (fun _ _ => rfl) (fun q hq => by omega)
theorem mfeed_ok {N : Nat} (hf : 300 ≤ N) {xA : sx_C} {t : Nat} (ht : gi xA 2 = nI t) (h20 : t + 20 ≤ 600) (v1 v2 v3 v4 v5 : Int32) (xB : sx_C) (vs : Nat → Int32) (h0 : vs 0 = v1) (h1 : vs 1 = v2) (h2 : vs 2 = v3) (h3 : vs 3 = v4) (h4 : vs 4 = v5) : ∃ xA', f_X12_feed_20 N N v1 v2 v3 v4 v5 0 xA xB = some (nI (t + 20), xA', xB) ∧ gi xA' 2 = nI (t + 20) ∧ (∀ k, k ≠ 2 → gi xA' k = gi xA k) ∧ (∀ k, k ≠ 1 → ga xA' k = ga xA k) ∧ (∀ i, i < t → ga xA' 1 i = ga xA 1 i) ∧ ∀ i, i < 20 → ga xA' 1 (t + i) = bb (vs (i / 4)) (i % 4) := by
  have loop : ∀ n k (w : sx_C), 20 - k < n → k ≤ 20 → (∀ k, gi w k = gi xA k) → (∀ k, k ≠ 1 → ga w k = ga xA k) → (∀ i, i < t → ga w 1 i = ga xA 1 i) → (∀ i, i < k → ga w 1 (t + i) = bb (vs (i / 4)) (i % 4)) → ∃ xA', f_X12_feed_20 N n v1 v2 v3 v4 v5 (nI k) w xB = some (nI (t + 20), xA', xB) ∧ gi xA' 2 = nI (t + 20) ∧ (∀ k, k ≠ 2 → gi xA' k = gi xA k) ∧ (∀ k, k ≠ 1 → ga xA' k = ga xA k) ∧ (∀ i, i < t → ga xA' 1 i = ga xA 1 i) ∧ ∀ i, i < 20 → ga xA' 1 (t + i) = bb (vs (i / 4)) (i % 4) := by
    intro n
    induction n with
    | zero => intro k w hn; omega
    | succ n ih =>
      intro k w hn hk hg ha hlo hhi
      have g2 : gi w 2 = nI t := by rw [hg]; exact ht
      have cmp : ∀ c, c < 100 → (nI c ≤ nI k ↔ c ≤ k) := fun c hc => nle (by omega) (by omega)
      have go : ∀ s0, s0 = vs (k / 4) → k < 20 → ∃ xA', f_X12_feed_73 N (f_X12_feed_20 N n) v1 v2 v3 v4 v5 (nI k) s0 w xB = some (nI (t + 20), xA', xB) ∧ gi xA' 2 = nI (t + 20) ∧ (∀ k, k ≠ 2 → gi xA' k = gi xA k) ∧ (∀ k, k ≠ 1 → ga xA' k = ga xA k) ∧ (∀ i, i < t → ga xA' 1 i = ga xA 1 i) ∧ ∀ i, i < 20 → ga xA' 1 (t + i) = bb (vs (i / 4)) (i % 4) := by
        intro s0 hs hk20
        unfold f_X12_feed_73
        have es : 24 - 8 * sp_rem (nI k) 4 = nI (24 - 8 * (k % 4)) := by
          have : ∀ k, k < 20 → 24 - 8 * sp_rem (nI k) 4 = nI (24 - 8 * (k % 4)) := by decide +kernel
          exact this k hk20
        rw [g2, nadd, if_pos (in_ok (by omega) (by decide)), nI_clamp (by omega), es, bb_s s0 (by omega), show nI k + 1 = nI (k + 1) from nadd k 1]
        refine ih (k + 1) _ (by omega) (by omega) (fun k => hg k) (fun q hq => by rw [ga_sa, if_neg hq]; exact ha q hq) (fun i hi => ?_) (fun i hi => ?_)
        · rw [ga_up, if_neg (by omega)]; exact hlo i hi
        · rw [ga_up]
          by_cases e : i = k
          · rw [if_pos (by omega), e, hs]
          · rw [if_neg (by omega)]; exact hhi i (by omega)
      unfold f_X12_feed_20
      have c20 : (20 : Int32) ≤ nI k ↔ 20 ≤ k := cmp 20 (by omega)
      have c4 : (4 : Int32) ≤ nI k ↔ 4 ≤ k := cmp 4 (by omega)
      have c8 : (8 : Int32) ≤ nI k ↔ 8 ≤ k := cmp 8 (by omega)
      have c12 : (12 : Int32) ≤ nI k ↔ 12 ≤ k := cmp 12 (by omega)
      have c16 : (16 : Int32) ≤ nI k ↔ 16 ≤ k := cmp 16 (by omega)
      by_cases e20 : 20 ≤ k
      · rw [if_pos (c20.mpr e20)]
        have hk20 : k = 20 := by omega
        subst hk20
        have w2 : gi w 2 + 20 = nI (t + 20) := by rw [g2]; exact nadd t 20
        rw [w2]
        exact ⟨_, rfl, rfl, fun k hk2 => (by rw [gi_si, if_neg hk2]; exact hg k), ha, hlo, hhi⟩
      · rw [if_neg (fun h => e20 (c20.mp h))]
        by_cases e4 : 4 ≤ k
        · rw [if_pos (c4.mpr e4)]
          by_cases e8 : 8 ≤ k
          · rw [if_pos (c8.mpr e8)]
            by_cases e12 : 12 ≤ k
            · rw [if_pos (c12.mpr e12)]
              by_cases e16 : 16 ≤ k
              · rw [if_pos (c16.mpr e16)]
                exact go v5 (by rw [show k / 4 = 4 by omega, h4]) (by omega)
              · rw [if_neg (fun h => e16 (c16.mp h))]
                exact go v4 (by rw [show k / 4 = 3 by omega, h3]) (by omega)
            · rw [if_neg (fun h => e12 (c12.mp h))]
              exact go v3 (by rw [show k / 4 = 2 by omega, h2]) (by omega)
          · rw [if_neg (fun h => e8 (c8.mp h))]
            exact go v2 (by rw [show k / 4 = 1 by omega, h1]) (by omega)
        · rw [if_neg (fun h => e4 (c4.mp h))]
          exact go v1 (by rw [show k / 4 = 0 by omega, h0]) (by omega)
  exact loop N 0 xA (by omega) (by omega) (fun _ => rfl) (fun _ _ => rfl) (fun _ _ => rfl) (fun i hi => by omega)
section
variable {N : Nat} {LK : sLK}
theorem lo_feed (hf : 300 ≤ N) : LO_feed N (sI LK) := by
  rintro uG uN uD uR uF uP uL uT uA uM uH xA xB xC xD xE xF xG xH xI xJ xK xL v1 v2 v3 v4 v5 ⟨K, L, A, B, u, v, hC, hH, ⟨t, t1, t2, t3, t4⟩, hX, hLK⟩
  unfold f_X11_feed f_X12_feed
  rw [t2, t3]
  have e20 : nI t + 20 = nI (t + 20) := nadd t 20
  rw [e20]
  by_cases h : t + 20 ≤ 600
  · rw [if_pos (show nI (t + 20) ≤ 600 from (nle (b := 600) (by omega) (by omega)).mpr h), if_pos (show nI t ≤ 580 from (nle (b := 580) (by omega) (by omega)).mpr (by omega))]
    obtain ⟨g1, a1, a2, a3, a4, a5⟩ := feedNumber_ok (by omega : 20 ≤ N) t2 (by omega) v1
    obtain ⟨g2, b1, b2, b3, b4, b5⟩ := feedNumber_ok (by omega : 20 ≤ N) a2 (by omega) v2
    obtain ⟨g3, c1, c2, c3, c4, c5⟩ := feedNumber_ok (by omega : 20 ≤ N) b2 (by omega) v3
    obtain ⟨g4, d1, d2, d3, d4, d5⟩ := feedNumber_ok (by omega : 20 ≤ N) c2 (by omega) v4
    obtain ⟨g5, e1, e2, e3, e4, e5⟩ := feedNumber_ok (by omega : 20 ≤ N) d2 (by omega) v5
    obtain ⟨vs, hvs⟩ : ∃ vs : Nat → Int32, vs = fun q => if q = 0 then v1 else if q = 1 then v2 else if q = 2 then v3 else if q = 3 then v4 else v5 := ⟨_, rfl⟩
    obtain ⟨xA', m1, m2, m3, m4, m5, m6⟩ := mfeed_ok hf t3 h v1 v2 v3 v4 v5 (si xB 0 0) vs (by rw [hvs]; rfl) (by rw [hvs]; rfl) (by rw [hvs]; rfl) (by rw [hvs]; rfl) (by rw [hvs]; rfl)
    simp only [a1, b1, c1, d1, e1, m1, Option.bind_some]
    have hgi : ∀ k, k ≠ 11 → gi g5 k = gi uG k := fun k hk => by rw [e3 k hk, d3 k hk, c3 k hk, b3 k hk, a3 k hk]
    refine ⟨_, rfl, _, rfl, e2, K, L, A, B, u, v, ?_, ?_, ⟨t + 20, h, e2, m2, fun i hi => ?_⟩, ?_, hLK⟩
    · obtain ⟨c1', c2', c3', ⟨c4', c5', c6'⟩, ⟨c7, c8, c9⟩, c10, c11, c12⟩ := hC
      refine ⟨c1', ?_, c3', ⟨?_, ?_, ?_⟩, ⟨c7, c8, ?_⟩, ?_, ?_, ?_⟩
      · obtain ⟨n1, n2, n3, n4, n5, n6, n7, n8⟩ := c2'
        exact ⟨by rw [m3 3 (by decide)]; exact n1, by rw [m3 9 (by decide)]; exact n2, by rw [m3 10 (by decide)]; exact n3, by rw [m3 4 (by decide)]; exact n4, by rw [m4 5 (by decide), m4 6 (by decide)]; exact n5, n6, n7, n8⟩
      · rw [m3 7 (by decide), hgi 12 (by decide)]; exact c4'
      · rw [m3 8 (by decide), hgi 13 (by decide)]; exact c5'
      · rw [m3 11 (by decide), hgi 14 (by decide)]; exact c6'
      · rw [hgi 14 (by decide)]; exact c9
      · rw [hgi 12 (by decide)]; exact c10
      · rw [hgi 13 (by decide)]; exact c11
      · rw [hgi 12 (by decide), hgi 13 (by decide)]; exact c12
    · obtain ⟨s, e, q1, q2, q3, q4, q5, q6⟩ := hH
      exact ⟨s, e, q1, q2, q3, by rw [m3 14 (by decide)]; exact q4, q5, by rw [m4 13 (by decide)]; exact q6⟩
    · by_cases hi0 : i < t
      · rw [m5 i hi0, e4 i (by omega), d4 i (by omega), c4 i (by omega), b4 i (by omega), a4 i hi0]; exact t4 i hi0
      · have h9 := m6 (i - t) (by omega)
        rw [show t + (i - t) = i by omega] at h9
        rw [h9, hvs]
        dsimp only
        by_cases q0 : i < t + 4
        · rw [e4 i (by omega), d4 i (by omega), c4 i (by omega), b4 i (by omega), if_pos (by omega)]
          have := a5 (i - t) (by omega)
          rw [show t + (i - t) = i by omega] at this
          rw [this, show (i - t) % 4 = i - t by omega]
        · by_cases q1 : i < t + 8
          · rw [e4 i (by omega), d4 i (by omega), c4 i (by omega), if_neg (by omega), if_pos (by omega)]
            have := b5 (i - (t + 4)) (by omega)
            rw [show t + 4 + (i - (t + 4)) = i by omega] at this
            rw [this, show (i - t) % 4 = i - (t + 4) by omega]
          · by_cases q2 : i < t + 12
            · rw [e4 i (by omega), d4 i (by omega), if_neg (by omega), if_neg (by omega), if_pos (by omega)]
              have := c5 (i - (t + 4 + 4)) (by omega)
              rw [show t + 4 + 4 + (i - (t + 4 + 4)) = i by omega] at this
              rw [this, show (i - t) % 4 = i - (t + 4 + 4) by omega]
            · by_cases q3 : i < t + 16
              · rw [e4 i (by omega), if_neg (by omega), if_neg (by omega), if_neg (by omega), if_pos (by omega)]
                have := d5 (i - (t + 4 + 4 + 4)) (by omega)
                rw [show t + 4 + 4 + 4 + (i - (t + 4 + 4 + 4)) = i by omega] at this
                rw [this, show (i - t) % 4 = i - (t + 4 + 4 + 4) by omega]
              · rw [if_neg (by omega), if_neg (by omega), if_neg (by omega), if_neg (by omega)]
                have := e5 (i - (t + 4 + 4 + 4 + 4)) (by omega)
                rw [show t + 4 + 4 + 4 + 4 + (i - (t + 4 + 4 + 4 + 4)) = i by omega] at this
                rw [this, show (i - t) % 4 = i - (t + 4 + 4 + 4 + 4) by omega]
    · rw [m3 34 (by decide), m3 35 (by decide), m3 12 (by decide), hgi 15 (by decide), hgi 16 (by decide)]; exact hX
  · rw [if_neg (show ¬ nI (t + 20) ≤ 600 from fun h2 => h ((nle (b := 600) (by omega) (by omega)).mp h2)), if_neg (show ¬ nI t ≤ 580 from fun h2 => h (by have := (nle (b := 580) (by omega) (by omega)).mp h2; omega))]
    exact ⟨_, rfl, _, rfl, rfl, K, L, A, B, u, v, hC, hH, ⟨t, t1, t2, t3, t4⟩, hX, hLK⟩
/-! ===== line, place, written, pass, move, undo ===== -/
theorem lo_line : LO_line N (sI LK) := by
  rintro uG uN uD uR uF uP uL uT uA uM uH xA xB xC xD xE xF xG xH xI xJ xK xL x y ⟨K, L, A, B, u, v, hC, hR⟩
  have hI : ∀ xB', sI LK uG uN uD uR uF uP uL uT uA uM uH xA xB' xC xD xE xF xG xH xI xJ xK xL := fun _ => ⟨K, L, A, B, u, v, hC, hR⟩
  obtain ⟨hN, hM, hF, ⟨e7, e8, e11⟩, -, hJ, hG, hdis⟩ := hC
  have hL : L ≤ 14 := (cN_8 hN).2.2.2
  unfold f_X11_line f_X12_line
  rcases line_cases hN hM x with ⟨a, b⟩ | ⟨i, i1, rfl, i3, i4⟩
  · simp only [a, b, Option.bind_some, Bool.false_eq_true, ↓reduceIte]
    exact ⟨_, rfl, _, rfl, rfl, fun h => (by cases h), hI _⟩
  · simp only [i3, i4, Option.bind_some, ↓reduceIte]
    have hn := hN.2.2.2.2.1 i i1
    have hm := hM.2.2.2.2.1 i i1
    by_cases h0 : y = 0
    · rw [if_pos h0, if_pos h0, rd_ok (by omega) (by decide), rd_ok (by omega) (by decide), hn.1, hm.1]
      exact ⟨_, rfl, _, rfl, rfl, fun _ => rfl, hI _⟩
    · rw [if_neg h0, if_neg h0]
      by_cases h1 : y = 1
      · rw [if_pos h1, if_pos h1, rd_ok (by omega) (by decide), rd_ok (by omega) (by decide), hn.2, hm.2]
        exact ⟨_, rfl, _, rfl, rfl, fun _ => rfl, hI _⟩
      · rw [if_neg h1, if_neg h1]
        by_cases h2 : y = 2
        · rw [if_pos h2, if_pos h2, e7, e8]
          have st : f_X11_stateOf uG uN (nI i) = some (if bt (gi uG 12) i = true then 1 else if bt (gi uG 13) i = true then 2 else 0) := by
            unfold f_X11_stateOf
            simp only [cisOpen_ok hN (by omega : i < 32), has_ok _ (by omega : i < 32), Option.bind_some]
            rw [opn_bit (by omega) _ _ (by omega : i < 32), decide_eq_true i1]
            cases hj : bt (gi uG 12) i <;> cases hg : bt (gi uG 13) i <;> rfl
          rw [st, Option.bind_some]
          cases hj : bt (gi uG 12) i
          · have n1 : ¬ (sp_shr (gi uG 12) (nI i)) &&& 1 = 1 := fun h => by rw [(shr_ok _ (by omega)).1, hj] at h; cases h
            rw [if_neg n1]
            cases hg : bt (gi uG 13) i
            · have n2 : ¬ (sp_shr (gi uG 13) (nI i)) &&& 1 = 1 := fun h => by rw [(shr_ok _ (by omega)).1, hg] at h; cases h
              rw [if_neg n2]
              exact ⟨_, rfl, _, rfl, rfl, fun _ => rfl, hI _⟩
            · rw [if_pos ((shr_ok (gi uG 13) (by omega : i < 32)).1.mpr hg)]
              exact ⟨_, rfl, _, rfl, rfl, fun _ => rfl, hI _⟩
          · rw [if_pos ((shr_ok (gi uG 12) (by omega : i < 32)).1.mpr hj)]
            exact ⟨_, rfl, _, rfl, rfl, fun _ => rfl, hI _⟩
        · rw [if_neg h2, if_neg h2]
          exact ⟨_, rfl, _, rfl, rfl, fun h => (by cases h), hI _⟩
theorem lo_place (hf : 300 ≤ N) : LO_place N (sI LK) := by
  rintro uG uN uD uR uF uP uL uT uA uM uH xA xB xC xD xE xF xG xH xI xJ xK xL x ⟨K, L, A, B, u, v, hC, hR⟩
  obtain ⟨hN, hM, hF, ⟨e7, e8, e11⟩, -⟩ := id hC
  unfold f_X11_place f_X12_place
  rcases knot_cases hN hM x with ⟨a, b⟩ | ⟨i, i1, rfl, i3, i4⟩
  · simp only [a, b, Option.bind_some, Bool.false_eq_true, ↓reduceIte]
    exact ⟨_, rfl, _, rfl, rfl, K, L, A, B, u, v, hC, hR⟩
  · have hK : K ≤ 8 := hN.2.2.2.2.2.1.2.1
    obtain ⟨p, p1, p2⟩ := placesBy_ok hN (by omega : 20 ≤ N) (gi uG 12)
    obtain ⟨xD', q1, q2⟩ := laysParts_ok hM (by omega : 20 ≤ N) (gi uG 12) xD
    have n1 := num_ok p2 (k := i) (by omega) (la_lt8 _ _ _ i (by omega))
    have r1 : sp_rd (ga xD' 36) 8 (nI i) = some (nI (la u v (bL (gi uG 12) L) i)) := by rw [rd_ok (by omega) (by decide), q2 i i1]
    rw [e7]
    simp only [i3, i4, p1, n1, q1, r1, Option.bind_some, ↓reduceIte]
    exact ⟨_, rfl, _, rfl, rfl, K, L, A, B, u, v, hC, hR⟩
theorem lo_written : LO_written N (sI LK) := by
  rintro uG uN uD uR uF uP uL uT uA uM uH xA xB xC xD xE xF xG xH xI xJ xK xL x ⟨K, L, A, B, u, v, hC, hR⟩
  have hI : ∀ xB', sI LK uG uN uD uR uF uP uL uT uA uM uH xA xB' xC xD xE xF xG xH xI xJ xK xL := fun _ => ⟨K, L, A, B, u, v, hC, hR⟩
  obtain ⟨s, e, a1, a2, a3, a4, a5, a6⟩ := hR.1
  have hL : L ≤ 14 := (cN_8 hC.1).2.2.2
  unfold f_X11_written f_X12_written
  by_cases h0 : 0 ≤ x
  · rw [if_pos h0, if_pos h0, a3, a4]
    obtain ⟨k, k1, rfl⟩ := n_pos h0
    by_cases h1 : k < s
    · rw [if_pos ((nlt k1 (by omega)).mpr h1), if_pos ((nlt k1 (by omega)).mpr h1)]
      unfold f_X2_entry
      rw [if_neg (nI_ne_neg k1).2.2, a3, if_neg (fun h => by have := (nle (by omega) k1).mp h; omega), slot_ok a5 (by omega), Option.bind_some, rd_ok (by omega) (by decide), rd_ok (by omega) (by decide)]
      simp only [Option.bind_some]
      rcases a6 k h1 with ⟨i, i1, i2, i3⟩ | ⟨i2, i3⟩
      · rw [i2, i3, if_neg (nI_ne_neg (by omega)).1, if_neg (nI_ne_neg (by omega)).2.1]
        exact ⟨_, rfl, _, rfl, rfl, hI _⟩
      · rw [i2, i3, if_pos rfl, if_pos rfl]
        exact ⟨_, rfl, _, rfl, rfl, hI _⟩
    · rw [if_neg (fun h => h1 ((nlt k1 (by omega)).mp h)), if_neg (fun h => h1 ((nlt k1 (by omega)).mp h))]
      exact ⟨_, rfl, _, rfl, rfl, hI _⟩
  · rw [if_neg h0, if_neg h0]; exact ⟨_, rfl, _, rfl, rfl, hI _⟩
end
