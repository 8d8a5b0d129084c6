/-! ===== the lowest bit; played ===== -/
theorem ntz_low {x : Int32} {i : Nat} (hi : i < 31) (h1 : bt x i = true) (h0 : ∀ z, z < i → bt x z = false) : (x ^^^ (-1)) &&& (x - 1) = nI (2 ^ i - 1) := by
  obtain ⟨n, n1, rfl⟩ := wb_of32 x
  have hb : ∀ z, z < 32 → bt (nI n) z = n.testBit z := fun z hz => h_nI z hz
  have hmod : n % 2 ^ i = 0 := by
    apply Nat.eq_of_testBit_eq
    intro z
    rw [Nat.testBit_mod_two_pow, Nat.zero_testBit]
    by_cases hz : z < i
    · rw [← hb z (by omega), h0 z hz]; simp
    · simp [hz]
  have hodd : (n / 2 ^ i) % 2 = 1 := by
    have := h1
    rw [hb i (by omega), Nat.testBit_eq_decide_div_mod_eq] at this
    exact of_decide_eq_true this
  have hp : 0 < 2 ^ i := Nat.two_pow_pos i
  obtain ⟨q, hq⟩ : ∃ q, n / 2 ^ i = 2 * q + 1 := ⟨n / 2 ^ i / 2, by omega⟩
  have hn : n = 2 ^ i * (2 * q + 1) := by
    have := Nat.div_add_mod n (2 ^ i)
    rw [hmod, hq] at this
    omega
  have hn1 : n - 1 = 2 ^ i * (2 * q) + (2 ^ i - 1) := by
    rw [hn, Nat.mul_add, Nat.mul_one]
    omega
  have hpos : 1 ≤ n := by
    rw [hn, Nat.mul_add, Nat.mul_one]; omega
  have e : nI n - 1 = nI (n - 1) := by
    have := nsub (n - 1) 1
    rw [show n - 1 + 1 = n by omega] at this
    exact this
  rw [e]
  refine b_ext (fun z hz => ?_)
  rw [b_and, h_not _ hz, h_nI z hz, h_nI z hz, h_nI z hz, hn1, Nat.testBit_two_pow_mul_add _ (by omega), Nat.testBit_two_pow_sub_one]
  by_cases hzi : z < i
  · rw [if_pos hzi, ← hb z hz, h0 z hzi]
    simp [hzi]
  · rw [if_neg hzi]
    have hz2 : n.testBit z = (2 * q + 1).testBit (z - i) := by
      have := Nat.testBit_two_pow_mul_add (2 * q + 1) (b := 0) (i := i) hp z
      rw [Nat.add_zero, ← hn, if_neg hzi] at this
      exact this
    rw [hz2]
    cases hd : z - i with
    | zero =>
      rw [Nat.testBit_zero, Nat.testBit_zero]
      have : decide ((2 * q + 1) % 2 = 1) = true := by simp
      rw [this]; simp [hzi]
    | succ d =>
      rw [Nat.testBit_succ, Nat.testBit_succ, show (2 * q + 1) / 2 = 2 * q / 2 by omega]
      cases (2 * q / 2).testBit d <;> simp [hzi]
theorem ntz_ok {x : Int32} {i : Nat} (hi : i < 17) (h1 : bt x i = true) (h0 : ∀ z, z < i → bt x z = false) : f_J6_numberOfTrailingZeros_0f7a4 x = some (nI i) := by
  unfold f_J6_numberOfTrailingZeros_0f7a4
  simp only [ntz_low (by omega : i < 31) h1 h0]
  clear h1 h0 x
  revert i
  decide +kernel
section
variable {N : Nat} {uG uN uF xA : sx_C} {K L A B : Nat} {u v : Nat → Nat}
/-- nobody has it: a line is open -/
theorem hld_open (hL : L ≤ 14) {J G : Int32} (hJ : ∀ z, bt J z = true → z < L) (h : hld u v L A B J G = 2) : ∃ i, i < L ∧ bt (opn L J G) i = true := by
  refine Classical.byContradiction (fun hn => ?_)
  unfold hld at h
  by_cases h1 : la u v (bL J L) A = la u v (bL J L) B
  · rw [if_pos h1] at h; cases h
  · rw [if_neg h1] at h
    by_cases h2 : la u v (bL (alL L &&& (G ^^^ (-1))) L) A = la u v (bL (alL L &&& (G ^^^ (-1))) L) B
    · refine h1 (la_mono (fun i hi hb => ?_) h2)
      have hiL := bL_lt hb
      have hb : (bt (alL L &&& (G ^^^ (-1))) i && decide (i < L)) = true := hb
      rw [b_and, h_not _ hi, alL_bit (by omega) hi] at hb
      show (bt J i && decide (i < L)) = true
      cases hj : bt J i
      · exfalso
        refine hn ⟨i, hiL, ?_⟩
        rw [opn_bit (by omega) _ _ hi, hj]
        cases hg : bt G i
        · simp [hiL]
        · rw [hg] at hb; simp at hb
      · simp [hiL]
    · rw [if_neg h2] at h; cases h
/-- the move that PLAYED ON takes -/
def isMv (u v : Nat → Nat) (L A B : Nat) (J G : Int32) (who i : Nat) : Prop := (wnW u v L A B J G who i = true ∧ fb_ct (wnW u v L A B J G who) i = 0) ∨ (fb_ct (wnW u v L A B J G who) 14 = 0 ∧ bt (opn L J G) i = true ∧ fb_ct (bt (opn L J G)) i = 0)
theorem mv_one {J G : Int32} {who i j : Nat} (hL : L ≤ 14) (h : isMv u v L A B J G who i) (h' : isMv u v L A B J G who j) : i = j := by
  have hW14 : ∀ z, wnW u v L A B J G who z = true → z < 14 := fun z hz => by have := opn_lt (by omega : L < 31) (wnW_t.mp hz).1; omega
  rcases h with ⟨a1, a2⟩ | ⟨a1, a2, a3⟩ <;> rcases h' with ⟨b1, b2⟩ | ⟨b1, b2, b3⟩
  · exact fb_ct_kth_one a1 b1 (by rw [a2, b2])
  · have := fb_ct_zero.mp b1 i (hW14 i a1)
    rw [a1] at this; cases this
  · have := fb_ct_zero.mp a1 j (hW14 j b1)
    rw [b1] at this; cases this
  · exact fb_ct_kth_one a2 b2 (by rw [a3, b3])
theorem ct_join {J G : Int32} (hL : L ≤ 14) {i : Nat} (hi : bt (opn L J G) i = true) : qc (bt (opn L (J ||| sp_shl 1 (nI i)) G)) + 1 = qc (bt (opn L J G)) ∧ qc (bt (opn L J (G ||| sp_shl 1 (nI i)))) + 1 = qc (bt (opn L J G)) := by
  have iL := opn_lt (by omega : L < 31) hi
  rw [opn_join (by omega) J G iL, opn_cut (by omega) J G iL]
  exact ⟨qc_era (by omega) hi, qc_era (by omega) hi⟩
theorem played_sim (hf : 300 ≤ N) (hN : cNet uN K L A B u v) (hM : mNet xA K L A B u v) : ∀ c (J G : Int32) (who m : Nat), who < 2 → (∀ z, bt J z = true → z < L) → qc (bt (opn L J G)) = c → m + c ≤ 14 → ∃ (len : Nat) (l : Nat → Nat), len ≤ c ∧ (∀ t, l t < 14) ∧
    (∀ n xD xE xF xG xI, c < n → gi xI 47 = nI m → ∃ xD' xE' xF' xG' xI', f_X12_plays_20 N xA n J G (nI who) xD xE xF xG xI = some (xD', xE', xF', xG', xI') ∧ gi xI' 47 = nI (m + len) ∧ (∀ t, t < m → ga xI' 46 t = ga xI 46 t) ∧ ∀ t, t < len → ga xI' 46 (m + t) = nI (l t)) ∧
    (∀ n uF (wh : Int32), c < n → (∃ u' v', fNet uF u' v') → (wh = -1 ∨ ∃ w, m ≤ w ∧ w < 2147483648 ∧ wh = nI w) → ∃ r uF', f_X1_playOn_12 N uN n wh J G (nI who) (nI m) uF = some (r, uF') ∧ (∃ u' v', fNet uF' u' v') ∧ (wh = -1 → r = nI (m + len)) ∧ ∀ w, m ≤ w → w < 2147483648 → wh = nI w → (w < m + len → r = nI (l (w - m))) ∧ (m + len ≤ w → r = -2)) := by
  have hL : L ≤ 14 := (cN_8 hN).2.2.2
  have h20 : 20 ≤ N := by omega
  intro c
  induction c with
  | zero =>
    intro J G who m hw hJ hc hm
    have hh : hld u v L A B J G ≠ 2 := fun h => by
      obtain ⟨i, i1, i2⟩ := hld_open hL hJ h
      have := fb_ct_zero.mp hc i (by omega)
      rw [i2] at this; cases this
    refine ⟨0, fun _ => 0, by omega, fun _ => Nat.lt_of_lt_of_le (Nat.zero_lt_succ 0) (by decide), fun n xD xE xF xG xI hn hI => ?_, fun n uF wh hn hF hwh => ?_⟩
    · obtain ⟨n', rfl⟩ : ∃ n', n = n' + 1 := ⟨n - 1, by omega⟩
      unfold f_X12_plays_20
      obtain ⟨xD1, g1⟩ := mhas_ok hM h20 J G xD
      simp only [g1, Option.bind_some]
      rw [if_neg hh]
      exact ⟨_, _, _, _, _, rfl, hI, fun _ _ => rfl, fun t ht => by omega⟩
    · obtain ⟨n', rfl⟩ : ∃ n', n = n' + 1 := ⟨n - 1, by omega⟩
      unfold f_X1_playOn_12
      rw [if_neg (fun h => by have := (nlt (a := 14) (by omega) (by omega)).mp h; omega)]
      simp only [holder_ok hN h20, Option.bind_some]
      rw [if_neg hh]
      rcases hwh with rfl | ⟨w, w1, w2, rfl⟩
      · rw [if_pos rfl]
        exact ⟨_, _, rfl, hF, fun _ => rfl, fun w a1 a2 a3 => absurd a3.symm (nI_ne_neg a2).1⟩
      · rw [if_neg (nI_ne_neg w2).1]
        exact ⟨_, _, rfl, hF, fun h => absurd h (nI_ne_neg w2).1, fun w' a1 a2 a3 => ⟨fun h => by omega, fun _ => rfl⟩⟩
  | succ c ih =>
    intro J G who m hw hJ hc hm
    by_cases hh : hld u v L A B J G = 2
    · -- the move
      have hOz : ∀ z, bt (opn L J G) z = true → z < 14 := fun z hz => by have := opn_lt (by omega : L < 31) hz; omega
      obtain ⟨i0, i01, i02⟩ := hld_open hL hJ hh
      obtain ⟨fo, fo1, fo2, fo3⟩ : ∃ fo, fo < 14 ∧ bt (opn L J G) fo = true ∧ fb_ct (bt (opn L J G)) fo = 0 := fb_ct_kth (k := 0) (n := 14) (fb_ct_pos.mpr ⟨i0, by omega, i02⟩)
      have hfo0 : ∀ z, z < fo → bt (opn L J G) z = false := fun z hz => fb_ct_zero.mp fo3 z hz
      obtain ⟨i, hi⟩ : ∃ i, isMv u v L A B J G who i := by
        by_cases h0 : fb_ct (wnW u v L A B J G who) 14 = 0
        · exact ⟨fo, Or.inr ⟨h0, fo2, fo3⟩⟩
        · obtain ⟨i, i1, i2, i3⟩ := fb_ct_kth (k := 0) (n := 14) (p := wnW u v L A B J G who) (by omega)
          exact ⟨i, Or.inl ⟨i2, i3⟩⟩
      have hio : bt (opn L J G) i = true := by
        rcases hi with ⟨a, -⟩ | ⟨-, a, -⟩
        · exact (wnW_t.mp a).1
        · exact a
      have hi14 := hOz i hio
      have hiL := opn_lt (by omega : L < 31) hio
      have hct := ct_join hL hio
      have h01 : who = 0 ∨ who = 1 := by omega
      obtain ⟨J', hJ'⟩ : ∃ J', J' = if who = 0 then J ||| sp_shl 1 (nI i) else J := ⟨_, rfl⟩
      obtain ⟨G', hG'⟩ : ∃ G', G' = if who = 0 then G else G ||| sp_shl 1 (nI i) := ⟨_, rfl⟩
      have hJL : ∀ z, bt J' z = true → z < L := fun z hz => by
        rw [hJ'] at hz
        by_cases h0 : who = 0
        · rw [if_pos h0, b_or, bit_all (by omega)] at hz
          by_cases e : z = i
          · omega
          · exact hJ z (by simpa [e] using hz)
        · rw [if_neg h0] at hz; exact hJ z hz
      have hcc : qc (bt (opn L J' G')) = c := by
        rw [hJ', hG']
        rcases h01 with h0 | h0
        · rw [if_pos h0, if_pos h0]; omega
        · rw [if_neg (by omega), if_neg (by omega)]; omega
      have e1w : 1 - nI who = nI (1 - who) := by
        rcases h01 with h0 | h0 <;> rw [h0] <;> rfl
      obtain ⟨len, l, b1, b2, b3, b4⟩ := ih J' G' (1 - who) (m + 1) (by omega) hJL hcc (by omega)
      refine ⟨len + 1, fun t => if t = 0 then i else l (t - 1), by omega, fun t => ?_, fun n xD xE xF xG xI hn hI => ?_, fun n uF wh hn hF hwh => ?_⟩
      · dsimp only; split
        · exact hi14
        · exact b2 _
      · obtain ⟨n', rfl⟩ : ∃ n', n = n' + 1 := ⟨n - 1, by omega⟩
        -- the move made
        have go : ∀ xD xE xF xG, ∃ xD' xE' xF' xG' xI', f_X12_plays_57 N (f_X12_plays_20 N xA n') xA J G (nI who) (nI i) xD xE xF xG xI = some (xD', xE', xF', xG', xI') ∧ gi xI' 47 = nI (m + (len + 1)) ∧ (∀ t, t < m → ga xI' 46 t = ga xI 46 t) ∧ ∀ t, t < len + 1 → ga xI' 46 (m + t) = nI ((fun t => if t = 0 then i else l (t - 1)) t) := by
          intro xD xE xF xG
          obtain ⟨xI1, hI1⟩ : ∃ xI1, xI1 = si (sa xI 46 m (nI i)) 47 (nI (m + 1)) := ⟨_, rfl⟩
          obtain ⟨xD', xE', xF', xG', xI', d1, d2, d3, d4⟩ := b3 n' xD xE xF xG xI1 (by omega) (by rw [hI1]; rfl)
          have e : f_X12_plays_57 N (f_X12_plays_20 N xA n') xA J G (nI who) (nI i) xD xE xF xG xI = f_X12_plays_20 N xA n' J' G' (nI (1 - who)) xD xE xF xG xI1 := by
            unfold f_X12_plays_57 f_X12_plays_78
            have q47 : gi (sa xI 46 m (nI i)) 47 = nI m := hI
            rw [hI, if_pos (in_ok (by omega) (by decide)), nI_clamp (by omega), q47, e1w, show nI m + 1 = nI (m + 1) from nadd m 1, ← hI1, hJ', hG']
            rcases h01 with h0 | h0
            · rw [if_pos (by rw [h0]; rfl), if_pos h0, if_pos h0]
            · rw [if_neg (by rw [h0]; decide), if_pos (in_ok (by omega) (by decide)), if_neg (by omega), if_neg (by omega)]
          have r46 : ∀ t, ga xI1 46 t = if t = m then nI i else ga xI 46 t := fun t => by rw [hI1, ga_si, ga_up]
          refine ⟨xD', xE', xF', xG', xI', by rw [e]; exact d1, by rw [d2, show m + 1 + len = m + (len + 1) by omega], fun t ht => ?_, fun t ht => ?_⟩
          · rw [d3 t (by omega), r46, if_neg (by omega)]
          · dsimp only
            by_cases h0 : t = 0
            · rw [if_pos h0, h0, Nat.add_zero, d3 m (by omega), r46, if_pos rfl]
            · rw [if_neg h0, show m + t = m + 1 + (t - 1) by omega]
              exact d4 (t - 1) (by omega)
        unfold f_X12_plays_20
        obtain ⟨xD1, g1⟩ := mhas_ok hM h20 J G xD
        simp only [g1, Option.bind_some]
        rw [if_pos hh]
        obtain ⟨r, xD2, xE2, xF2, xG2, w1, w2⟩ := winAt_ok hf hM hL J G hw (k := 0) (by omega) xD1 xE xF xG
        have w1 : f_X12_winAt N xA (nI who) J G 0 xD1 xE xF xG = some (r, xD2, xE2, xF2, xG2) := w1
        simp only [w1, Option.bind_some]
        rcases w2 with ⟨w2, -⟩ | ⟨-, w2⟩
        · exact absurd hh w2
        · rcases w2 with ⟨j, j1, j2, j3, j4⟩ | ⟨j1, j2⟩
          · have : j = i := mv_one hL (Or.inl ⟨j2, j3⟩) hi
            rw [j4, if_neg (nI_ne_neg (by omega)).1, this]
            exact go _ _ _ _
          · have hz : fb_ct (wnW u v L A B J G who) 14 = 0 := by omega
            have : fo = i := mv_one hL (Or.inr ⟨hz, fo2, fo3⟩) hi
            rw [j2, if_pos rfl, mopen_ok hM, Option.bind_some, ntz_ok (by omega) fo2 hfo0, Option.bind_some, this]
            exact go _ _ _ _
      · obtain ⟨n', rfl⟩ : ∃ n', n = n' + 1 := ⟨n - 1, by omega⟩
        have go : ∀ uF, (∃ u' v', fNet uF u' v') → ∃ r uF', f_X1_playOn_89 N (f_X1_playOn_12 N uN n') uN wh J G (nI who) (nI m) (nI i) uF = some (r, uF') ∧ (∃ u' v', fNet uF' u' v') ∧ (wh = -1 → r = nI (m + (len + 1))) ∧ ∀ w, m ≤ w → w < 2147483648 → wh = nI w → (w < m + (len + 1) → r = nI ((fun t => if t = 0 then i else l (t - 1)) (w - m))) ∧ (m + (len + 1) ≤ w → r = -2) := by
          intro uF hF
          unfold f_X1_playOn_89
          by_cases hm' : nI m = wh
          · rw [if_pos hm']
            refine ⟨_, _, rfl, hF, fun h => ?_, fun w a1 a2 a3 => ⟨fun _ => ?_, fun h => ?_⟩⟩
            · rw [h] at hm'; exact absurd hm' (nI_ne_neg (by omega)).1
            · rw [a3] at hm'
              have : m = w := (neq (by omega) a2).mp hm'
              dsimp only
              rw [if_pos (by omega)]
            · rw [a3] at hm'
              have : m = w := (neq (by omega) a2).mp hm'
              omega
          · rw [if_neg hm', if_pos (fa_of_nlt (nI_ne_neg (by omega)).2.2)]
            have e : (if nI who = 0 then f_X1_playOn_132 N (f_X1_playOn_12 N uN n') uN wh (J ||| sp_shl 1 (nI i)) G (nI who) (nI m) uF else f_X1_playOn_132 N (f_X1_playOn_12 N uN n') uN wh J (G ||| sp_shl 1 (nI i)) (nI who) (nI m) uF) = f_X1_playOn_12 N uN n' wh J' G' (nI (1 - who)) (nI (m + 1)) uF := by
              unfold f_X1_playOn_132
              rw [e1w, show nI m + 1 = nI (m + 1) from nadd m 1, hJ', hG']
              rcases h01 with h0 | h0
              · rw [if_pos (by rw [h0]; rfl), if_pos h0, if_pos h0]
              · rw [if_neg (by rw [h0]; decide), if_neg (by omega), if_neg (by omega)]
            rw [e]
            have hwh' : wh = -1 ∨ ∃ w, m + 1 ≤ w ∧ w < 2147483648 ∧ wh = nI w := by
              rcases hwh with h | ⟨w, w1, w2, w3⟩
              · exact Or.inl h
              · refine Or.inr ⟨w, ?_, w2, w3⟩
                by_cases e2 : w = m
                · rw [e2] at w3; exact absurd w3.symm hm'
                · omega
            obtain ⟨r, uF', d1, d2, d3, d4⟩ := b4 n' uF wh (by omega) hF hwh'
            refine ⟨r, uF', d1, d2, fun h => by rw [d3 h, show m + 1 + len = m + (len + 1) by omega], fun w a1 a2 a3 => ?_⟩
            have hne : m ≠ w := fun e2 => by rw [← e2] at a3; exact hm' a3.symm
            obtain ⟨f1, f2⟩ := d4 w (by omega) a2 a3
            refine ⟨fun h => ?_, fun h => f2 (by omega)⟩
            rw [f1 (by omega)]
            dsimp only
            rw [if_neg (by omega), show w - (m + 1) = w - m - 1 by omega]
        unfold f_X1_playOn_12
        rw [if_neg (fun h => by have := (nlt (a := 14) (by omega) (by omega)).mp h; omega)]
        simp only [holder_ok hN h20, Option.bind_some]
        rw [if_pos hh]
        obtain ⟨r, uF1, w1, w2, w3⟩ := winFrom_ok h20 hN hM hF J G (p := 0) (by omega) hw
        have w1 : f_X3_winningFrom N uN 0 (nI who) J G uF = some (r, uF1) := w1
        simp only [w1, Option.bind_some]
        rcases w2 with ⟨j, j1, j2, j3, j4⟩ | ⟨j1, j2⟩
        · have : j = i := mv_one hL (Or.inl ⟨j2, j3⟩) hi
          rw [j4, if_pos (fa_of_nlt (nI_ne_neg (by omega)).2.2), this]
          exact go uF1 w3
        · rw [j2, if_neg (by decide), copen_ok hN, Option.bind_some]
          have : fo = i := mv_one hL (Or.inr ⟨j1, fo2, fo3⟩) hi
          obtain ⟨r3, t1, t2⟩ := nth_ok h20 (opn L J G) (k := 0) (by omega)
          have t1 : f_X11_nth N (opn L J G) 0 = some r3 := t1
          rw [t1, Option.bind_some]
          rcases t2 with ⟨z, z1, z2, z3, z4⟩ | ⟨z1, -⟩
          · have : z = fo := fb_ct_kth_one z2 fo2 (by rw [z3, fo3])
            rw [z4, this, ‹fo = i›]
            exact go uF1 w3
          · have := fb_ct_zero.mp (by omega : fb_ct (bt (opn L J G)) 14 = 0) fo fo1
            rw [fo2] at this; cases this
    · refine ⟨0, fun _ => 0, by omega, fun _ => Nat.lt_of_lt_of_le (Nat.zero_lt_succ 0) (by decide), fun n xD xE xF xG xI hn hI => ?_, fun n uF wh hn hF hwh => ?_⟩
      · obtain ⟨n', rfl⟩ : ∃ n', n = n' + 1 := ⟨n - 1, by omega⟩
        unfold f_X12_plays_20
        obtain ⟨xD1, g1⟩ := mhas_ok hM h20 J G xD
        simp only [g1, Option.bind_some]
        rw [if_neg hh]
        exact ⟨_, _, _, _, _, rfl, hI, fun _ _ => rfl, fun t ht => by omega⟩
      · obtain ⟨n', rfl⟩ : ∃ n', n = n' + 1 := ⟨n - 1, by omega⟩
        unfold f_X1_playOn_12
        rw [if_neg (fun h => by have := (nlt (a := 14) (by omega) (by omega)).mp h; omega)]
        simp only [holder_ok hN h20, Option.bind_some]
        rw [if_neg hh]
        rcases hwh with rfl | ⟨w, w1, w2, rfl⟩
        · rw [if_pos rfl]
          exact ⟨_, _, rfl, hF, fun _ => rfl, fun w a1 a2 a3 => absurd a3.symm (nI_ne_neg a2).1⟩
        · rw [if_neg (nI_ne_neg w2).1]
          exact ⟨_, _, rfl, hF, fun h => absurd h (nI_ne_neg w2).1, fun w' a1 a2 a3 => ⟨fun h => by omega, fun _ => rfl⟩⟩
theorem qc_opn14 (hL : L ≤ 14) (J G : Int32) : qc (bt (opn L J G)) ≤ 14 := by
  have : qc (bt (opn L J G)) = fb_ct (bt (opn L J G)) 14 := ct_gap (by omega) (fun t t1 t2 => opn_off (by omega) (by omega))
  rw [this]; exact fb_ct_le _ 14
theorem o_played (hf : 300 ≤ N) (hC : sCore K L A B u v uG uN uF xA) (x : Int32) (xB xD xE xF xG xI : sx_C) : ∃ r1, f_X11_played N uG uN x uF = some r1 ∧ ∃ r2, f_X12_played N xA x xB xD xE xF xG xI = some r2 ∧ r1.1 = r2.1 ∧ ∃ u' v', fNet r1.2 u' v' := by
  obtain ⟨hN, hM, hF, ⟨e7, e8, e11⟩, ⟨who, hw, e14⟩, hJ, hG, -⟩ := hC
  have hL : L ≤ 14 := (cN_8 hN).2.2.2
  unfold f_X11_played f_X12_played
  by_cases hx : (-1) ≤ x
  · rw [if_pos hx, if_pos hx]
    obtain ⟨len, l, b1, b2, b3, b4⟩ := played_sim hf hN hM _ (gi uG 12) (gi uG 13) who 0 hw hJ rfl (by have := qc_opn14 hL (gi uG 12) (gi uG 13); omega)
    have hq := qc_opn14 hL (gi uG 12) (gi uG 13)
    have hwh : x = -1 ∨ ∃ w, 0 ≤ w ∧ w < 2147483648 ∧ x = nI w := by
      by_cases e : x = -1
      · exact Or.inl e
      · obtain ⟨k, k1, k2⟩ := n_pos (x := x) (by
          rw [fa_le] at hx ⊢
          rw [fa_eq] at e
          rw [show (-1 : Int32).toInt = -1 by decide] at hx e
          rw [show (0 : Int32).toInt = 0 by decide]
          omega)
        exact Or.inr ⟨k, by omega, k1, k2⟩
    obtain ⟨r, uF', d1, d2, d3, d4⟩ := b4 N uF x (by omega) hF hwh
    obtain ⟨xD', xE', xF', xG', xI', c1, c2, c3, c4⟩ := b3 N xD xE xF xG (si xI 47 0) (by omega) rfl
    rw [Nat.zero_add] at c2 d3
    unfold f_X1_playOn f_X12_plays
    have d1 : f_X1_playOn_12 N uN N x (gi uG 12) (gi uG 13) (nI who) 0 uF = some (r, uF') := d1
    rw [e14, e7, e8, e11, e14]
    simp only [d1, c1, Option.bind_some]
    rw [c2]
    rcases hwh with e | ⟨w, -, w2, w3⟩
    · rw [if_pos e]
      exact ⟨_, rfl, _, rfl, d3 e, d2⟩
    · rw [w3, if_neg (nI_ne_neg w2).1]
      obtain ⟨f1, f2⟩ := d4 w (by omega) w2 w3
      by_cases h : len ≤ w
      · rw [if_pos ((nle (by omega) w2).mpr h)]
        exact ⟨_, rfl, _, rfl, f2 (by omega), d2⟩
      · rw [if_neg (fun h2 => h ((nle (by omega) w2).mp h2)), rd_ok (by omega) (by decide)]
        refine ⟨_, rfl, _, rfl, ?_, d2⟩
        have h9 := c4 w (by omega)
        rw [Nat.zero_add] at h9
        show r = ga xI' 46 w
        rw [h9, f1 (by omega)]
        rfl
  · rw [if_neg hx, if_neg hx]; exact ⟨_, rfl, _, rfl, rfl, hF⟩
end
