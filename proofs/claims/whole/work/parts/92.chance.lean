/-! ===== drawing; chance ===== -/
def drw (n : Nat) : Nat := (n * 1103515245 + 12345) % 2147483648
theorem drw_lt (n : Nat) : drw n < 2147483648 := Nat.mod_lt _ (by decide)
theorem drw_ok {n : Nat} (hn : n < 2147483648) : sp_lrem ((lN n * 1103515245) + 12345) 2147483648 = lN (drw n) := by
  have e1 : lN n * 1103515245 = lN (n * 1103515245) := lN_mul n 1103515245
  have e2 : lN (n * 1103515245) + 12345 = lN (n * 1103515245 + 12345) := lN_add _ 12345
  rw [e1, e2]
  exact pk_lRem (b := 2147483648) (by omega) (by decide) (by decide)
theorem drw_r {n c : Nat} (hn : n < 2147483648) (hc : 1 ≤ c) (hc2 : c ≤ 32) : (sp_lrem (lN n / 65536) ((nI c).toInt64)).toInt32 = nI (n / 65536 % c) := by
  have e1 : lN n / 65536 = lN (n / 65536) := pk_lDiv (b := 65536) (by omega) (by decide) (by decide)
  rw [e1, nI_l (by omega), show sp_lrem (lN (n / 65536)) (lN c) = lN (n / 65536 % c) from pk_lRem (by omega) (by omega) (by omega), lN_i]
theorem c_ne {c : Nat} (hc : 1 ≤ c) (hc2 : c ≤ 32) : ¬ (nI c).toInt64 = 0 := by
  rw [nI_l (by omega)]
  intro h
  have := (pk_lEQ (b := 0) (by omega) (by decide)).mp h
  omega
section
variable {N : Nat} {uG uN uF xA : sx_C} {K L A B : Nat} {u v : Nat → Nat}
theorem ct14 {O : Int32} (h14 : ∀ z, bt O z = true → z < 14) : fb_ct (bt O) 14 = qc (bt O) := (ct_gap (by omega) (fun t t1 t2 => by
  cases h : bt O t
  · rfl
  · have := h14 t h; omega)).symm
theorem drawLine_ok (hf : 300 ≤ N) {O : Int32} (h14 : ∀ z, bt O z = true → z < 14) (hc : 1 ≤ qc (bt O)) {uA : sx_C} {n : Nat} (hn : n < 2147483648) (hA : gl uA 4 = lN n) {i : Nat} (hi : bt O i = true) (hi2 : fb_ct (bt O) i = drw n / 65536 % qc (bt O)) : ∃ uA', f_X1_drawLine N O uA = some (nI i, uA') ∧ gl uA' 4 = lN (drw n) := by
  have hc32 := qc_le32 (bt O)
  have hd := drw_lt n
  unfold f_X1_drawLine f_X1_draw
  rw [bitCount_ok, Option.bind_some, if_pos (show (1 : Int32) ≤ nI (qc (bt O)) from (nle (a := 1) (by omega) (by omega)).mpr hc), if_pos (c_ne hc hc32), hA, drw_ok hn]
  rw [gl_sl, if_pos rfl, drw_r hd hc hc32]
  have hml := Nat.mod_lt (drw n / 65536) (show 0 < qc (bt O) by omega)
  obtain ⟨r, r1, r2⟩ := nth_ok (by omega : 20 ≤ N) O (k := drw n / 65536 % qc (bt O)) (by omega)
  simp only [r1, Option.bind_some]
  refine ⟨sl uA 4 (lN (drw n)), ?_, by rw [gl_sl, if_pos rfl]⟩
  have : r = nI i := by
    rcases r2 with ⟨j, j1, j2, j3, j4⟩ | ⟨j1, j2⟩
    · rw [j4, fb_ct_kth_one j2 hi (by rw [j3, hi2])]
    · rw [ct14 h14] at j1
      have := Nat.mod_lt (drw n / 65536) (show 0 < qc (bt O) by omega)
      omega
  rw [this]
theorem drawn_ok (hf : 300 ≤ N) (hM : mNet xA K L A B u v) (hL : L ≤ 14) {O : Int32} (hO : ∀ z, bt O z = true → z < L) (hc : 1 ≤ qc (bt O)) {xL : sx_C} {n : Nat} (hn : n < 2147483648) (hA : gl xL 52 = lN n) {i : Nat} (hi : bt O i = true) (hi2 : fb_ct (bt O) i = drw n / 65536 % qc (bt O)) : ∃ xL', f_X12_drawn N xA O xL = some (nI i, xL') ∧ gl xL' 52 = lN (drw n) := by
  obtain ⟨h1, h2, h3, h4, h5, ⟨h6, h7, h8⟩, ⟨h9, h9'⟩, h10⟩ := id hM
  have hc32 := qc_le32 (bt O)
  have hd := drw_lt n
  unfold f_X12_drawn sp_let
  rw [bits_ok, Option.bind_some, if_pos (c_ne hc hc32), hA, drw_ok hn]
  rw [gl_sl, if_pos rfl, drw_r hd hc hc32]
  have loop : ∀ m j (w : sx_C), L - j < m → j ≤ i → ∃ xL', f_X12_drawn_38 N xA m O (nI (fb_ct (bt O) i - fb_ct (bt O) j)) (nI j) w = some (nI i, xL') ∧ xL' = w := by
    intro m
    induction m with
    | zero => intro j w hm; omega
    | succ m ih =>
      intro j w hm hj
      have iL := hO i hi
      unfold f_X12_drawn_38 f_X12_drawn_66
      rw [h4, if_neg (fun h => by have := (nle (by omega) (by omega)).mp h; omega), show nI j + 1 = nI (j + 1) from nadd j 1]
      have hmono := fb_ct_mono (bt O) hj
      by_cases e : j = i
      · rw [e, if_neg (fun h => by rw [(shr_ok _ (by omega)).2, hi] at h; cases h), Nat.sub_self, if_pos (show nI 0 = 0 from rfl)]
        exact ⟨w, rfl, rfl⟩
      · have hmono2 := fb_ct_mono (bt O) (show j + 1 ≤ i by omega)
        have hj32 := fb_ct_le (bt O) i
        rw [fb_ct_succ] at hmono2
        cases hb : bt O j
        · rw [if_pos ((shr_ok O (by omega : j < 32)).2.mpr hb)]
          have := ih (j + 1) w (by omega) (by omega)
          rw [fb_ct_succ, hb] at this
          simpa using this
        · rw [hb] at hmono2
          simp at hmono2
          have n1 : ¬ (sp_shr O (nI j)) &&& 1 = 0 := fun h => by rw [(shr_ok _ (by omega)).2, hb] at h; cases h
          rw [if_neg n1, if_neg (fun h => by have := (nz (by omega)).mp h; omega), n_m1 (by omega)]
          have := ih (j + 1) w (by omega) (by omega)
          rw [fb_ct_succ, hb] at this
          rw [show fb_ct (bt O) i - fb_ct (bt O) j - 1 = fb_ct (bt O) i - (fb_ct (bt O) j + 1) by omega]
          simpa using this
  obtain ⟨xL', l1, l2⟩ := loop N 0 (sl xL 52 (lN (drw n))) (by omega) (by omega)
  rw [← hi2]
  exact ⟨xL', l1, by rw [l2]; rfl⟩
theorem draw_ex {O : Int32} (hc : 1 ≤ qc (bt O)) (d : Nat) : ∃ i, bt O i = true ∧ fb_ct (bt O) i = d % qc (bt O) := by
  obtain ⟨i, -, i2, i3⟩ := fb_ct_kth (p := bt O) (k := d % qc (bt O)) (n := 32) (Nat.mod_lt d (by omega))
  exact ⟨i, i2, i3⟩
theorem game_sim (hf : 300 ≤ N) (hN : cNet uN K L A B u v) (hM : mNet xA K L A B u v) : ∀ c (J G : Int32) (who n : Nat), who < 2 → n < 2147483648 → (∀ z, bt J z = true → z < L) → qc (bt (opn L J G)) = c → ∃ (h : Int32) (n2 : Nat), n2 < 2147483648 ∧
    (∀ fu m uA, c < fu → m + c ≤ 14 → gl uA 4 = lN n → ∃ uA', f_X1_holderByChance_12 N uN fu J G (nI who) (nI m) uA = some (h, uA') ∧ gl uA' 4 = lN n2) ∧
    (∀ fu k33 (v2 v3 v4 : Int32) xB xD xL, c < fu → gl xL 52 = lN n → ∃ xD' xL', f_X12_chance_57 N k33 xA fu v2 v3 v4 J G (nI who) xB xD xL = k33 v2 (v3 + (if h = 0 then 1 else 0)) (v4 + 1) xB xD' xL' ∧ gl xL' 52 = lN n2) := by
  have hL : L ≤ 14 := (cN_8 hN).2.2.2
  have h20 : 20 ≤ N := by omega
  intro c
  induction c with
  | zero =>
    intro J G who n hw hn hJ hc
    have hh : hld u v L A B J G ≠ 2 := fun h => by
      obtain ⟨i, i1, i2⟩ := hld_open hL hJ h
      have := fb_ct_zero.mp hc i (by omega)
      rw [i2] at this; cases this
    refine ⟨hld u v L A B J G, n, hn, fun fu m uA hfu hm hA => ?_, fun fu k33 v2 v3 v4 xB xD xL hfu hA => ?_⟩
    · obtain ⟨f', rfl⟩ : ∃ f', fu = f' + 1 := ⟨fu - 1, by omega⟩
      unfold f_X1_holderByChance_12 f_X1_holderByChance_89
      simp only [holder_ok hN h20, Option.bind_some]
      rw [if_neg hh]
      refine ⟨uA, ?_, hA⟩
      split <;> rfl
    · obtain ⟨f', rfl⟩ : ∃ f', fu = f' + 1 := ⟨fu - 1, by omega⟩
      unfold f_X12_chance_57 f_X12_chance_135
      obtain ⟨xD1, g1⟩ := mhas_ok hM h20 J G xD
      obtain ⟨xD2, g2⟩ := mhas_ok hM h20 J G xD1
      simp only [g1, g2, Option.bind_some]
      rw [if_neg hh]
      refine ⟨xD2, xL, ?_, hA⟩
      by_cases h0 : hld u v L A B J G = 0
      · rw [if_pos h0, if_pos h0]
      · rw [if_neg h0, if_neg h0]
  | succ c ih =>
    intro J G who n hw hn hJ hc
    by_cases hh : hld u v L A B J G = 2
    · have hOL : ∀ z, bt (opn L J G) z = true → z < L := fun z hz => opn_lt (by omega) hz
      obtain ⟨i, hio, hi2⟩ := draw_ex (O := opn L J G) (by omega) (drw n / 65536)
      have hiL := hOL i hio
      have hct := ct_join hL hio
      have h01 : who = 0 ∨ who = 1 := by omega
      obtain ⟨J', hJ'⟩ : ∃ J', J' = if who = 0 then J ||| sp_shl 1 (nI i) else J := ⟨_, rfl⟩
      obtain ⟨G', hG'⟩ : ∃ G', G' = if who = 0 then G else G ||| sp_shl 1 (nI i) := ⟨_, rfl⟩
      have hJL : ∀ z, bt J' z = true → z < L := fun z hz => by
        rw [hJ'] at hz
        by_cases h0 : who = 0
        · rw [if_pos h0, b_or, bit_all (by omega)] at hz
          by_cases e : z = i
          · omega
          · exact hJ z (by simpa [e] using hz)
        · rw [if_neg h0] at hz; exact hJ z hz
      have hcc : qc (bt (opn L J' G')) = c := by
        rw [hJ', hG']
        rcases h01 with h0 | h0
        · rw [if_pos h0, if_pos h0]; omega
        · rw [if_neg (by omega), if_neg (by omega)]; omega
      obtain ⟨h, n2, a1, a2, a3⟩ := ih J' G' (1 - who) (drw n) (by omega) (drw_lt n) hJL hcc
      refine ⟨h, n2, a1, fun fu m uA hfu hm hA => ?_, fun fu k33 v2 v3 v4 xB xD xL hfu hA => ?_⟩
      · obtain ⟨f', rfl⟩ : ∃ f', fu = f' + 1 := ⟨fu - 1, by omega⟩
        obtain ⟨uA1, d1, d2⟩ := drawLine_ok hf (fun z hz => by have := hOL z hz; omega) (by omega) hn hA hio hi2
        obtain ⟨uA2, b1, b2⟩ := a2 f' (m + 1) uA1 (by omega) (by omega) d2
        unfold f_X1_holderByChance_12 f_X1_holderByChance_77
        rw [if_neg (fun h => by have := (nle (a := 14) (by omega) (by omega)).mp h; omega), turn_01 hw, show nI m + 1 = nI (m + 1) from nadd m 1]
        simp only [holder_ok hN h20, copen_ok hN, d1, Option.bind_some]
        rw [if_pos hh]
        refine ⟨uA2, ?_, b2⟩
        rw [← b1, hJ', hG']
        rcases h01 with h0 | h0
        · rw [if_pos (show nI who = 0 by rw [h0]; rfl), if_pos h0, if_pos h0]
        · rw [if_neg (show ¬ nI who = 0 by rw [h0]; decide), if_neg (by omega), if_neg (by omega)]
      · obtain ⟨f', rfl⟩ : ∃ f', fu = f' + 1 := ⟨fu - 1, by omega⟩
        obtain ⟨xL1, d1, d2⟩ := drawn_ok hf hM hL hOL (by omega) hn hA hio hi2
        obtain ⟨xD1, g1⟩ := mhas_ok hM h20 J G xD
        obtain ⟨xD2, xL2, b1, b2⟩ := a3 f' k33 v2 v3 v4 xB xD1 xL1 (by omega) d2
        unfold f_X12_chance_57 f_X12_chance_109
        simp only [g1, mopen_ok hM, d1, Option.bind_some]
        rw [if_pos hh, turn_01 hw]
        refine ⟨xD2, xL2, ?_, b2⟩
        rw [← b1, hJ', hG']
        rcases h01 with h0 | h0
        · rw [if_pos (show nI who = 0 by rw [h0]; rfl), if_pos h0, if_pos h0]
        · rw [if_neg (show ¬ nI who = 0 by rw [h0]; decide), if_neg (by omega), if_neg (by omega)]
    · refine ⟨hld u v L A B J G, n, hn, fun fu m uA hfu hm hA => ?_, fun fu k33 v2 v3 v4 xB xD xL hfu hA => ?_⟩
      · obtain ⟨f', rfl⟩ : ∃ f', fu = f' + 1 := ⟨fu - 1, by omega⟩
        unfold f_X1_holderByChance_12 f_X1_holderByChance_89
        simp only [holder_ok hN h20, Option.bind_some]
        rw [if_neg hh]
        refine ⟨uA, ?_, hA⟩
        split <;> rfl
      · obtain ⟨f', rfl⟩ : ∃ f', fu = f' + 1 := ⟨fu - 1, by omega⟩
        unfold f_X12_chance_57 f_X12_chance_135
        obtain ⟨xD1, g1⟩ := mhas_ok hM h20 J G xD
        obtain ⟨xD2, g2⟩ := mhas_ok hM h20 J G xD1
        simp only [g1, g2, Option.bind_some]
        rw [if_neg hh]
        refine ⟨xD2, xL, ?_, hA⟩
        by_cases h0 : hld u v L A B J G = 0
        · rw [if_pos h0, if_pos h0]
        · rw [if_neg h0, if_neg h0]
end
theorem lo_chance {N : Nat} {LK : sLK} (hf : 300 ≤ N) : LO_chance N (sI LK) := by
  rintro uG uN uD uR uF uP uL uT uA uM uH xA xB xC xD xE xF xG xH xI xJ xK xL x y ⟨K, L, A, B, u, v, hC, hR⟩
  have hI : ∀ uA' xB' xD' xL', sI LK uG uN uD uR uF uP uL uT uA' uM uH xA xB' xC xD' xE xF xG xH xI xJ xK xL' := fun _ _ _ _ => ⟨K, L, A, B, u, v, hC, hR⟩
  obtain ⟨hN, hM, hF, ⟨e7, e8, e11⟩, ⟨who, hw, e14⟩, hJ, hG, hdis⟩ := id hC
  have hL : L ≤ 14 := (cN_8 hN).2.2.2
  have hq := qc_opn14 hL (gi uG 12) (gi uG 13)
  unfold f_X11_chance f_X12_chance
  by_cases h0 : x < 0
  · rw [if_pos h0, if_pos h0]; exact ⟨_, rfl, _, rfl, rfl, hI _ _ _ _⟩
  · rw [if_neg h0, if_neg h0]
    by_cases h1 : y < 1
    · rw [if_pos h1, if_pos h1]; exact ⟨_, rfl, _, rfl, rfl, hI _ _ _ _⟩
    · rw [if_neg h1, if_neg h1]
      by_cases h2 : y ≤ 50
      · rw [if_pos h2, if_pos h2]
        obtain ⟨s, s1, rfl⟩ := n_pos (fa_of_nlt h0)
        obtain ⟨g, g1, rfl⟩ := n_pos (x := y) (by
          have := fa_of_nlt h1
          rw [fa_le] at this ⊢
          rw [show (1 : Int32).toInt = 1 by decide] at this
          rw [show (0 : Int32).toInt = 0 by decide]
          omega)
        have g50 : g ≤ 50 := (nle (b := 50) g1 (by omega)).mp h2
        have loop : ∀ d k won n (uA xD xL : sx_C), g - k < d → k ≤ g → n < 2147483648 → gl uA 4 = lN n → gl xL 52 = lN n → ∃ w uA' xD' xL', f_X1_joinedByChance_13 N uN d (gi uG 12) (gi uG 13) (nI who) (nI g) won (nI k) uA = some (w, uA') ∧ f_X12_chance_33 N xA d (nI g) won (nI k) (si xB 0 0) xD xL = some (w, si xB 0 0, xD', xL') := by
          intro d
          induction d with
          | zero => intro k won n uA xD xL hd; omega
          | succ d ih =>
            intro k won n uA xD xL hd hk hn hA hX
            unfold f_X1_joinedByChance_13 f_X12_chance_33
            by_cases hc : g ≤ k
            · rw [if_pos ((nle (by omega) (by omega)).mpr hc), if_pos ((nle (by omega) (by omega)).mpr hc)]
              exact ⟨won, uA, xD, xL, rfl, rfl⟩
            · rw [if_neg (fun h => hc ((nle (by omega) (by omega)).mp h)), if_neg (fun h => hc ((nle (by omega) (by omega)).mp h)), if_neg (fun h => by have := (nle (a := 50) (by omega) (by omega)).mp h; omega)]
              obtain ⟨h, n2, a1, a2, a3⟩ := game_sim hf hN hM _ (gi uG 12) (gi uG 13) who n hw hn hJ rfl
              obtain ⟨uA1, b1, b2⟩ := a2 N 0 uA (by omega) (by omega) hA
              rw [e7, e8, e11, e14]
              obtain ⟨xD1, xL1, c1, c2⟩ := a3 N (f_X12_chance_33 N xA d) (nI g) won (nI k) (si xB 0 0) xD xL (by omega) hX
              unfold f_X1_holderByChance
              have b1 : f_X1_holderByChance_12 N uN N (gi uG 12) (gi uG 13) (nI who) 0 uA = some (h, uA1) := b1
              unfold f_X1_joinedByChance_40
              simp only [b1, Option.bind_some]
              rw [c1, show nI k + 1 = nI (k + 1) from nadd k 1]
              by_cases hz : h = 0
              · rw [if_pos hz, if_pos hz]
                exact ih (k + 1) (won + 1) n2 uA1 xD1 xL1 (by omega) (by omega) a1 b2 c2
              · rw [if_neg hz, if_neg hz, Int32.add_zero]
                exact ih (k + 1) won n2 uA1 xD1 xL1 (by omega) (by omega) a1 b2 c2
        unfold f_X1_joinedByChance
        rw [e14, nI_l (by omega)]
        obtain ⟨w, uA', xD', xL', l1, l2⟩ := loop N 0 0 s (sl uA 4 (lN s)) xD (sl xL 52 (lN s)) (by omega) (by omega) s1 rfl rfl
        have l1 : f_X1_joinedByChance_13 N uN N (gi uG 12) (gi uG 13) (nI who) (nI g) 0 0 (sl uA 4 (lN s)) = some (w, uA') := l1
        have l2 : f_X12_chance_33 N xA N (nI g) 0 0 (si xB 0 0) xD (sl xL 52 (lN s)) = some (w, si xB 0 0, xD', xL') := l2
        rw [l1, l2]
        exact ⟨_, rfl, _, rfl, rfl, hI _ _ _ _⟩
      · rw [if_neg h2, if_neg h2]; exact ⟨_, rfl, _, rfl, rfl, hI _ _ _ _⟩
