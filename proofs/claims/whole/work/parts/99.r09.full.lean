/-! ===== full: all positions, by threes ===== -/
def c3 (O : Int32) (d : Nat → Nat) : Nat → Nat
  | 0 => 0
  | n + 1 => c3 O d n + (if bt O n = true then 3 ^ fb_ct (bt O) n * d n else 0)
theorem c3_lt {O : Int32} {d : Nat → Nat} (hd : ∀ i, d i < 3) : ∀ n, c3 O d n < 3 ^ fb_ct (bt O) n
  | 0 => by show 0 < 3 ^ 0; decide
  | n + 1 => by
    have h := c3_lt (O := O) hd n
    show c3 O d n + (if bt O n = true then 3 ^ fb_ct (bt O) n * d n else 0) < 3 ^ fb_ct (bt O) (n + 1)
    rw [fb_ct_succ]
    cases hb : bt O n
    · simpa using h
    · simp
      have h2 := hd n
      have h3 : 3 ^ fb_ct (bt O) n * d n ≤ 3 ^ fb_ct (bt O) n * 2 := Nat.mul_le_mul_left _ (by omega)
      rw [Nat.pow_succ]
      omega
theorem c3_inj {O : Int32} {d d' : Nat → Nat} (hd : ∀ i, d i < 3) (hd' : ∀ i, d' i < 3) : ∀ n, c3 O d n = c3 O d' n → ∀ i, i < n → bt O i = true → d i = d' i
  | 0, _, i, hi, _ => by omega
  | n + 1, h, i, hi, ho => by
    have h : c3 O d n + (if bt O n = true then 3 ^ fb_ct (bt O) n * d n else 0) = c3 O d' n + (if bt O n = true then 3 ^ fb_ct (bt O) n * d' n else 0) := h
    have l1 := c3_lt (O := O) hd n
    have l2 := c3_lt (O := O) hd' n
    cases hb : bt O n
    · rw [hb] at h
      have h : c3 O d n = c3 O d' n := by simpa using h
      exact c3_inj hd hd' n h i (by
        by_cases e : i = n
        · rw [e, hb] at ho; cases ho
        · omega) ho
    · rw [hb] at h
      simp only [↓reduceIte] at h
      have hp : 0 < 3 ^ fb_ct (bt O) n := Nat.pow_pos (by decide)
      have e1 : (c3 O d n + 3 ^ fb_ct (bt O) n * d n) / 3 ^ fb_ct (bt O) n = d n := by
        rw [Nat.add_mul_div_left _ _ hp, Nat.div_eq_of_lt l1, Nat.zero_add]
      have e2 : (c3 O d' n + 3 ^ fb_ct (bt O) n * d' n) / 3 ^ fb_ct (bt O) n = d' n := by
        rw [Nat.add_mul_div_left _ _ hp, Nat.div_eq_of_lt l2, Nat.zero_add]
      rw [h, e2] at e1
      by_cases e : i = n
      · rw [e]; exact e1.symm
      · rw [e1] at h
        exact c3_inj hd hd' n (by omega) i (by omega) ho
theorem c3_cong {O : Int32} {d d' : Nat → Nat} : ∀ n, (∀ i, i < n → bt O i = true → d i = d' i) → c3 O d n = c3 O d' n
  | 0, _ => rfl
  | n + 1, h => by
    show c3 O d n + (if bt O n = true then 3 ^ fb_ct (bt O) n * d n else 0) = c3 O d' n + (if bt O n = true then 3 ^ fb_ct (bt O) n * d' n else 0)
    rw [c3_cong n (fun i hi ho => h i (by omega) ho)]
    cases hb : bt O n
    · rfl
    · rw [h n (by omega) hb]
theorem c3_upd {O : Int32} {d d' : Nat → Nat} {i x : Nat} (ho : bt O i = true) (h0 : d i = 0) (h1 : d' i = x) (h2 : ∀ z, z ≠ i → d' z = d z) : ∀ n, i < n → c3 O d' n = c3 O d n + 3 ^ fb_ct (bt O) i * x
  | 0, hi => by omega
  | n + 1, hi => by
    show c3 O d' n + (if bt O n = true then 3 ^ fb_ct (bt O) n * d' n else 0) = c3 O d n + (if bt O n = true then 3 ^ fb_ct (bt O) n * d n else 0) + 3 ^ fb_ct (bt O) i * x
    by_cases e : i = n
    · subst e
      rw [if_pos ho, if_pos ho, h0, h1, c3_cong i (fun z hz _ => h2 z (by omega)), Nat.mul_zero]
      omega
    · rw [c3_upd ho h0 h1 h2 n (by omega), h2 n (fun e2 => e e2.symm)]
      omega
/-- the positions behind a first one -/
def dg (J G : Int32) : Nat → Nat := fun i => if bt J i = true then 1 else if bt G i = true then 2 else 0
theorem dg_lt (J G : Int32) (i : Nat) : dg J G i < 3 := by
  unfold dg
  split
  · decide
  · split <;> decide
def vp3 (L : Nat) (J0 G0 J G : Int32) : Prop := (∀ z, bt (opn L J0 G0) z = false → bt J z = bt J0 z ∧ bt G z = bt G0 z) ∧ (∀ z, ¬ (bt J z = true ∧ bt G z = true)) ∧ (∀ z, bt J z = true → z < L) ∧ ∀ z, bt G z = true → z < L
def cd3 (L : Nat) (J0 G0 J G : Int32) : Nat := c3 (opn L J0 G0) (dg J G) L
theorem cd3_inj {L : Nat} (hL : L ≤ 14) {J0 G0 J G J' G' : Int32} (h : vp3 L J0 G0 J G) (h' : vp3 L J0 G0 J' G') (e : cd3 L J0 G0 J G = cd3 L J0 G0 J' G') : J = J' ∧ G = G' := by
  have hd := c3_inj (dg_lt J G) (dg_lt J' G') L e
  have key : ∀ z, z < 32 → bt J z = bt J' z ∧ bt G z = bt G' z := fun z hz => by
    cases ho : bt (opn L J0 G0) z
    · rw [(h.1 z ho).1, (h.1 z ho).2, (h'.1 z ho).1, (h'.1 z ho).2]; exact ⟨rfl, rfl⟩
    · have := hd z (opn_lt (by omega) ho) ho
      unfold dg at this
      have n1 := h.2.1 z
      have n2 := h'.2.1 z
      cases a : bt J z <;> cases b : bt J' z <;> cases c : bt G z <;> cases d : bt G' z <;> rw [a, c] at n1 <;> rw [b, d] at n2 <;> rw [a, b, c, d] at this <;> simp at this n1 n2 <;> exact ⟨rfl, rfl⟩
  exact ⟨b_ext (fun z hz => (key z hz).1), b_ext (fun z hz => (key z hz).2)⟩
def wv (k who : Nat) : Nat := if k = 0 then 0 else if k = 2 then 1 else who
section
variable {N : Nat} {uN xA : sx_C} {K L A B : Nat} {u v : Nat → Nat} {J0 G0 : Int32}
/-- what is known is right -/
def kOK (u v : Nat → Nat) (L A B : Nat) (J0 G0 : Int32) (xK : sx_C) : Prop := (∀ J G who, vp3 L J0 G0 J G → who < 2 → ga xK 50 (2 * cd3 L J0 G0 J G + who) = 0 ∨ ∃ k, mlk u v L A B J G k ∧ ga xK 50 (2 * cd3 L J0 G0 J G + who) = nI (wv k who + 1)) ∧ ∀ i, i < L → bt (opn L J0 G0) i = true → ga xK 51 i = nI (3 ^ fb_ct (bt (opn L J0 G0)) i)
theorem cd3_lt (hL : L ≤ 14) (h10 : qc (bt (opn L J0 G0)) ≤ 10) (J G : Int32) : cd3 L J0 G0 J G < 59049 := by
  have h1 := c3_lt (O := opn L J0 G0) (dg_lt J G) L
  have h2 : fb_ct (bt (opn L J0 G0)) L ≤ 10 := Nat.le_trans (fb_ct_mono _ (by omega : L ≤ 32)) h10
  have h3 : 3 ^ fb_ct (bt (opn L J0 G0)) L ≤ 3 ^ 10 := Nat.pow_le_pow_right (by decide) h2
  exact Nat.lt_of_lt_of_le h1 h3
theorem wv_2 {k who : Nat} (hw : who < 2) : wv k who < 2 := by
  unfold wv
  split
  · decide
  · split
    · decide
    · exact hw
theorem i2b_dec : ∀ a, a < 2 → sp_i2b (sp_i2b (nI a + 1)) = nI (a + 1) := by decide +kernel
theorem w148_ok (hL : L ≤ 14) (h10 : qc (bt (opn L J0 G0)) ≤ 10) {J G : Int32} (hv : vp3 L J0 G0 J G) {who k : Nat} (hw : who < 2) (hk : mlk u v L A B J G k) {xK : sx_C} (hO : kOK u v L A B J0 G0 xK) (kR : Int32 → Int32 → Int32 → Int32 → sx_C → sx_C → Option (Int32 × sx_C × sx_C)) (xD : sx_C) : ∃ xK', f_X12_winner_148 N kR xA (nI (cd3 L J0 G0 J G)) (nI who) (nI (wv k who)) xD xK = some (nI (wv k who), xD, xK') ∧ kOK u v L A B J0 G0 xK' := by
  have hlt := cd3_lt hL h10 J G
  have hwv := wv_2 (k := k) hw
  unfold f_X12_winner_148
  have e : 2 * nI (cd3 L J0 G0 J G) + nI who = nI (2 * cd3 L J0 G0 J G + who) := by
    rw [show (2 : Int32) = nI 2 from rfl, nmul, nadd]
  rw [e, if_pos (in_ok (by omega) (by decide)), nI_clamp (by omega), i2b_dec _ hwv]
  refine ⟨_, rfl, fun J' G' who' hv' hw' => ?_, fun i hi ho => ?_⟩
  · rw [ga_up]
    by_cases e2 : 2 * cd3 L J0 G0 J' G' + who' = 2 * cd3 L J0 G0 J G + who
    · rw [if_pos e2]
      obtain ⟨e3, e4⟩ := cd3_inj hL hv' hv (by omega)
      have e5 : who' = who := by omega
      right
      rw [e3, e4, e5]
      exact ⟨k, hk, rfl⟩
    · rw [if_neg e2]; exact hO.1 J' G' who' hv' hw'
  · rw [ga_sa, if_neg (by decide)]
    exact hO.2 i hi ho
theorem winner_ok (hf : 200000 ≤ N) (hM : mNet xA K L A B u v) (hL : L ≤ 14) (h10 : qc (bt (opn L J0 G0)) ≤ 10) : ∀ c (J G : Int32) (who k d : Nat) (xD xK : sx_C), vp3 L J0 G0 J G → who < 2 → qc (bt (opn L J G)) = c → c < d → mlk u v L A B J G k → kOK u v L A B J0 G0 xK → ∃ xD' xK', f_X12_winner N xA d (nI (cd3 L J0 G0 J G)) J G (nI who) xD xK = some (nI (wv k who), xD', xK') ∧ kOK u v L A B J0 G0 xK' := by
  have h20 : 20 ≤ N := by omega
  have h4 : gi xA 4 = nI L := hM.2.2.2.1
  have MU := gs_mat (mN_U hM)
  intro c
  induction c with
  | zero =>
    intro J G who k d xD xK hv hw hc hd hk hO
    obtain ⟨d', rfl⟩ : ∃ d', d = d' + 1 := ⟨d - 1, by omega⟩
    have hlt := cd3_lt hL h10 J G
    have hh : hld u v L A B J G ≠ 2 := fun h => by
      obtain ⟨i, i1, i2⟩ := hld_open hL hv.2.2.1 h
      have := fb_ct_zero.mp hc i (by omega)
      rw [i2] at this; cases this
    unfold f_X12_winner
    have e : 2 * nI (cd3 L J0 G0 J G) + nI who = nI (2 * cd3 L J0 G0 J G + who) := by
      rw [show (2 : Int32) = nI 2 from rfl, nmul, nadd]
    rw [e, rd_ok (by omega) (by decide)]
    simp only [Option.bind_some]
    rcases hO.1 J G who hv hw with h0 | ⟨k', k1, k2⟩
    · rw [h0, if_pos (by decide)]
      obtain ⟨xD1, g1⟩ := mhas_ok hM h20 J G xD
      simp only [g1, Option.bind_some]
      rw [if_neg hh]
      have hits : hld u v L A B J G = nI (wv k who) := by
        rcases hld_3 (u := u) (v := v) (L := L) (A := A) (B := B) J G with h | h | h
        · have : k = 0 := mlk_one hk (qL_zero MU (by decide) (by rw [gs_ends hM]; exact decide_eq_true (hld_0.mp h)))
          rw [h, this]; rfl
        · have : k = 2 := mlk_one hk (hld_1 hM hv.2.1 h)
          rw [h, this]; rfl
        · exact absurd h hh
      rw [hits]
      obtain ⟨xK', w1, w2⟩ := w148_ok (N := N) (xA := xA) hL h10 hv hw hk hO (f_X12_winner N xA d') xD1
      exact ⟨xD1, xK', w1, w2⟩
    · have : k' = k := mlk_one k1 hk
      have hwv := wv_2 (k := k) hw
      rw [k2, this, if_neg (fun h => by have := (nle (b := 0) (by omega) (by omega)).mp h; omega)]
      refine ⟨xD, xK, ?_, hO⟩
      have : nI (wv k who + 1) - 1 = nI (wv k who) := nsub _ 1
      rw [this]
  | succ c ih =>
    intro J G who k d xD xK hv hw hc hd hk hO
    obtain ⟨d', rfl⟩ : ∃ d', d = d' + 1 := ⟨d - 1, by omega⟩
    have hlt := cd3_lt hL h10 J G
    have hwv := wv_2 (k := k) hw
    unfold f_X12_winner
    have e : 2 * nI (cd3 L J0 G0 J G) + nI who = nI (2 * cd3 L J0 G0 J G + who) := by
      rw [show (2 : Int32) = nI 2 from rfl, nmul, nadd]
    rw [e, rd_ok (by omega) (by decide)]
    simp only [Option.bind_some]
    rcases hO.1 J G who hv hw with h0 | ⟨k', k1, k2⟩
    · rw [h0, if_pos (by decide)]
      obtain ⟨xD1, g1⟩ := mhas_ok hM h20 J G xD
      simp only [g1, Option.bind_some]
      by_cases hh : hld u v L A B J G = 2
      · rw [if_pos hh, mopen_ok hM, Option.bind_some, turn_01 hw]
        obtain ⟨O, hOd⟩ : ∃ O, O = opn L J G := ⟨_, rfl⟩
        have hOL : ∀ z, bt O z = true → z < L := fun z hz => by rw [hOd] at hz; exact opn_lt (by omega) hz
        have hO0 : ∀ z, bt O z = true → bt (opn L J0 G0) z = true := fun z hz => by
          cases h9 : bt (opn L J0 G0) z
          · obtain ⟨a1, a2⟩ := hv.1 z h9
            have zL := hOL z hz
            rw [hOd, opn_bit (by omega) _ _ (by omega : z < 32), a1, a2] at hz
            rw [opn_bit (by omega) _ _ (by omega : z < 32), hz] at h9
            cases h9
          · rfl
        have hoff : ∀ z, bt O z = true → bt J z = false ∧ bt G z = false := fun z hz => by
          have zL := hOL z hz
          rw [hOd, opn_bit (by omega) _ _ (by omega : z < 32)] at hz
          simp at hz
          exact hz.2
        -- has somebody a winning line?
        have hex : (∃ i, bt O i = true ∧ wnP u v L A B J G who i) ↔ wv k who = who := by
          obtain ⟨i0, i01, i02⟩ := hld_open hL hv.2.2.1 hh
          have hk2 : k ≤ 2 := by
            obtain ⟨k9, a, b⟩ := mlk_ex hM J G
            rw [mlk_one hk b]; exact a
          have h01 : who = 0 ∨ who = 1 := by omega
          rcases (show k = 0 ∨ k = 1 ∨ k = 2 by omega) with e0 | e0 | e0
          · constructor
            · rintro ⟨i, i1, i2⟩
              have := ((wn_all hM hk hw (by rw [← hOd]; exact i1)).1 e0).mp i2
              rw [e0, this]; rfl
            · intro h9
              rw [e0] at h9
              exact ⟨i0, by rw [hOd]; exact i02, ((wn_all hM hk hw i02).1 e0).mpr h9.symm⟩
          · constructor
            · intro _
              rw [e0]; rfl
            · intro _
              rw [e0] at hk
              rcases h01 with h0' | h0'
              · obtain ⟨i, i1, i2, i3⟩ := qL_e MU (by decide) hk
                have iL := opn_lt (by omega : L < 31) i2
                exact ⟨i, by rw [hOd]; exact i2, i2, by rw [h0', if_pos rfl]; exact (mlk_join hM iL).mpr i3⟩
              · obtain ⟨i, i1, i2, i3⟩ := qL_f MU (by decide) hk
                have iL := opn_lt (by omega : L < 31) i2
                exact ⟨i, by rw [hOd]; exact i2, i2, by rw [h0', if_neg (by decide)]; exact (mlk_cut hM iL).mpr i3⟩
          · constructor
            · rintro ⟨i, i1, i2⟩
              have := ((wn_all hM hk hw (by rw [← hOd]; exact i1)).2 e0).mp i2
              rw [e0, this]; rfl
            · intro h9
              rw [e0] at h9
              exact ⟨i0, by rw [hOd]; exact i02, ((wn_all hM hk hw i02).2 e0).mpr h9.symm⟩
        have hone : wv k who = who ∨ wv k who = 1 - who := by omega
        have fin : ∀ xD xK, kOK u v L A B J0 G0 xK → ∃ xD' xK', f_X12_winner_148 N (f_X12_winner N xA d') xA (nI (cd3 L J0 G0 J G)) (nI who) (nI (wv k who)) xD xK = some (nI (wv k who), xD', xK') ∧ kOK u v L A B J0 G0 xK' := fun xD xK h9 => by
          obtain ⟨xK', w1, w2⟩ := w148_ok (N := N) (xA := xA) hL h10 hv hw hk h9 (f_X12_winner N xA d') xD
          exact ⟨xD, xK', w1, w2⟩
        rw [← hOd]
        have loop : ∀ n i its xD xK, L - i < n → i ≤ L → kOK u v L A B J0 G0 xK → ((its = who ∧ ∃ y, bt O y = true ∧ wnP u v L A B J G who y) ∨ (its = 1 - who ∧ ∀ y, y < i → bt O y = true → ¬ wnP u v L A B J G who y)) → ∃ xD' xK', f_X12_winner_59 N (f_X12_winner N xA d') xA n (nI (cd3 L J0 G0 J G)) J G (nI who) (nI its) O (nI i) xD xK = some (nI (wv k who), xD', xK') ∧ kOK u v L A B J0 G0 xK' := by
          intro n
          induction n with
          | zero => intro i its xD xK hn; omega
          | succ n ihn =>
            intro i its xD xK hn hi hK hits
            unfold f_X12_winner_59
            rw [h4]
            by_cases hcL : L ≤ i
            · rw [if_pos ((nle (by omega) (by omega)).mpr hcL)]
              have e9 : its = wv k who := by
                rcases hits with ⟨a, b⟩ | ⟨a, b⟩
                · rw [a]; exact (hex.mp b).symm
                · rw [a]
                  rcases hone with h9 | h9
                  · obtain ⟨y, y1, y2⟩ := hex.mpr h9
                    exact absurd y2 (b y (by have := hOL y y1; omega) y1)
                  · exact h9.symm
              rw [e9]; exact fin xD xK hK
            · rw [if_neg (fun h => hcL ((nle (by omega) (by omega)).mp h))]
              rcases hits with ⟨a, b⟩ | ⟨a, b⟩
              · rw [a, if_pos rfl]
                have e9 : nI who = nI (wv k who) := by rw [hex.mp b]
                have := fin xD xK hK
                rw [← e9] at this ⊢
                exact this
              · rw [a, if_neg (fun h => by have := (neq (by omega) (by omega)).mp h; omega)]
                unfold f_X12_winner_142
                rw [show nI i + 1 = nI (i + 1) from nadd i 1]
                cases hb : bt O i
                · rw [if_pos ((shr_ok O (by omega : i < 32)).2.mpr hb)]
                  refine ihn (i + 1) (1 - who) xD xK (by omega) (by omega) hK (Or.inr ⟨rfl, fun y y1 y2 => ?_⟩)
                  by_cases e2 : y = i
                  · rw [e2, hb] at y2; cases y2
                  · exact b y (by omega) y2
                · have n1 : ¬ (sp_shr O (nI i)) &&& 1 = 0 := fun h => by rw [(shr_ok _ (by omega)).2, hb] at h; cases h
                  rw [if_neg n1]
                  have iL := hOL i hb
                  have hio : bt (opn L J G) i = true := by rw [← hOd]; exact hb
                  have hi0 := hO0 i hb
                  obtain ⟨oj, og⟩ := hoff i hb
                  have h51 : sp_rd (ga xK 51) 14 (nI i) = some (nI (3 ^ fb_ct (bt (opn L J0 G0)) i)) := by rw [rd_ok (by omega) (by decide), hK.2 i iL hi0]
                  unfold f_X12_winner_140 f_X12_winner_142
                  rw [show nI i + 1 = nI (i + 1) from nadd i 1]
                  simp only [h51, Option.bind_some]
                  have hbit : ∀ z, bt (sp_shl 1 (nI i)) z = decide (z = i) := bit_all (by omega)
                  have h01 : who = 0 ∨ who = 1 := by omega
                  have dgi : dg J G i = 0 := by unfold dg; rw [oj, og]; rfl
                  -- behind it
                  have go : ∀ res xD xK, kOK u v L A B J0 G0 xK → ((res = who ∧ wnP u v L A B J G who i) ∨ (res = 1 - who ∧ ¬ wnP u v L A B J G who i)) → ∃ xD' xK', f_X12_winner_59 N (f_X12_winner N xA d') xA n (nI (cd3 L J0 G0 J G)) J G (nI who) (nI res) O (nI (i + 1)) xD xK = some (nI (wv k who), xD', xK') ∧ kOK u v L A B J0 G0 xK' := by
                    intro res xD xK hK2 hres
                    refine ihn (i + 1) res xD xK (by omega) (by omega) hK2 ?_
                    rcases hres with ⟨r1, r2⟩ | ⟨r1, r2⟩
                    · exact Or.inl ⟨r1, i, hb, r2⟩
                    · refine Or.inr ⟨r1, fun y y1 y2 => ?_⟩
                      by_cases e2 : y = i
                      · rw [e2]; exact r2
                      · exact b y (by omega) y2
                  rcases h01 with h0' | h0'
                  · have ew : nI who = 0 := by rw [h0']; rfl
                    have hv' : vp3 L J0 G0 (J ||| sp_shl 1 (nI i)) G := by
                      refine ⟨fun z hz => ?_, fun z hz => ?_, fun z hz => ?_, hv.2.2.2⟩
                      · have : ¬ z = i := fun e2 => by rw [e2, hi0] at hz; cases hz
                        rw [b_or, hbit]
                        simp [this]
                        exact hv.1 z hz
                      · obtain ⟨z1, z2⟩ := hz
                        rw [b_or, hbit] at z1
                        by_cases e2 : z = i
                        · rw [e2, og] at z2; cases z2
                        · exact hv.2.1 z ⟨by simpa [e2] using z1, z2⟩
                      · rw [b_or, hbit] at hz
                        by_cases e2 : z = i
                        · omega
                        · exact hv.2.2.1 z (by simpa [e2] using hz)
                    have hcd : nI (cd3 L J0 G0 J G) + nI (3 ^ fb_ct (bt (opn L J0 G0)) i) = nI (cd3 L J0 G0 (J ||| sp_shl 1 (nI i)) G) := by
                      rw [nadd]
                      congr 1
                      unfold cd3
                      rw [c3_upd (d' := dg (J ||| sp_shl 1 (nI i)) G) (x := 1) hi0 dgi (by unfold dg; rw [b_or, hbit]; simp) (fun z hz => by unfold dg; rw [b_or, hbit]; simp [hz]) L iL, Nat.mul_one]
                    obtain ⟨k', k1', k2'⟩ := mlk_ex hM (J ||| sp_shl 1 (nI i)) G
                    obtain ⟨xD2, xK2, w1, w2⟩ := ih (J ||| sp_shl 1 (nI i)) G 1 k' d' xD xK hv' (by omega) (by have := (ct_join hL hio).1; omega) (by omega) k2' hK
                    have w1 : f_X12_winner N xA d' (nI (cd3 L J0 G0 (J ||| sp_shl 1 (nI i)) G)) (J ||| sp_shl 1 (nI i)) G 1 xD xK = some (nI (wv k' 1), xD2, xK2) := w1
                    rw [if_pos ew, hcd]
                    simp only [w1, Option.bind_some]
                    refine go _ xD2 xK2 w2 ?_
                    unfold wnP
                    rw [h0', if_pos rfl]
                    by_cases e2 : k' = 0
                    · left
                      rw [e2] at k2' ⊢
                      exact ⟨rfl, hio, k2'⟩
                    · right
                      refine ⟨?_, fun h9 => e2 (mlk_one k2' h9.2)⟩
                      have : k' = 1 ∨ k' = 2 := by omega
                      rcases this with h9 | h9 <;> rw [h9] <;> rfl
                  · have ew : ¬ nI who = 0 := by rw [h0']; decide
                    have hv' : vp3 L J0 G0 J (G ||| sp_shl 1 (nI i)) := by
                      refine ⟨fun z hz => ?_, fun z hz => ?_, hv.2.2.1, fun z hz => ?_⟩
                      · have : ¬ z = i := fun e2 => by rw [e2, hi0] at hz; cases hz
                        rw [b_or, hbit]
                        simp [this]
                        exact hv.1 z hz
                      · obtain ⟨z1, z2⟩ := hz
                        rw [b_or, hbit] at z2
                        by_cases e2 : z = i
                        · rw [e2, oj] at z1; cases z1
                        · exact hv.2.1 z ⟨z1, by simpa [e2] using z2⟩
                      · rw [b_or, hbit] at hz
                        by_cases e2 : z = i
                        · omega
                        · exact hv.2.2.2 z (by simpa [e2] using hz)
                    have hcd : nI (cd3 L J0 G0 J G) + 2 * nI (3 ^ fb_ct (bt (opn L J0 G0)) i) = nI (cd3 L J0 G0 J (G ||| sp_shl 1 (nI i))) := by
                      rw [show (2 : Int32) = nI 2 from rfl, nmul, nadd]
                      congr 1
                      unfold cd3
                      rw [c3_upd (d' := dg J (G ||| sp_shl 1 (nI i))) (x := 2) hi0 dgi (by unfold dg; rw [b_or, hbit, oj]; simp) (fun z hz => by unfold dg; rw [b_or, hbit]; simp [hz]) L iL, Nat.mul_comm]
                    obtain ⟨k', k1', k2'⟩ := mlk_ex hM J (G ||| sp_shl 1 (nI i))
                    obtain ⟨xD2, xK2, w1, w2⟩ := ih J (G ||| sp_shl 1 (nI i)) 0 k' d' xD xK hv' (by omega) (by have := (ct_join hL hio).2; omega) (by omega) k2' hK
                    have w1 : f_X12_winner N xA d' (nI (cd3 L J0 G0 J (G ||| sp_shl 1 (nI i)))) J (G ||| sp_shl 1 (nI i)) 0 xD xK = some (nI (wv k' 0), xD2, xK2) := w1
                    rw [if_neg ew, hcd]
                    simp only [w1, Option.bind_some]
                    refine go _ xD2 xK2 w2 ?_
                    unfold wnP
                    rw [h0', if_neg (by decide)]
                    by_cases e2 : k' = 2
                    · left
                      rw [e2] at k2' ⊢
                      exact ⟨rfl, hio, k2'⟩
                    · right
                      refine ⟨?_, fun h9 => e2 (mlk_one k2' h9.2)⟩
                      have : k' = 0 ∨ k' = 1 := by omega
                      rcases this with h9 | h9 <;> rw [h9] <;> rfl
        exact loop N 0 (1 - who) xD1 xK (by omega) (by omega) hO (Or.inr ⟨rfl, fun y hy => by omega⟩)
      · rw [if_neg hh]
        have hits : hld u v L A B J G = nI (wv k who) := by
          rcases hld_3 (u := u) (v := v) (L := L) (A := A) (B := B) J G with h | h | h
          · have : k = 0 := mlk_one hk (qL_zero MU (by decide) (by rw [gs_ends hM]; exact decide_eq_true (hld_0.mp h)))
            rw [h, this]; rfl
          · have : k = 2 := mlk_one hk (hld_1 hM hv.2.1 h)
            rw [h, this]; rfl
          · exact absurd h hh
        rw [hits]
        obtain ⟨xK', w1, w2⟩ := w148_ok (N := N) (xA := xA) hL h10 hv hw hk hO (f_X12_winner N xA d') xD1
        exact ⟨xD1, xK', w1, w2⟩
    · have : k' = k := mlk_one k1 hk
      rw [k2, this, if_neg (fun h => by have := (nle (b := 0) (by omega) (by omega)).mp h; omega)]
      refine ⟨xD, xK, ?_, hO⟩
      have : nI (wv k who + 1) - 1 = nI (wv k who) := nsub _ 1
      rw [this]
/-- the threes laid, nothing known -/
theorem threes_ok (hf : 200000 ≤ N) (hM : mNet xA K L A B u v) (hL : L ≤ 14) {O : Int32} (hOd : O = opn L J0 G0) (h10 : qc (bt O) ≤ 10) (xK : sx_C) : ∃ xK', f_X12_laysThrees_9 N xA N 1 O 0 xK = some xK' ∧ kOK u v L A B J0 G0 xK' := by
  have h4 : gi xA 4 = nI L := hM.2.2.2.1
  have h3 : ∀ i, i ≤ L → 3 ^ fb_ct (bt O) i ≤ 59049 := fun i hi => by
    have h2 : fb_ct (bt O) i ≤ 10 := Nat.le_trans (fb_ct_mono _ (by omega : i ≤ 32)) h10
    exact Nat.pow_le_pow_right (n := 3) (by decide) h2
  have hfill : ∀ n i (w : sx_C), 2 * 3 ^ fb_ct (bt O) L - i < n → i ≤ 2 * 3 ^ fb_ct (bt O) L → (∀ z, z < i → ga w 50 z = 0) → (∀ z, z < L → bt O z = true → ga w 51 z = nI (3 ^ fb_ct (bt O) z)) → ∃ xK', f_X12_laysThrees_54 N xA n (nI (3 ^ fb_ct (bt O) L)) (nI i) w = some xK' ∧ kOK u v L A B J0 G0 xK' := by
    have hp := h3 L (Nat.le_refl _)
    intro n
    induction n with
    | zero => intro i w hn; omega
    | succ n ih =>
      intro i w hn hi h50 h51
      unfold f_X12_laysThrees_54
      rw [show 2 * nI (3 ^ fb_ct (bt O) L) = nI (2 * 3 ^ fb_ct (bt O) L) from nmul 2 _]
      by_cases hc : 2 * 3 ^ fb_ct (bt O) L ≤ i
      · rw [if_pos ((nle (by omega) (by omega)).mpr hc)]
        refine ⟨w, rfl, fun J G who hv hw => Or.inl (h50 _ ?_), ?_⟩
        · have := c3_lt (O := opn L J0 G0) (dg_lt J G) L
          have h9 : cd3 L J0 G0 J G < 3 ^ fb_ct (bt O) L := by rw [hOd]; exact this
          omega
        · rw [← hOd]; exact h51
      · rw [if_neg (fun h => hc ((nle (by omega) (by omega)).mp h)), if_pos (in_ok (by omega) (by decide)), nI_clamp (by omega), show nI i + 1 = nI (i + 1) from nadd i 1]
        refine ih (i + 1) _ (by omega) (by omega) (fun z hz => ?_) (fun z hz ho => ?_)
        · rw [ga_up]
          by_cases e : z = i
          · rw [if_pos e]; rfl
          · rw [if_neg e]; exact h50 z (by omega)
        · rw [ga_sa, if_neg (by decide)]; exact h51 z hz ho
  have loop : ∀ n i (w : sx_C), L - i < n → i ≤ L → (∀ z, z < i → bt O z = true → ga w 51 z = nI (3 ^ fb_ct (bt O) z)) → ∃ xK', f_X12_laysThrees_9 N xA n (nI (3 ^ fb_ct (bt O) i)) O (nI i) w = some xK' ∧ kOK u v L A B J0 G0 xK' := by
    intro n
    induction n with
    | zero => intro i w hn; omega
    | succ n ih =>
      intro i w hn hi h51
      unfold f_X12_laysThrees_9
      rw [h4]
      by_cases hc : L ≤ i
      · rw [if_pos ((nle (by omega) (by omega)).mpr hc)]
        have : i = L := by omega
        subst this
        have := h3 i (Nat.le_refl _)
        exact hfill N 0 w (by omega) (Nat.zero_le _) (fun z hz => by omega) h51
      · rw [if_neg (fun h => hc ((nle (by omega) (by omega)).mp h)), if_pos (in_ok (by omega) (by decide)), nI_clamp (by omega)]
        unfold f_X12_laysThrees_46
        rw [show nI i + 1 = nI (i + 1) from nadd i 1]
        cases hb : bt O i
        · rw [if_pos ((shr_ok O (by omega : i < 32)).2.mpr hb)]
          have := ih (i + 1) (sa w 51 i 0) (by omega) (by omega) (fun z hz ho => by
            rw [ga_up]
            by_cases e : z = i
            · rw [e, hb] at ho; cases ho
            · rw [if_neg e]; exact h51 z (by omega) ho)
          rw [fb_ct_succ, hb] at this
          simpa using this
        · have n1 : ¬ (sp_shr O (nI i)) &&& 1 = 0 := fun h => by rw [(shr_ok _ (by omega)).2, hb] at h; cases h
          rw [if_neg n1, if_pos (in_ok (by omega) (by decide))]
          have e3 : nI (3 ^ fb_ct (bt O) i) * 3 = nI (3 ^ fb_ct (bt O) (i + 1)) := by
            rw [fb_ct_succ, hb]
            simp only [↓reduceIte]
            rw [Nat.pow_succ]
            exact nmul _ 3
          rw [e3]
          refine ih (i + 1) _ (by omega) (by omega) (fun z hz ho => ?_)
          rw [ga_up]
          by_cases e : z = i
          · rw [if_pos e, e]
          · rw [if_neg e, ga_up, if_neg e]; exact h51 z (by omega) ho
  exact loop N 0 xK (by omega) (by omega) (fun z hz => by omega)
end
theorem lo_full {N : Nat} {LK : sLK} (hf : 200000 ≤ N) : LO_full N (sI LK) := by
  rintro uG uN uD uR uF uP uL uTT uA uM uH xA xB xC xD xE xF xG xH xI xJ xK xL x ⟨K, L, A, B, u, v, hC, hR⟩
  have hI : ∀ uF' xB' xD' xK', (∃ u' v', fNet uF' u' v') → sI LK uG uN uD uR uF' uP uL uTT uA uM uH xA xB' xC xD' xE xF xG xH xI xJ xK' xL := fun _ _ _ _ h => ⟨K, L, A, B, u, v, sCore_F hC h, hR⟩
  obtain ⟨hN, hM, hF, ⟨e7, e8, e11⟩, -, hJ, hG, hdis⟩ := id hC
  have hL : L ≤ 14 := (cN_8 hN).2.2.2
  have hq := qc_opn14 hL (gi uG 12) (gi uG 13)
  unfold f_X11_full f_X12_full
  rcases int_01 x with h | ⟨h, h2, -⟩ | ⟨who, hw, rfl, h, h2, -⟩
  · rw [if_pos h, if_pos h]; exact ⟨_, rfl, _, rfl, rfl, hI _ _ _ _ hF⟩
  · rw [if_neg h, if_neg h, if_neg h2, if_neg h2]; exact ⟨_, rfl, _, rfl, rfl, hI _ _ _ _ hF⟩
  · rw [if_neg h, if_neg h, if_pos h2, if_pos h2]
    simp only [small_ok hN, mOpenNow_ok hM, bits_ok, Option.bind_some]
    rw [e7, e8]
    by_cases h10 : qc (bt (opn L (gi uG 12) (gi uG 13))) ≤ 10
    · rw [if_pos (decide_eq_true h10), if_pos (show nI (qc (bt (opn L (gi uG 12) (gi uG 13)))) ≤ 10 from (nle (b := 10) (by omega) (by omega)).mpr h10)]
      obtain ⟨k, uF1, a1, a2, a3, a4⟩ := lacking_ok (by omega : 20 ≤ N) hN hF (gi uG 12) (gi uG 13)
      obtain ⟨xK1, t1, t2⟩ := threes_ok (J0 := gi uG 12) (G0 := gi uG 13) hf hM hL rfl h10 xK
      have hv : vp3 L (gi uG 12) (gi uG 13) (gi uG 12) (gi uG 13) := ⟨fun _ _ => ⟨rfl, rfl⟩, hdis, hJ, hG⟩
      have hcd : cd3 L (gi uG 12) (gi uG 13) (gi uG 12) (gi uG 13) = 0 := by
        unfold cd3
        rw [c3_cong (d' := fun _ => 0) L (fun i hi ho => ?_)]
        · have : ∀ n, c3 (opn L (gi uG 12) (gi uG 13)) (fun _ => 0) n = 0 := fun n => by
            induction n with
            | zero => rfl
            | succ n ih =>
              show c3 _ _ n + (if _ then _ * 0 else 0) = 0
              rw [ih]; simp
          exact this L
        · rw [opn_bit (by omega) _ _ (by omega : i < 32)] at ho
          simp at ho
          unfold dg
          rw [ho.2.1, ho.2.2]; rfl
      obtain ⟨xD1, xK2, w1, w2⟩ := winner_ok hf hM hL h10 _ (gi uG 12) (gi uG 13) who k 40 xD xK1 hv hw rfl (by omega) a3 t2
      rw [hcd] at w1
      have w1 : f_X12_winner N xA 40 0 (gi uG 12) (gi uG 13) (nI who) xD xK1 = some (nI (wv k who), xD1, xK2) := w1
      unfold f_X12_laysThrees
      rw [mOpenNow_ok hM, e7, e8]
      simp only [a2, t1, w1, Option.bind_some]
      rcases (show k = 0 ∨ k = 1 ∨ k = 2 by omega) with e0 | e0 | e0
      · rw [e0, if_pos (show nI 0 = 0 from rfl)]
        exact ⟨_, rfl, _, rfl, rfl, hI _ _ _ _ a4⟩
      · rw [e0, if_neg (by decide), if_pos (show nI 1 = 1 from rfl)]
        exact ⟨_, rfl, _, rfl, rfl, hI _ _ _ _ a4⟩
      · rw [e0, if_neg (by decide), if_neg (by decide)]
        exact ⟨_, rfl, _, rfl, rfl, hI _ _ _ _ a4⟩
    · rw [if_neg (fun h3 => h10 (of_decide_eq_true h3)), if_neg (show ¬ nI (qc (bt (opn L (gi uG 12) (gi uG 13)))) ≤ 10 from fun h3 => h10 ((nle (b := 10) (by omega) (by omega)).mp h3))]
      exact ⟨_, rfl, _, rfl, rfl, hI _ _ _ _ hF⟩
