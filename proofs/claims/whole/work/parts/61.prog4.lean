/-! ===== all lines, open lines, who holds the ends ===== -/
theorem all_bit : ∀ L, L < 31 → ∀ i, i < 32 → bt (sp_shl 1 (nI L) - 1) i = decide (i < L) := by decide +kernel
def alL (L : Nat) : Int32 := sp_shl 1 (nI L) - 1
def opn (L : Nat) (j g : Int32) : Int32 := alL L &&& ((j ||| g) ^^^ (-1))
theorem alL_bit {L : Nat} (hL : L < 31) {i : Nat} (hi : i < 32) : bt (alL L) i = decide (i < L) := all_bit L hL i hi
theorem opn_bit {L : Nat} (hL : L < 31) (j g : Int32) {i : Nat} (hi : i < 32) : bt (opn L j g) i = (decide (i < L) && (!bt j i && !bt g i)) := by
  unfold opn
  rw [b_and, alL_bit hL hi, h_not _ hi, b_or]
  cases bt j i <;> cases bt g i <;> simp
theorem bt_hi (x : Int32) {i : Nat} (hi : 32 ≤ i) : bt x i = false := b_big hi
section
variable {uN xA : sx_C} {K L A B : Nat} {u v : Nat → Nat} {N : Nat}
theorem call_ok (hN : cNet uN K L A B u v) : f_X6_all uN = some (alL L) := by
  unfold f_X6_all alL
  rw [hN.2.2.2.1]
theorem mall_ok (hN : mNet xA K L A B u v) : f_X12_all xA = some (alL L) := by
  unfold f_X12_all alL
  rw [hN.2.2.2.1]
theorem copen_ok (hN : cNet uN K L A B u v) (j g : Int32) : f_X6_openOf uN j g = some (opn L j g) := by
  unfold f_X6_openOf
  rw [call_ok hN]
  rfl
theorem mopen_ok (hN : mNet xA K L A B u v) (j g : Int32) : f_X12_open xA j g = some (opn L j g) := by
  unfold f_X12_open
  rw [mall_ok hN]
  show some _ = some _
  congr 1
  refine b_ext (fun i hi => ?_)
  unfold opn
  rw [b_and, b_and, b_and, h_not _ hi, h_not _ hi, h_not _ hi, b_or]
  cases bt (alL L) i <;> cases bt j i <;> cases bt g i <;> rfl
def hld (u v : Nat → Nat) (L A B : Nat) (j g : Int32) : Int32 :=
  if la u v (bL j L) A = la u v (bL j L) B then 0 else if la u v (bL (alL L &&& (g ^^^ (-1))) L) A = la u v (bL (alL L &&& (g ^^^ (-1))) L) B then 2 else 1
theorem meet_ok (hN : cNet uN K L A B u v) {p : Int32} {f : Nat → Nat} (hp : pk p f) (hf : ∀ k, k < 8 → f k < 8) : f_X6_endsMeet uN p = some (decide (f A = f B)) := by
  obtain ⟨h1, h2, h3, h4, h5, ⟨h6, h7, h8⟩, ⟨h9, h10⟩, h11⟩ := hN
  unfold f_X6_endsMeet f_X8_together
  rw [h2, h3, num_ok hp (by omega) (hf A (by omega)), num_ok hp (by omega) (hf B (by omega))]
  show Option.bind (if nI (f A) = nI (f B) then some true else some false) _ = _
  have a := hf A (by omega)
  have b := hf B (by omega)
  by_cases h : f A = f B
  · rw [if_pos (by rw [h])]; simp [h]
  · rw [if_neg (fun h2 => h ((neq (by omega) (by omega)).mp h2))]; simp [h]
theorem la_lt8 (u v : Nat → Nat) (S : BS) : ∀ k, k < 8 → la u v S k < 8 := lb_lt8 u v S 32
theorem holder_ok (hN : cNet uN K L A B u v) (hf : 20 ≤ N) (j g : Int32) : f_X6_holder N uN j g = some (hld u v L A B j g) := by
  unfold f_X6_holder hld
  obtain ⟨p, hp1, hp2⟩ := placesBy_ok hN hf j
  rw [hp1]
  show Option.bind (f_X6_endsMeet uN p) _ = _
  rw [meet_ok hN hp2 (la_lt8 u v _)]
  show (if decide _ = true then _ else _) = _
  by_cases h : la u v (bL j L) A = la u v (bL j L) B
  · rw [if_pos (decide_eq_true h), if_pos h]
  · rw [if_neg (fun h9 => h (of_decide_eq_true h9)), if_neg h, call_ok hN]
    show Option.bind (f_X6_placesBy N uN (alL L &&& (g ^^^ (-1)))) _ = _
    obtain ⟨q, hq1, hq2⟩ := placesBy_ok hN hf (alL L &&& (g ^^^ (-1)))
    rw [hq1]
    show Option.bind (f_X6_endsMeet uN q) _ = _
    rw [meet_ok hN hq2 (la_lt8 u v _)]
    show (if decide _ = true then _ else _) = _
    by_cases h2 : la u v (bL (alL L &&& (g ^^^ (-1))) L) A = la u v (bL (alL L &&& (g ^^^ (-1))) L) B
    · rw [if_pos (decide_eq_true h2), if_pos h2]
    · rw [if_neg (fun h9 => h2 (of_decide_eq_true h9)), if_neg h2]
theorem hangs_ok (hN : mNet xA K L A B u v) (hf : 20 ≤ N) (x : Int32) (xD : sx_C) : ∃ xD', f_X12_hangs N xA x xD = some (decide (la u v (bL x L) A = la u v (bL x L) B), xD') := by
  obtain ⟨xD', h1, h2⟩ := laysParts_ok hN hf x xD
  obtain ⟨g1, g2, g3, g4, g5, ⟨g6, g7, g8⟩, ⟨g9, g10⟩, g11⟩ := id hN
  refine ⟨xD', ?_⟩
  unfold f_X12_hangs
  rw [h1]
  show Option.bind (sp_rd (ga xD' 36) 8 (gi xA 9)) _ = _
  rw [g2, g3, rd_ok (by omega) (by decide), h2 A (by omega)]
  show Option.bind (sp_rd (ga xD' 36) 8 (nI B)) _ = _
  rw [rd_ok (by omega) (by decide), h2 B (by omega)]
  show (if nI (la u v (bL x L) A) = nI (la u v (bL x L) B) then _ else _) = _
  have a := la_lt8 u v (bL x L) A (by omega)
  have b := la_lt8 u v (bL x L) B (by omega)
  by_cases h : la u v (bL x L) A = la u v (bL x L) B
  · rw [if_pos (by rw [h])]; simp [h]
  · rw [if_neg (fun h2 => h ((neq (by omega) (by omega)).mp h2))]; simp [h]
theorem mhas_ok (hN : mNet xA K L A B u v) (hf : 20 ≤ N) (j g : Int32) (xD : sx_C) : ∃ xD', f_X12_has N xA j g xD = some (hld u v L A B j g, xD') := by
  unfold f_X12_has hld
  obtain ⟨x1, h1⟩ := hangs_ok hN hf j xD
  rw [h1]
  show ∃ xD', (if decide _ = true then _ else _) = _
  by_cases h : la u v (bL j L) A = la u v (bL j L) B
  · rw [if_pos (decide_eq_true h), if_pos h]
    exact ⟨x1, rfl⟩
  · rw [if_neg (fun h9 => h (of_decide_eq_true h9)), if_neg h, mall_ok hN]
    obtain ⟨x2, h2⟩ := hangs_ok hN hf (alL L &&& (g ^^^ (-1))) x1
    show ∃ xD', Option.bind (f_X12_hangs N xA (alL L &&& (g ^^^ (-1))) x1) _ = _
    rw [h2]
    show ∃ xD', (if decide _ = true then _ else _) = _
    by_cases h3 : la u v (bL (alL L &&& (g ^^^ (-1))) L) A = la u v (bL (alL L &&& (g ^^^ (-1))) L) B
    · rw [if_pos (decide_eq_true h3), if_pos h3]; exact ⟨x2, rfl⟩
    · rw [if_neg (fun h9 => h3 (of_decide_eq_true h9)), if_neg h3]; exact ⟨x2, rfl⟩
/-! which ints are knots and lines -/
theorem int_cases (x : Int32) (n : Nat) (hn : n < 2147483648) : (x < 0 ∧ ∀ i, i < n → x ≠ nI i) ∨ (¬ x < 0 ∧ nI n ≤ x ∧ ∀ i, i < n → x ≠ nI i) ∨ ∃ i, i < n ∧ x = nI i := by
  by_cases h : x < 0
  · left
    refine ⟨h, fun i hi e => ?_⟩
    rw [Int32.lt_iff_toInt_lt, e, nI_toInt (by omega)] at h
    have : (0 : Int32).toInt = 0 := by decide
    omega
  · right
    have h0 : 0 ≤ x.toInt := by
      rw [Int32.lt_iff_toInt_lt] at h
      have : (0 : Int32).toInt = 0 := by decide
      omega
    have hx : x = nI x.toInt.toNat := by
      apply Int32.toInt_inj.mp
      have := fb_rng x
      rw [nI_toInt (by omega)]
      omega
    have hb := fb_rng x
    by_cases h2 : x.toInt.toNat < n
    · exact Or.inr ⟨_, h2, hx⟩
    · left
      refine ⟨h, ?_, fun i hi e => ?_⟩
      · rw [hx]; exact (nle (by omega) (by omega)).mpr (by omega)
      · rw [e, nI_toInt (by omega)] at h2; omega
theorem cknot_ok (hN : cNet uN K L A B u v) (x : Int32) : (f_X6_isKnot uN x = some false ∧ ∀ i, i < K → x ≠ nI i) ∨ ∃ i, i < K ∧ x = nI i ∧ f_X6_isKnot uN x = some true := by
  have hK : K < 2147483648 := by have := hN.2.2.2.2.2.1.2.1; omega
  unfold f_X6_isKnot
  rw [hN.1]
  rcases int_cases x K hK with ⟨h, h2⟩ | ⟨h, h2, h3⟩ | ⟨i, hi, rfl⟩
  · left; rw [if_pos h]; exact ⟨rfl, h2⟩
  · left; rw [if_neg h, if_pos h2]; exact ⟨rfl, h3⟩
  · right
    refine ⟨i, hi, rfl, ?_⟩
    have e0 : (0 : Int32) = nI 0 := rfl
    rw [e0, if_neg (fun h => by have := (nlt (by omega) (by omega)).mp h; omega), if_neg (fun h => by have := (nle (by omega) (by omega)).mp h; omega)]
theorem mknot_ok (hN : mNet xA K L A B u v) (x : Int32) : (f_X12_isKnot xA x = some false ∧ ∀ i, i < K → x ≠ nI i) ∨ ∃ i, i < K ∧ x = nI i ∧ f_X12_isKnot xA x = some true := by
  have hK : K < 2147483648 := by have := hN.2.2.2.2.2.1.2.1; omega
  unfold f_X12_isKnot
  rw [hN.1]
  rcases int_cases x K hK with ⟨h, h2⟩ | ⟨h, h2, h3⟩ | ⟨i, hi, rfl⟩
  · left; rw [if_pos h]; exact ⟨rfl, h2⟩
  · left; rw [if_neg h, if_pos h2]; exact ⟨rfl, h3⟩
  · right
    refine ⟨i, hi, rfl, ?_⟩
    have e0 : (0 : Int32) = nI 0 := rfl
    rw [e0, if_neg (fun h => by have := (nlt (by omega) (by omega)).mp h; omega), if_neg (fun h => by have := (nle (by omega) (by omega)).mp h; omega)]
theorem cline_ok (hN : cNet uN K L A B u v) (x : Int32) : (f_X6_isLine uN x = some false ∧ ∀ i, i < L → x ≠ nI i) ∨ ∃ i, i < L ∧ x = nI i ∧ f_X6_isLine uN x = some true := by
  have hL : L ≤ 14 := hN.2.2.2.2.2.1.2.2
  unfold f_X6_isLine
  rw [hN.2.2.2.1]
  rcases int_cases x L (by omega) with ⟨h, h2⟩ | ⟨h, h2, h3⟩ | ⟨i, hi, rfl⟩
  · left; rw [if_pos h]; exact ⟨rfl, h2⟩
  · left; rw [if_neg h, if_pos h2]; exact ⟨rfl, h3⟩
  · right
    refine ⟨i, hi, rfl, ?_⟩
    have e0 : (0 : Int32) = nI 0 := rfl
    have e14 : (14 : Int32) = nI 14 := rfl
    rw [e0, e14, if_neg (fun h => by have := (nlt (by omega) (by omega)).mp h; omega), if_neg (fun h => by have := (nle (by omega) (by omega)).mp h; omega), if_neg (fun h => by have := (nle (by omega) (by omega)).mp h; omega)]
theorem mline_ok (hN : mNet xA K L A B u v) (x : Int32) : (f_X12_isLine xA x = some false ∧ ∀ i, i < L → x ≠ nI i) ∨ ∃ i, i < L ∧ x = nI i ∧ f_X12_isLine xA x = some true := by
  have hL : L ≤ 17 := hN.2.2.2.2.2.1.2.2
  unfold f_X12_isLine
  rw [hN.2.2.2.1]
  rcases int_cases x L (by omega) with ⟨h, h2⟩ | ⟨h, h2, h3⟩ | ⟨i, hi, rfl⟩
  · left; rw [if_pos h]; exact ⟨rfl, h2⟩
  · left; rw [if_neg h, if_pos h2]; exact ⟨rfl, h3⟩
  · right
    refine ⟨i, hi, rfl, ?_⟩
    have e0 : (0 : Int32) = nI 0 := rfl
    rw [e0, if_neg (fun h => by have := (nlt (by omega) (by omega)).mp h; omega), if_neg (fun h => by have := (nle (by omega) (by omega)).mp h; omega)]
end
