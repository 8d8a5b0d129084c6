/-! ===== merging: the class's by bits, the model's by rows ===== -/
def fbits (f : Nat → Nat) (h : Nat) : Nat := (if f 0 = h then 1 else 0) + (if f 1 = h then 2 else 0) + (if f 2 = h then 4 else 0) + (if f 3 = h then 8 else 0) + (if f 4 = h then 16 else 0) + (if f 5 = h then 32 else 0) + (if f 6 = h then 64 else 0) + (if f 7 = h then 128 else 0)
theorem eight_bits : ∀ b0 b1 b2 b3 b4 b5 b6 b7 : Bool, ∀ k, k < 8 → ((if b0 then 1 else 0) + (if b1 then 2 else 0) + (if b2 then 4 else 0) + (if b3 then 8 else 0) + (if b4 then 16 else 0) + (if b5 then 32 else 0) + (if b6 then 64 else 0) + (if b7 then 128 else 0)).testBit k = [b0, b1, b2, b3, b4, b5, b6, b7].getD k false := by decide +kernel
theorem fbits_lt (f : Nat → Nat) (h : Nat) : fbits f h < 256 := by
  unfold fbits
  repeat' split
  all_goals omega
theorem fbits_bit (f : Nat → Nat) (h : Nat) {k : Nat} (hk : k < 8) : (fbits f h).testBit k = decide (f k = h) := by
  have e := eight_bits (decide (f 0 = h)) (decide (f 1 = h)) (decide (f 2 = h)) (decide (f 3 = h)) (decide (f 4 = h)) (decide (f 5 = h)) (decide (f 6 = h)) (decide (f 7 = h)) k hk
  simp only [decide_eq_true_eq] at e
  unfold fbits
  rw [e]
  match k, hk with
  | 0, _ => rfl
  | 1, _ => rfl
  | 2, _ => rfl
  | 3, _ => rfl
  | 4, _ => rfl
  | 5, _ => rfl
  | 6, _ => rfl
  | 7, _ => rfl
  | k + 8, h => omega
theorem eq3 : ∀ a, a < 8 → ∀ b, b < 8 → ((a.testBit 0 ^^ b.testBit 0) || (a.testBit 1 ^^ b.testBit 1) || (a.testBit 2 ^^ b.testBit 2)) = !decide (a = b) := by decide +kernel
theorem xor8 : ∀ a, a < 8 → ∀ b, b < 8 → a ^^^ b < 8 ∧ nI a ^^^ nI b = nI (a ^^^ b) := by decide +kernel
theorem xor_tb : ∀ a, a < 8 → ∀ b, b < 8 → ∀ c, c < 4 → ((max a b).testBit c ^^ (a ^^^ b).testBit c) = (min a b).testBit c := by decide +kernel
theorem max_ok {a b : Nat} (ha : a < 8) (hb : b < 8) : f_J9_max_7cf53 (nI a) (nI b) = some (nI (max a b)) := by
  unfold f_J9_max_7cf53
  by_cases h : a < b
  · rw [if_pos ((nlt (by omega) (by omega)).mpr h), Nat.max_eq_right (by omega)]
  · rw [if_neg (fun h2 => h ((nlt (by omega) (by omega)).mp h2)), Nat.max_eq_left (by omega)]
theorem merged_ok {p : Int32} {f : Nat → Nat} (h : pk p f) (hf : ∀ k, k < 8 → f k < 8) {a b : Nat} (ha : a < 8) (hb : b < 8) : ∃ p', f_X8_merged p (nI a) (nI b) = some p' ∧ pk p' (lm f a b) := by
  unfold f_X8_merged
  rw [num_ok h ha (hf a ha), num_ok h hb (hf b hb)]
  show ∃ p', (if nI (f a) = nI (f b) then some p else _) = some p' ∧ _
  by_cases hab : f a = f b
  · rw [if_pos (by rw [hab])]
    refine ⟨p, rfl, fun k hk c hc => ?_⟩
    rw [h k hk c hc]
    unfold lm
    rw [hab, Nat.max_self, Nat.min_self]
    by_cases h2 : f k = f b <;> simp [h2]
  · rw [if_neg (fun h2 => hab ((neq (by have := hf a ha; omega) (by have := hf b hb; omega)).mp h2))]
    rw [max_ok (hf a ha) (hf b hb)]
    have hM : max (f a) (f b) < 8 := by have := hf a ha; have := hf b hb; omega
    obtain ⟨M, hMd⟩ : ∃ M, M = max (f a) (f b) := ⟨_, rfl⟩
    rw [← hMd] at hM ⊢
    show ∃ p', sp_let _ _ = some p' ∧ _
    unfold sp_let
    refine ⟨_, rfl, ?_⟩
    obtain ⟨ap, hap⟩ : ∃ ap, ap = p ^^^ (nI M * 286331153) := ⟨_, rfl⟩
    rw [← hap]
    have hapb : ∀ k, k < 8 → ∀ c, c < 4 → bt ap (4 * k + c) = ((f k).testBit c ^^ M.testBit c) := fun k hk c hc => by
      rw [hap, b_xor, h k hk c hc, each_mul M hM _ (by omega)]
      rw [show (4 * k + c) % 4 = c by omega]
    have hs : ((ap ||| sp_ushr ap 1) ||| sp_ushr ap 2) &&& 286331153 ^^^ 286331153 = sprd (fbits f M) := by
      refine b_ext (fun i hi => ?_)
      have e1 : (1 : Int32) = nI 1 := rfl
      have e2 : (2 : Int32) = nI 2 := rfl
      rw [b_xor, b_and, b_or, b_or, e1, e2, h_ushr ap (by decide), h_ushr ap (by decide), each_bit i hi, sprd_bit _ (fbits_lt f M) i hi]
      by_cases h4 : i % 4 = 0
      · have hk : i / 4 < 8 := by omega
        have hi4 : i = 4 * (i / 4) + 0 := by omega
        have b0 := hapb (i / 4) hk 0 (by decide)
        have b1 := hapb (i / 4) hk 1 (by decide)
        have b2 := hapb (i / 4) hk 2 (by decide)
        rw [show bt ap i = bt ap (4 * (i / 4) + 0) by rw [← hi4], show 1 + i = 4 * (i / 4) + 1 by omega, show 2 + i = 4 * (i / 4) + 2 by omega, b0, b1, b2, eq3 _ (hf _ hk) _ hM, fbits_bit f M hk]
        simp [h4]
      · simp [h4]
    obtain ⟨hx8, hxe⟩ := xor8 (f a) (hf a ha) (f b) (hf b hb)
    rw [show ((ap ||| sp_ushr ap 1) ||| sp_ushr ap 2) &&& 286331153 ^^^ 286331153 = sprd (fbits f M) from hs, hxe]
    intro k hk c hc
    rw [b_xor, h k hk c hc, sprd_mul _ (fbits_lt f M) _ hx8 _ (by omega)]
    rw [show (4 * k + c) / 4 = k by omega, show (4 * k + c) % 4 = c by omega, fbits_bit f M hk]
    unfold lm
    rw [← hMd]
    by_cases h5 : f k = M
    · rw [if_pos h5, h5, hMd, ← xor_tb _ (hf a ha) _ (hf b hb) c hc]
      have e9 : decide (max (f a) (f b) = max (f a) (f b)) = true := by simp
      rw [e9, Bool.true_and]
    · rw [if_neg h5]
      simp [h5]
theorem lm_lt {f : Nat → Nat} (hf : ∀ k, k < 8 → f k < 8) {a b : Nat} (ha : a < 8) (hb : b < 8) : ∀ k, k < 8 → lm f a b k < 8 := fun k hk => by
  unfold lm
  have := hf a ha
  have := hf b hb
  have := hf k hk
  by_cases h : f k = max (f a) (f b)
  · rw [if_pos h]; omega
  · rw [if_neg h]; exact hf k hk
theorem lb_lt8 (u v : Nat → Nat) (S : BS) (m : Nat) : ∀ k, k < 8 → lb u v S m k < 8 := fun k hk => Nat.lt_of_le_of_lt ((lb_ok u v S m).1 k) hk
theorem lb_stop {u v : Nat → Nat} {S : BS} {L : Nat} (h : ∀ i, L ≤ i → S i = false) : ∀ d, lb u v S (L + d) = lb u v S L
  | 0 => rfl
  | d + 1 => by
    show (if S (L + d) = true then lm (lb u v S (L + d)) (u (L + d)) (v (L + d)) else lb u v S (L + d)) = lb u v S L
    rw [if_neg (by rw [h (L + d) (by omega)]; decide)]
    exact lb_stop h d
/-- lines below L of a set of bits -/
def bL (x : Int32) (L : Nat) : BS := fun i => bt x i && decide (i < L)
theorem bL_la {u v : Nat → Nat} {x : Int32} {L : Nat} (hL : L ≤ 32) : lb u v (bL x L) L = la u v (bL x L) := by
  have h := lb_stop (u := u) (v := v) (S := bL x L) (L := L) (fun i hi => by unfold bL; simp; omega) (32 - L)
  rw [show L + (32 - L) = 32 by omega] at h
  exact h.symm
/-- the net, as the class has it -/
def cNet (uN : sx_C) (K L A B : Nat) (u v : Nat → Nat) : Prop :=
  gi uN 2 = nI K ∧ gi uN 3 = nI A ∧ gi uN 4 = nI B ∧ gi uN 5 = nI L ∧ (∀ i, i < L → ga uN 0 i = nI (u i) ∧ ga uN 1 i = nI (v i)) ∧ (2 ≤ K ∧ K ≤ 8 ∧ L ≤ 14) ∧ (A < K ∧ B < K) ∧ ∀ i, u i < K ∧ v i < K
theorem placesBy_ok {uN : sx_C} {K L A B : Nat} {u v : Nat → Nat} (hN : cNet uN K L A B u v) {N : Nat} (hf : 20 ≤ N) (x : Int32) : ∃ p, f_X6_placesBy N uN x = some p ∧ pk p (la u v (bL x L)) := by
  obtain ⟨h1, h2, h3, h4, h5, ⟨h6, h7, h8⟩, h9, h10⟩ := hN
  have loop : ∀ n i p, L - i < n → i ≤ L → pk p (lb u v (bL x L) i) → ∃ p', f_X6_placesBy_5 N uN n x p (nI i) = some p' ∧ pk p' (lb u v (bL x L) L) := by
    intro n
    induction n with
    | zero => intro i p hn; omega
    | succ n ih =>
      intro i p hn hi hp
      unfold f_X6_placesBy_5
      rw [h4]
      by_cases hc : L ≤ i
      · rw [if_pos ((nle (by omega) (by omega)).mpr hc)]
        have : i = L := by omega
        subst this
        exact ⟨p, rfl, hp⟩
      · rw [if_neg (fun h => hc ((nle (by omega) (by omega)).mp h)), if_neg (fun h => by have := (nle (a := 14) (by omega) (by omega)).mp h; omega), has_ok x (by omega)]
        show ∃ p', (if bt x i = true then _ else _) = some p' ∧ _
        have hlb : lb u v (bL x L) (i + 1) = if bt x i = true then lm (lb u v (bL x L) i) (u i) (v i) else lb u v (bL x L) i := by
          show (if bL x L i = true then _ else _) = _
          unfold bL
          have : decide (i < L) = true := by simp; omega
          rw [this, Bool.and_true]
        have e1 : nI i + 1 = nI (i + 1) := nadd i 1
        by_cases hb : bt x i = true
        · rw [if_pos hb]
          rw [rd_ok (f := ga uN 0) (by omega) (by decide), rd_ok (f := ga uN 1) (by omega) (by decide), (h5 i (by omega)).1, (h5 i (by omega)).2]
          obtain ⟨p1, hp1, hp2⟩ := merged_ok hp (lb_lt8 u v _ i) (a := u i) (b := v i) (by have := (h10 i).1; omega) (by have := (h10 i).2; omega)
          show ∃ p', Option.bind (f_X8_merged p (nI (u i)) (nI (v i))) _ = some p' ∧ _
          rw [hp1]
          show ∃ p', f_X6_placesBy_5 N uN n x p1 (nI i + 1) = some p' ∧ _
          rw [e1]
          exact ih (i + 1) p1 (by omega) (by omega) (by rw [hlb, if_pos hb]; exact hp2)
        · rw [if_neg hb]
          show ∃ p', f_X6_placesBy_5 N uN n x p (nI i + 1) = some p' ∧ _
          rw [e1]
          exact ih (i + 1) p (by omega) (by omega) (by rw [hlb, if_neg hb]; exact hp)
  obtain ⟨p, hp1, hp2⟩ := loop N 0 1985229328 (by omega) (Nat.zero_le _) pk_apart
  rw [bL_la (by omega)] at hp2
  exact ⟨p, hp1, hp2⟩
