/-! ===== ints as numbers and as bits ===== -/
theorem nle {a b : Nat} (ha : a < 2147483648) (hb : b < 2147483648) : nI a ≤ nI b ↔ a ≤ b := by
  rw [Int32.le_iff_toInt_le, nI_toInt ha, nI_toInt hb]; omega
theorem nlt {a b : Nat} (ha : a < 2147483648) (hb : b < 2147483648) : nI a < nI b ↔ a < b := by
  rw [Int32.lt_iff_toInt_lt, nI_toInt ha, nI_toInt hb]; omega
theorem neq {a b : Nat} (ha : a < 2147483648) (hb : b < 2147483648) : nI a = nI b ↔ a = b := by
  rw [← Int32.toInt_inj, nI_toInt ha, nI_toInt hb]; omega
theorem nadd (a b : Nat) : nI a + nI b = nI (a + b) := by
  unfold nI
  exact (Int32.ofNat_add a b).symm
theorem rd_ok {α : Type} {f : Nat → α} {N k : Nat} (h : k < N) (hN : N < 2147483648) : sp_rd f N (nI k) = some (f k) := by
  unfold sp_rd
  rw [if_pos (sp_nin h hN), nI_clamp (Nat.lt_trans h hN)]
theorem in_ok {N k : Nat} (h : k < N) (hN : N < 2147483648) : sp_in (nI k) N = true := sp_nin h hN
theorem h_ushr (x : Int32) {n : Nat} (hn : n < 32) (i : Nat) : bt (sp_ushr x (nI n)) i = bt x (n + i) := b_ushr n hn x i
theorem h_sshr (x : Int32) {n : Nat} (hn : n < 32) {i : Nat} (hi : n + i < 32) : bt (sp_shr x (nI n)) i = bt x (n + i) := by
  show bt (x >>> (nI n &&& 31)) i = _
  rw [b_sshr n hn x (by omega), if_pos hi]
theorem h_shl (x : Int32) {n : Nat} (hn : n < 32) {i : Nat} (hi : i < 32) : bt (sp_shl x (nI n)) i = (decide (n ≤ i) && bt x (i - n)) := b_shl n hn x hi
theorem b_one : ∀ i, i < 32 → bt 1 i = decide (i = 0) := by decide +kernel
theorem b_seven : ∀ i, i < 32 → bt 7 i = decide (i < 3) := by decide +kernel
theorem h_bit {n : Nat} (hn : n < 32) {i : Nat} (hi : i < 32) : bt (sp_shl 1 (nI n)) i = decide (i = n) := by
  rw [h_shl 1 hn hi, b_one _ (by omega)]
  by_cases h : n ≤ i
  · simp [h]; omega
  · simp [h]; omega
theorem h_not (x : Int32) {i : Nat} (hi : i < 32) : bt (x ^^^ (-1)) i = !bt x i := by
  rw [b_xor, b_m1 i hi]; cases bt x i <;> rfl
theorem h_nI {n : Nat} (i : Nat) (hi : i < 32) : bt (nI n) i = n.testBit i := by
  unfold bt nI
  show (BitVec.ofNat 32 n).getLsbD i = _
  rw [BitVec.getLsbD_ofNat]
  simp [hi]
theorem h_and1 (x : Int32) : x &&& 1 = 0 ↔ bt x 0 = false := by
  constructor
  · intro h
    have h1 := b_and x 1 0
    rw [h, b_0, b_one 0 (by decide)] at h1
    simpa using h1.symm
  · intro h
    refine b_ext (fun i hi => ?_)
    rw [b_and, b_0, b_one i hi]
    by_cases h2 : i = 0
    · subst h2; simp [h]
    · simp [h2]
theorem h_and1' (x : Int32) : x &&& 1 = 1 ↔ bt x 0 = true := by
  constructor
  · intro h
    have h1 := b_and x 1 0
    rw [h, b_one 0 (by decide)] at h1
    simpa using h1.symm
  · intro h
    refine b_ext (fun i hi => ?_)
    rw [b_and, b_one i hi]
    by_cases h2 : i = 0
    · subst h2; simp [h]
    · simp [h2]
theorem has_ok (x : Int32) {i : Nat} (hi : i < 32) : f_X11_has x (nI i) = some (bt x i) := by
  unfold f_X11_has
  have h := h_ushr x hi 0
  rw [Nat.add_zero] at h
  by_cases h2 : (sp_ushr x (nI i)) &&& 1 = 0
  · rw [if_pos h2]
    rw [h_and1, h] at h2
    rw [h2]
  · rw [if_neg h2]
    rw [h_and1, h] at h2
    cases h3 : bt x i
    · exact absurd h3 h2
    · rfl
theorem shr_ok (x : Int32) {i : Nat} (hi : i < 32) : ((sp_shr x (nI i)) &&& 1 = 1 ↔ bt x i = true) ∧ ((sp_shr x (nI i)) &&& 1 = 0 ↔ bt x i = false) := by
  have h := h_sshr x hi (i := 0) (by omega)
  rw [Nat.add_zero] at h
  rw [h_and1', h_and1, h]
  exact ⟨Iff.rfl, Iff.rfl⟩
/-! ===== the class's places: eight labels in one int ===== -/
def pk (p : Int32) (f : Nat → Nat) : Prop := ∀ k, k < 8 → ∀ b, b < 4 → bt p (4 * k + b) = (f k).testBit b
theorem tb_lt8 : ∀ n, n < 8 → ∀ b, 3 ≤ b → n.testBit b = false := by
  intro n hn b hb
  exact Nat.testBit_lt_two_pow (Nat.lt_of_lt_of_le hn (Nat.pow_le_pow_right (by decide) hb : 2 ^ 3 ≤ 2 ^ b))
theorem pk_apart : pk 1985229328 (fun k => k) := by
  unfold pk
  decide +kernel
theorem num_ok {p : Int32} {f : Nat → Nat} (h : pk p f) {k : Nat} (hk : k < 8) (hf : f k < 8) : f_X8_numberOf p (nI k) = some (nI (f k)) := by
  unfold f_X8_numberOf
  have e : (4 : Int32) * nI k = nI (4 * k) := by
    show nI 4 * nI k = _
    unfold nI
    exact (Int32.ofNat_mul 4 k).symm
  rw [e]
  congr 1
  refine b_ext (fun i hi => ?_)
  rw [b_and, h_ushr p (by omega) i, b_seven i hi, h_nI i hi]
  by_cases h3 : i < 3
  · rw [h k hk i (by omega)]; simp [h3]
  · rw [tb_lt8 _ hf i (by omega)]; simp [h3]
theorem each_mul : ∀ h, h < 8 → ∀ i, i < 32 → bt (nI h * 286331153) i = h.testBit (i % 4) := by decide +kernel
def sprd (s : Nat) : Int32 := nI ((if s.testBit 0 then 1 else 0) + (if s.testBit 1 then 16 else 0) + (if s.testBit 2 then 256 else 0) + (if s.testBit 3 then 4096 else 0) + (if s.testBit 4 then 65536 else 0) + (if s.testBit 5 then 1048576 else 0) + (if s.testBit 6 then 16777216 else 0) + (if s.testBit 7 then 268435456 else 0))
theorem sprd_bit : ∀ s, s < 256 → ∀ i, i < 32 → bt (sprd s) i = (s.testBit (i / 4) && decide (i % 4 = 0)) := by decide +kernel
theorem sprd_mul : ∀ s, s < 256 → ∀ d, d < 8 → ∀ i, i < 32 → bt (sprd s * nI d) i = (s.testBit (i / 4) && d.testBit (i % 4)) := by decide +kernel
theorem each_bit : ∀ i, i < 32 → bt 286331153 i = decide (i % 4 = 0) := by decide +kernel
