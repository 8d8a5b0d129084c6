/-! ===== all subsets of a mask, downwards and upwards ===== -/
def sbs (t m : Nat) : Prop := t &&& m = t
theorem and_half (x y : Nat) : x &&& y = 2 * ((x / 2) &&& (y / 2)) + (if x % 2 = 1 ∧ y % 2 = 1 then 1 else 0) := by
  have h1 := Nat.and_div_two (a := x) (b := y)
  have h2 := Nat.and_mod_two_eq_one (a := x) (b := y)
  have h3 := Nat.div_add_mod (x &&& y) 2
  by_cases h : x % 2 = 1 ∧ y % 2 = 1
  · rw [if_pos h]
    have := h2.mpr h
    omega
  · rw [if_neg h]
    have : ¬ (x &&& y) % 2 = 1 := fun e => h (h2.mp e)
    omega
theorem sbs_half {t m : Nat} (h : sbs t m) : sbs (t / 2) (m / 2) ∧ (t % 2 = 1 → m % 2 = 1) := by
  unfold sbs at *
  have h1 := and_half t m
  rw [h] at h1
  have h2 := Nat.and_div_two (a := t) (b := m)
  rw [h] at h2
  refine ⟨h2.symm, fun h3 => ?_⟩
  by_cases h4 : m % 2 = 1
  · exact h4
  · rw [if_neg (fun e => h4 e.2)] at h1; omega
theorem sbs_le {t m : Nat} (h : sbs t m) : t ≤ m := by
  unfold sbs at h
  rw [← h]
  exact Nat.and_le_right
theorem sbs_and (x m : Nat) : sbs (x &&& m) m := by
  unfold sbs
  rw [Nat.and_assoc, Nat.and_self]
theorem sbs_iff {t m : Nat} : sbs t m ↔ ∀ i, t.testBit i = true → m.testBit i = true := by
  constructor
  · intro h i hi
    unfold sbs at h
    rw [← h, Nat.testBit_and] at hi
    simp at hi
    exact hi.2
  · intro h
    unfold sbs
    apply Nat.eq_of_testBit_eq
    intro i
    rw [Nat.testBit_and]
    cases hi : t.testBit i
    · rfl
    · rw [h i hi]; rfl
/-- downwards: none is left out -/
theorem sub_down : ∀ k (a m t : Nat), a < 2 ^ k → sbs a m → sbs t m → t < a → t ≤ (a - 1) &&& m
  | 0, a, m, t, ha, _, _, ht => by
    simp at ha; omega
  | k + 1, a, m, t, ha, hs, hts, ht => by
    obtain ⟨s1, s2⟩ := sbs_half hs
    obtain ⟨t1, t2⟩ := sbs_half hts
    have hp : 2 ^ (k + 1) = 2 * 2 ^ k := by rw [Nat.pow_succ]; omega
    rw [and_half]
    by_cases h : a % 2 = 1
    · have e : (a - 1) / 2 = a / 2 := by omega
      have e2 : ¬ (a - 1) % 2 = 1 := by omega
      rw [e, if_neg (fun x => e2 x.1), s1]
      omega
    · have e : (a - 1) / 2 = a / 2 - 1 := by omega
      have e2 : (a - 1) % 2 = 1 := by omega
      have ih := sub_down k (a / 2) (m / 2) (t / 2) (by omega) s1 t1 (by omega)
      rw [e]
      by_cases h3 : t % 2 = 1
      · rw [if_pos ⟨e2, t2 h3⟩]; omega
      · split <;> omega
theorem sub_pred {a m : Nat} (ha : 0 < a) : (a - 1) &&& m < a := by
  have := Nat.and_le_left (n := a - 1) (m := m)
  omega
theorem sub_fill : ∀ k (a m : Nat), m < 2 ^ k → sbs a m → (a + 2 ^ k - 1 - m) &&& m = a
  | 0, a, m, hm, hs => by
    have := sbs_le hs
    simp at hm
    have e : a = 0 := by omega
    subst hm e
    rfl
  | k + 1, a, m, hm, hs => by
    obtain ⟨s1, s2⟩ := sbs_half hs
    have hle := sbs_le hs
    have hle2 := sbs_le s1
    have hp : 2 ^ (k + 1) = 2 * 2 ^ k := by rw [Nat.pow_succ]; omega
    have ih := sub_fill k (a / 2) (m / 2) (by omega) s1
    rw [and_half]
    have e : (a + 2 ^ (k + 1) - 1 - m) / 2 = a / 2 + 2 ^ k - 1 - m / 2 := by
      by_cases h : a % 2 = 1
      · have := s2 h; omega
      · by_cases h2 : m % 2 = 1 <;> omega
    rw [e, ih]
    by_cases h : a % 2 = 1
    · have h2 := s2 h
      rw [if_pos ⟨by omega, h2⟩]; omega
    · by_cases h2 : m % 2 = 1
      · rw [if_neg (fun x => by omega)]; omega
      · rw [if_neg (fun x => h2 x.2)]; omega
/-- upwards: none is left out -/
theorem sub_up : ∀ k (a m t : Nat), m < 2 ^ k → sbs a m → sbs t m → a < t → a < (a + 2 ^ k - m) &&& m ∧ (a + 2 ^ k - m) &&& m ≤ t
  | 0, a, m, t, hm, hs, hts, ht => by
    have := sbs_le hts
    simp at hm; omega
  | k + 1, a, m, t, hm, hs, hts, ht => by
    obtain ⟨s1, s2⟩ := sbs_half hs
    obtain ⟨t1, t2⟩ := sbs_half hts
    have hle := sbs_le hs
    have hle2 := sbs_le s1
    have hp : 2 ^ (k + 1) = 2 * 2 ^ k := by rw [Nat.pow_succ]; omega
    rw [and_half]
    by_cases h : a % 2 = 1
    · have h2 := s2 h
      have ih := sub_up k (a / 2) (m / 2) (t / 2) (by omega) s1 t1 (by omega)
      have e : (a + 2 ^ (k + 1) - m) / 2 = a / 2 + 2 ^ k - m / 2 := by omega
      rw [e, if_neg (fun x => by omega)]
      omega
    · by_cases h2 : m % 2 = 1
      · have e : (a + 2 ^ (k + 1) - m) / 2 = a / 2 + 2 ^ k - 1 - m / 2 := by omega
        rw [e, sub_fill k (a / 2) (m / 2) (by omega) s1, if_pos ⟨by omega, h2⟩]
        omega
      · have ht2 : ¬ t % 2 = 1 := fun x => h2 (t2 x)
        have ih := sub_up k (a / 2) (m / 2) (t / 2) (by omega) s1 t1 (by omega)
        have e : (a + 2 ^ (k + 1) - m) / 2 = a / 2 + 2 ^ k - m / 2 := by omega
        rw [e, if_neg (fun x => h2 x.2)]
        omega
/-! .. as ints -/
theorem int_down {a m : Nat} (ha : 0 < a) : (nI a - 1) &&& nI m = nI ((a - 1) &&& m) := by
  have e : nI a - 1 = nI (a - 1) := by
    have := nsub (a - 1) 1
    rw [show a - 1 + 1 = a by omega] at this
    exact this
  rw [e, fa_and]
theorem int_up {a m : Nat} (hm : m < 2 ^ 32) : (nI a - nI m) &&& nI m = nI ((a + 2 ^ 32 - m) &&& m) := by
  have e : nI a - nI m = nI (a + 2 ^ 32 - m) := by
    have h1 := nsub (a + 2 ^ 32 - m) m
    rw [show a + 2 ^ 32 - m + m = a + 2 ^ 32 by omega] at h1
    rw [← h1, ← nadd a]
    have : nI (2 ^ 32) = 0 := by decide
    rw [this, Int32.add_zero]
  rw [e, fa_and]
theorem up_end {m : Nat} (hm : m < 2 ^ 32) : (m + 2 ^ 32 - m) &&& m = 0 := by
  rw [show m + 2 ^ 32 - m = 2 ^ 32 by omega]
  apply Nat.eq_of_testBit_eq
  intro i
  rw [Nat.testBit_and, Nat.testBit_two_pow, Nat.zero_testBit]
  by_cases h : 32 = i
  · subst h
    rw [tb_small hm (Nat.le_refl _)]; simp
  · simp [h]
/-- counting: what lies between counts nothing -/
theorem ct_gap {p : Nat → Bool} {a b : Nat} (h : a ≤ b) (h2 : ∀ t, a ≤ t → t < b → p t = false) : fb_ct p b = fb_ct p a := by
  obtain ⟨d, rfl⟩ : ∃ d, b = a + d := ⟨b - a, by omega⟩
  have hz : fb_ct (fun k => p (a + k)) d = 0 := fb_ct_zero.mpr (fun k hk => h2 (a + k) (by omega) (by omega))
  rw [fb_ct_split, hz]
  rfl
theorem nz {a : Nat} (ha : a < 2147483648) : nI a = 0 ↔ a = 0 := neq (b := 0) ha (by omega)
theorem nz1 {a : Nat} (ha : a < 2147483648) : nI a = 1 ↔ a = 1 := neq (b := 1) ha (by omega)
theorem nz2 {a : Nat} (ha : a < 2147483648) : nI a = 2 ↔ a = 2 := neq (b := 2) ha (by omega)
