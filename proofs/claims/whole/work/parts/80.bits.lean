/-! ===== the count of bits, as the JDK does it ===== -/
def dV (w : Nat) (d : Nat → Nat) : Nat → Nat
  | 0 => 0
  | n + 1 => dV w d n + d n * 2 ^ (w * n)
theorem dV_lt {w : Nat} {d : Nat → Nat} (hd : ∀ j, d j < 2 ^ w) : ∀ n, dV w d n < 2 ^ (w * n)
  | 0 => by show 0 < 2 ^ (w * 0); simp
  | n + 1 => by
    show dV w d n + d n * 2 ^ (w * n) < 2 ^ (w * (n + 1))
    have h1 := dV_lt hd n
    have h2 : d n + 1 ≤ 2 ^ w := hd n
    have h3 : (d n + 1) * 2 ^ (w * n) ≤ 2 ^ w * 2 ^ (w * n) := Nat.mul_le_mul_right _ h2
    rw [Nat.add_mul, Nat.one_mul] at h3
    rw [Nat.mul_add, Nat.mul_one, Nat.pow_add, Nat.mul_comm (2 ^ (w * n))]
    omega
theorem dV_bit {w : Nat} (hw : 0 < w) {d : Nat → Nat} (hd : ∀ j, d j < 2 ^ w) (i : Nat) : ∀ n, (dV w d n).testBit i = (decide (i < w * n) && (d (i / w)).testBit (i % w))
  | 0 => by show Nat.testBit 0 i = _; simp
  | n + 1 => by
    show (dV w d n + d n * 2 ^ (w * n)).testBit i = _
    rw [Nat.add_comm, Nat.mul_comm, Nat.testBit_two_pow_mul_add _ (dV_lt hd n), dV_bit hw hd i n]
    have e : w * (n + 1) = w * n + w := by rw [Nat.mul_add, Nat.mul_one]
    by_cases h1 : i < w * n
    · have h2 : i < w * (n + 1) := by omega
      simp [h1, h2]
    · rw [if_neg h1]
      by_cases h2 : i < w * (n + 1)
      · have h3 : i / w = n := Nat.div_eq_of_lt_le (by rw [Nat.mul_comm]; omega) (by rw [Nat.mul_comm]; exact h2)
        have h4 : i % w = i - w * n := by
          have := Nat.div_add_mod i w
          rw [h3] at this
          omega
        rw [h3, h4]; simp [h2]
      · have h3 : (d n).testBit (i - w * n) = false := Nat.testBit_lt_two_pow (Nat.lt_of_lt_of_le (hd n) (Nat.pow_le_pow_right (by decide) (by omega)))
        rw [h3]; simp [h2]
theorem dV_add (w : Nat) (d e : Nat → Nat) : ∀ n, dV w (fun j => d j + e j) n = dV w d n + dV w e n
  | 0 => rfl
  | n + 1 => by
    show dV w (fun j => d j + e j) n + (d n + e n) * 2 ^ (w * n) = dV w d n + d n * 2 ^ (w * n) + (dV w e n + e n * 2 ^ (w * n))
    rw [dV_add w d e n, Nat.add_mul]
    omega
theorem dV_two (w : Nat) (d : Nat → Nat) : ∀ n, dV w d (2 * n) = dV (2 * w) (fun j => d (2 * j) + 2 ^ w * d (2 * j + 1)) n
  | 0 => rfl
  | n + 1 => by
    show dV w d (2 * n) + d (2 * n) * 2 ^ (w * (2 * n)) + d (2 * n + 1) * 2 ^ (w * (2 * n + 1)) = dV (2 * w) _ n + (d (2 * n) + 2 ^ w * d (2 * n + 1)) * 2 ^ (2 * w * n)
    rw [dV_two w d n, show w * (2 * n + 1) = w * (2 * n) + w by rw [Nat.mul_add, Nat.mul_one], Nat.pow_add, show 2 * w * n = w * (2 * n) by rw [Nat.mul_comm 2 w, Nat.mul_assoc], Nat.add_mul, Nat.add_assoc]
    congr 2
    rw [Nat.mul_comm (2 ^ w), Nat.mul_assoc, Nat.mul_comm (2 ^ w)]
theorem nsub (a b : Nat) : nI (a + b) - nI b = nI a := by rw [← nadd, Int32.add_sub_cancel]
theorem m55 : ∀ i, i < 32 → bt 1431655765 i = decide (i % 2 = 0) := by decide +kernel
theorem m33 : ∀ i, i < 32 → bt 858993459 i = decide (i % 4 < 2) := by decide +kernel
theorem m0f : ∀ i, i < 32 → bt 252645135 i = decide (i % 8 < 4) := by decide +kernel
theorem m63 : ∀ i, i < 32 → bt 63 i = decide (i < 6) := by decide +kernel
theorem tb_small {a k i : Nat} (h : a < 2 ^ k) (hi : k ≤ i) : a.testBit i = false := Nat.testBit_lt_two_pow (Nat.lt_of_lt_of_le h (Nat.pow_le_pow_right (by decide) hi))
theorem bitCount_ok (x : Int32) : f_J6_bitCount_0f7a4 x = some (nI (qc (bt x))) := by
  obtain ⟨b, hb⟩ : ∃ b : Nat → Nat, b = fun j => if bt x j = true then 1 else 0 := ⟨_, rfl⟩
  have hb1 : ∀ j, b j < 2 ^ 1 := fun j => by rw [hb]; dsimp only; split <;> omega
  have hbt : ∀ j, (b j).testBit 0 = bt x j := fun j => by
    rw [hb]
    dsimp only
    cases h : bt x j <;> simp
  have hx : x = nI (dV 1 b 32) := b_ext (fun i hi => by
    rw [h_nI i hi, dV_bit (by decide) hb1, Nat.div_one, Nat.mod_one, hbt]
    simp [hi])
  obtain ⟨c, hc⟩ : ∃ c : Nat → Nat, c = fun j => b (2 * j) + b (2 * j + 1) := ⟨_, rfl⟩
  have hc1 : ∀ j, c j < 2 ^ 2 := fun j => by rw [hc]; have := hb1 (2 * j); have := hb1 (2 * j + 1); dsimp only; omega
  have hb2 : ∀ j, b (2 * j + 1) < 2 ^ 2 := fun j => by have := hb1 (2 * j + 1); omega
  have t1 : (sp_ushr x 1) &&& 1431655765 = nI (dV 2 (fun j => b (2 * j + 1)) 16) := b_ext (fun i hi => by
    rw [b_and, show (1 : Int32) = nI 1 from rfl, h_ushr x (by decide), m55 i hi, h_nI i hi, dV_bit (by decide) hb2]
    by_cases h : i % 2 = 0
    · rw [show 2 * (i / 2) + 1 = 1 + i by omega, h, hbt]
      simp; omega
    · rw [tb_small (hb1 (2 * (i / 2) + 1)) (by omega)]
      simp [h])
  have v1 : x - ((sp_ushr x 1) &&& 1431655765) = nI (dV 2 c 16) := by
    rw [t1, hx, dV_two 1 b 16, show (fun j => b (2 * j) + 2 ^ 1 * b (2 * j + 1)) = fun j => c j + b (2 * j + 1) from funext (fun j => by rw [hc]; dsimp only; omega), dV_add, nsub]
  have t2 : nI (dV 2 c 16) &&& 858993459 = nI (dV 4 (fun j => c (2 * j)) 8) := b_ext (fun i hi => by
    rw [b_and, h_nI i hi, h_nI i hi, m33 i hi, dV_bit (by decide) hc1, dV_bit (by decide) (fun j => Nat.lt_of_lt_of_le (hc1 (2 * j)) (by decide))]
    by_cases h : i % 4 < 2
    · rw [show 2 * (i / 4) = i / 2 by omega, show i % 4 = i % 2 by omega]
      have : i % 2 < 2 := by omega
      simp [this]
    · rw [tb_small (hc1 (2 * (i / 4))) (by omega : 2 ≤ i % 4)]
      simp [h])
  have t3 : (sp_ushr (nI (dV 2 c 16)) 2) &&& 858993459 = nI (dV 4 (fun j => c (2 * j + 1)) 8) := b_ext (fun i hi => by
    rw [b_and, show (2 : Int32) = nI 2 from rfl, h_ushr _ (by decide), h_nI i hi, m33 i hi, dV_bit (by decide) (fun j => Nat.lt_of_lt_of_le (hc1 (2 * j + 1)) (by decide))]
    by_cases h : i % 4 < 2
    · rw [h_nI _ (by omega), dV_bit (by decide) hc1, show (2 + i) / 2 = 2 * (i / 4) + 1 by omega, show (2 + i) % 2 = i % 4 by omega]
      have a1 : 2 + i < 2 * 16 := by omega
      have a2 : i < 4 * 8 := by omega
      simp [h, a1, a2]
    · rw [tb_small (hc1 (2 * (i / 4) + 1)) (by omega : 2 ≤ i % 4)]
      simp [h])
  obtain ⟨e, he⟩ : ∃ e : Nat → Nat, e = fun j => c (2 * j) + c (2 * j + 1) := ⟨_, rfl⟩
  have hcc : ∀ j, c j ≤ 2 := fun j => by rw [hc]; have := hb1 (2 * j); have := hb1 (2 * j + 1); dsimp only; omega
  have he4 : ∀ j, e j ≤ 4 := fun j => by rw [he]; have := hcc (2 * j); have := hcc (2 * j + 1); dsimp only; omega
  have y1 : (nI (dV 2 c 16) &&& 858993459) + ((sp_ushr (nI (dV 2 c 16)) 2) &&& 858993459) = nI (dV 4 e 8) := by
    rw [t2, t3, nadd, ← dV_add, he]
  have he1 : ∀ j, e j < 2 ^ 4 := fun j => by have := he4 j; omega
  obtain ⟨e', he'⟩ : ∃ e' : Nat → Nat, e' = fun j => if j < 7 then e (j + 1) else 0 := ⟨_, rfl⟩
  have he'4 : ∀ j, e' j ≤ 4 := fun j => by rw [he']; dsimp only; split; exact he4 _; omega
  have t4 : sp_ushr (nI (dV 4 e 8)) 4 = nI (dV 4 e' 8) := b_ext (fun i hi => by
    rw [show (4 : Int32) = nI 4 from rfl, h_ushr _ (by decide), h_nI i hi, dV_bit (by decide) (fun j => by have := he'4 j; omega)]
    by_cases h : 4 + i < 32
    · rw [h_nI _ h, dV_bit (by decide) he1, he']
      dsimp only
      rw [if_pos (by omega), show (4 + i) / 4 = i / 4 + 1 by omega, show (4 + i) % 4 = i % 4 by omega]
      have a1 : 4 + i < 4 * 8 := by omega
      have a2 : i < 4 * 8 := by omega
      simp [a1, a2]
    · rw [b_big (by omega), he']
      dsimp only
      rw [if_neg (by omega)]
      simp)
  obtain ⟨f, hf⟩ : ∃ f : Nat → Nat, f = fun j => e j + e' j := ⟨_, rfl⟩
  have hf8 : ∀ j, f j ≤ 8 := fun j => by rw [hf]; have := he4 j; have := he'4 j; dsimp only; omega
  have z1 : (nI (dV 4 e 8) + sp_ushr (nI (dV 4 e 8)) 4) &&& 252645135 = nI (dV 8 (fun j => f (2 * j)) 4) := by
    rw [t4, nadd, ← dV_add, ← hf]
    exact b_ext (fun i hi => by
      rw [b_and, h_nI i hi, h_nI i hi, m0f i hi, dV_bit (by decide) (fun j => by have := hf8 j; omega), dV_bit (by decide) (fun j => by have := hf8 (2 * j); omega)]
      by_cases h : i % 8 < 4
      · rw [show 2 * (i / 8) = i / 4 by omega, show i % 8 = i % 4 by omega]
        have : i % 4 < 4 := by omega
        simp [this]
      · rw [tb_small (k := 4) (by have := hf8 (2 * (i / 8)); omega) (by omega : 4 ≤ i % 8)]
        simp [h])
  obtain ⟨g, hg⟩ : ∃ g : Nat → Nat, g = fun j => f (2 * j) := ⟨_, rfl⟩
  have hg8 : ∀ j, g j ≤ 8 := fun j => by rw [hg]; exact hf8 _
  obtain ⟨g', hg'⟩ : ∃ g' : Nat → Nat, g' = fun j => if j < 3 then g (j + 1) else 0 := ⟨_, rfl⟩
  have hg'8 : ∀ j, g' j ≤ 8 := fun j => by rw [hg']; dsimp only; split; exact hg8 _; omega
  have t5 : sp_ushr (nI (dV 8 g 4)) 8 = nI (dV 8 g' 4) := b_ext (fun i hi => by
    rw [show (8 : Int32) = nI 8 from rfl, h_ushr _ (by decide), h_nI i hi, dV_bit (by decide) (fun j => by have := hg'8 j; omega)]
    by_cases h : 8 + i < 32
    · rw [h_nI _ h, dV_bit (by decide) (fun j => by have := hg8 j; omega), hg']
      dsimp only
      rw [if_pos (by omega), show (8 + i) / 8 = i / 8 + 1 by omega, show (8 + i) % 8 = i % 8 by omega]
      have a1 : 8 + i < 8 * 4 := by omega
      have a2 : i < 8 * 4 := by omega
      simp [a1, a2]
    · rw [b_big (by omega), hg']
      dsimp only
      rw [if_neg (by omega)]
      simp)
  obtain ⟨h, hh⟩ : ∃ h : Nat → Nat, h = fun j => g j + g' j := ⟨_, rfl⟩
  have hh16 : ∀ j, h j ≤ 16 := fun j => by rw [hh]; have := hg8 j; have := hg'8 j; dsimp only; omega
  obtain ⟨h', hh'⟩ : ∃ h' : Nat → Nat, h' = fun j => if j < 2 then h (j + 2) else 0 := ⟨_, rfl⟩
  have hh'16 : ∀ j, h' j ≤ 16 := fun j => by rw [hh']; dsimp only; split; exact hh16 _; omega
  have t6 : sp_ushr (nI (dV 8 h 4)) 16 = nI (dV 8 h' 4) := b_ext (fun i hi => by
    rw [show (16 : Int32) = nI 16 from rfl, h_ushr _ (by decide), h_nI i hi, dV_bit (by decide) (fun j => by have := hh'16 j; omega)]
    by_cases hq : 16 + i < 32
    · rw [h_nI _ hq, dV_bit (by decide) (fun j => by have := hh16 j; omega), hh']
      dsimp only
      rw [if_pos (by omega), show (16 + i) / 8 = i / 8 + 2 by omega, show (16 + i) % 8 = i % 8 by omega]
      have a1 : 16 + i < 8 * 4 := by omega
      have a2 : i < 8 * 4 := by omega
      simp [a1, a2]
    · rw [b_big (by omega), hh']
      dsimp only
      rw [if_neg (by omega)]
      simp)
  have t7 : nI (dV 8 (fun j => h j + h' j) 4) &&& 63 = nI (h 0 + h' 0) := b_ext (fun i hi => by
    have hk : ∀ j, h j + h' j ≤ 32 := fun j => by have := hh16 j; have := hh'16 j; omega
    rw [b_and, h_nI i hi, h_nI i hi, m63 i hi, dV_bit (by decide) (fun j => by have := hk j; omega)]
    by_cases hq : i < 6
    · rw [show i / 8 = 0 by omega, show i % 8 = i by omega]
      have a2 : i < 8 * 4 := by omega
      simp [hq, a2]
    · rw [tb_small (a := h 0 + h' 0) (k := 6) (by have := hk 0; omega) (by omega)]
      simp [hq])
  unfold f_J6_bitCount_0f7a4 sp_let
  rw [v1, y1]
  dsimp only
  rw [z1, ← hg, t5, nadd, ← dV_add, ← hh, t6, nadd, ← dV_add, t7]
  have k0 : h 0 + h' 0 = qc (bt x) := by
    have q1 : h 0 + h' 0 = (g 0 + g 1) + (g 2 + g 3) := by rw [hh', hh, hg']; rfl
    have q2 : ∀ j, j < 4 → g j = e (2 * j) + e (2 * j + 1) := fun j hj => by
      rw [hg, hf, he']
      dsimp only
      rw [if_pos (by omega)]
    have q3 : ∀ j, e j = b (4 * j) + b (4 * j + 1) + (b (4 * j + 2) + b (4 * j + 3)) := fun j => by
      rw [he, hc]
      dsimp only
      rw [show 2 * (2 * j) = 4 * j by omega, show 2 * (2 * j + 1) = 4 * j + 2 by omega]
    have q4 : qc (bt x) = b 0 + b 1 + b 2 + b 3 + b 4 + b 5 + b 6 + b 7 + b 8 + b 9 + b 10 + b 11 + b 12 + b 13 + b 14 + b 15 + b 16 + b 17 + b 18 + b 19 + b 20 + b 21 + b 22 + b 23 + b 24 + b 25 + b 26 + b 27 + b 28 + b 29 + b 30 + b 31 := by
      rw [hb]
      show 0 + _ + _ + _ + _ + _ + _ + _ + _ + _ + _ + _ + _ + _ + _ + _ + _ + _ + _ + _ + _ + _ + _ + _ + _ + _ + _ + _ + _ + _ + _ + _ + _ = _
      rw [Nat.zero_add]
    rw [q1, q2 0 (by omega), q2 1 (by omega), q2 2 (by omega), q2 3 (by omega), q4]
    simp only [q3, Nat.reduceMul, Nat.reduceAdd]
    omega
  rw [k0]
