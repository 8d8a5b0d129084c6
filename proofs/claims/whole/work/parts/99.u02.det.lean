/-! ===== sums over Int; the determinant by its first column ===== -/
def zS (f : Nat → Int) : Nat → Int
  | 0 => 0
  | n + 1 => zS f n + f n
theorem zS_cong {f g : Nat → Int} : ∀ {n : Nat}, (∀ k, k < n → f k = g k) → zS f n = zS g n
  | 0, _ => rfl
  | n + 1, h => by
    show zS f n + f n = zS g n + g n
    rw [zS_cong (fun k hk => h k (by omega)), h n (by omega)]
theorem zS_lin (c : Int) (f g : Nat → Int) : ∀ n, zS (fun k => c * f k + g k) n = c * zS f n + zS g n
  | 0 => by show (0 : Int) = c * 0 + 0; omega
  | n + 1 => by
    show zS (fun k => c * f k + g k) n + (c * f n + g n) = c * (zS f n + f n) + (zS g n + g n)
    rw [zS_lin c f g n, Int.mul_add]
    omega
theorem zS_mul (c : Int) (f : Nat → Int) : ∀ n, zS (fun k => c * f k) n = c * zS f n
  | 0 => by show (0 : Int) = c * 0; omega
  | n + 1 => by
    show zS (fun k => c * f k) n + c * f n = c * (zS f n + f n)
    rw [zS_mul c f n, Int.mul_add]
theorem zS_zero {f : Nat → Int} : ∀ {n : Nat}, (∀ k, k < n → f k = 0) → zS f n = 0
  | 0, _ => rfl
  | n + 1, h => by
    show zS f n + f n = 0
    rw [zS_zero (fun k hk => h k (by omega)), h n (by omega)]
    rfl
theorem zS_pair {f : Nat → Int} {p : Nat} : ∀ {n : Nat}, p + 1 < n → (∀ k, k < n → k ≠ p → k ≠ p + 1 → f k = 0) → f p + f (p + 1) = 0 → zS f n = 0
  | 0, h, _, _ => by omega
  | n + 1, h, h2, h3 => by
    show zS f n + f n = 0
    by_cases e : n = p + 1
    · subst e
      show zS f p + f p + f (p + 1) = 0
      rw [zS_zero (fun k hk => h2 k (by omega) (by omega) (by omega))]
      omega
    · rw [zS_pair (by omega) (fun k hk => h2 k (by omega)) h3, h2 n (by omega) (by omega) (by omega)]
      rfl
theorem zS_add (f g : Nat → Int) (n : Nat) : zS (fun k => f k + g k) n = zS f n + zS g n := by
  have := zS_lin 1 f g n
  rw [Int.one_mul] at this
  rw [← this]
  exact zS_cong (fun k _ => by rw [Int.one_mul])
theorem zS_dbl {f : Nat → Nat → Int} : ∀ n, (∀ r s, r ≤ s → s < n → f (s + 1) r = - f r s) → zS (fun r => zS (fun s => f r s) n) (n + 1) = 0
  | 0, _ => rfl
  | n + 1, h => by
    have ih := zS_dbl n (fun r s h1 h2 => h r s h1 (by omega))
    show zS (fun r => zS (fun s => f r s) n + f r n) (n + 1) + zS (fun s => f (n + 1) s) (n + 1) = 0
    rw [zS_add, ih]
    have e : zS (fun s => f (n + 1) s) (n + 1) = -1 * zS (fun r => f r n) (n + 1) := by
      rw [← zS_mul]
      exact zS_cong (fun k hk => by rw [h k n (by omega) (by omega)]; omega)
    rw [e]
    omega
def sk (r s : Nat) : Nat := if s < r then s else s + 1
def eg : Nat → Int
  | 0 => 1
  | n + 1 => - eg n
def dt : Nat → (Nat → Nat → Int) → Int
  | 0, _ => 1
  | n + 1, M => zS (fun r => eg r * M r 0 * dt n (fun i j => M (sk r i) (j + 1))) (n + 1)
theorem sk_lt {r s n : Nat} (h : s < n) : sk r s < n + 1 := by unfold sk; split <;> omega
theorem sk_ne (r s : Nat) : sk r s ≠ r := by unfold sk; split <;> omega
theorem sk_of {r p n : Nat} (hr : r < n + 1) (hp : p < n + 1) (h : r ≠ p) : ∃ p', p' < n ∧ sk r p' = p ∧ ∀ i, i ≠ p' → sk r i ≠ p := by
  by_cases hc : p < r
  · refine ⟨p, by omega, by unfold sk; rw [if_pos hc], fun i hi => ?_⟩
    unfold sk; split <;> omega
  · refine ⟨p - 1, by omega, ?_, fun i hi => ?_⟩
    · unfold sk; rw [if_neg (by omega)]; omega
    · unfold sk; split <;> omega
theorem dt_cong : ∀ {n : Nat} {M M' : Nat → Nat → Int}, (∀ i j, i < n → j < n → M i j = M' i j) → dt n M = dt n M'
  | 0, _, _, _ => rfl
  | n + 1, M, M', h => by
    unfold dt
    refine zS_cong (fun r hr => ?_)
    rw [h r 0 hr (by omega), dt_cong (n := n) (fun i j hi hj => h (sk r i) (j + 1) (sk_lt hi) (by omega))]
theorem dt_row : ∀ {n : Nat} {p : Nat} {c : Int} {M A B : Nat → Nat → Int}, p < n → (∀ j, j < n → M p j = c * A p j + B p j) → (∀ i, i < n → i ≠ p → ∀ j, j < n → M i j = A i j ∧ M i j = B i j) → dt n M = c * dt n A + dt n B
  | 0, _, _, _, _, _, h, _, _ => by omega
  | n + 1, p, c, M, A, B, hp, h1, h2 => by
    unfold dt
    rw [← zS_lin]
    refine zS_cong (fun r hr => ?_)
    by_cases e : r = p
    · subst e
      have a1 : dt n (fun i j => M (sk r i) (j + 1)) = dt n (fun i j => A (sk r i) (j + 1)) := dt_cong (fun i j hi hj => (h2 _ (sk_lt hi) (sk_ne r i) _ (by omega)).1)
      have a2 : dt n (fun i j => M (sk r i) (j + 1)) = dt n (fun i j => B (sk r i) (j + 1)) := dt_cong (fun i j hi hj => (h2 _ (sk_lt hi) (sk_ne r i) _ (by omega)).2)
      rw [← a1, ← a2, h1 0 (by omega)]
      generalize dt n (fun i j => M (sk r i) (j + 1)) = D
      grind
    · obtain ⟨p', q1, q2, q3⟩ := sk_of hr hp e
      have ih := dt_row (n := n) (p := p') (c := c) (M := fun i j => M (sk r i) (j + 1)) (A := fun i j => A (sk r i) (j + 1)) (B := fun i j => B (sk r i) (j + 1)) q1 (fun j hj => by
        show M (sk r p') (j + 1) = c * A (sk r p') (j + 1) + B (sk r p') (j + 1)
        rw [q2]; exact h1 _ (by omega)) (fun i hi hne j hj => h2 _ (sk_lt hi) (q3 i hne) _ (by omega))
      rw [ih, ← (h2 r hr e 0 (by omega)).1, ← (h2 r hr e 0 (by omega)).2]
      grind
theorem dt_col : ∀ {n : Nat} {q : Nat} {c : Int} {M A B : Nat → Nat → Int}, q < n → (∀ i, i < n → M i q = c * A i q + B i q) → (∀ i, i < n → ∀ j, j < n → j ≠ q → M i j = A i j ∧ M i j = B i j) → dt n M = c * dt n A + dt n B
  | 0, _, _, _, _, _, h, _, _ => by omega
  | n + 1, 0, c, M, A, B, hq, h1, h2 => by
    unfold dt
    rw [← zS_lin]
    refine zS_cong (fun r hr => ?_)
    have a1 : dt n (fun i j => M (sk r i) (j + 1)) = dt n (fun i j => A (sk r i) (j + 1)) := dt_cong (fun i j hi hj => (h2 _ (sk_lt hi) _ (by omega) (by omega)).1)
    have a2 : dt n (fun i j => M (sk r i) (j + 1)) = dt n (fun i j => B (sk r i) (j + 1)) := dt_cong (fun i j hi hj => (h2 _ (sk_lt hi) _ (by omega) (by omega)).2)
    rw [← a1, ← a2, h1 r hr]
    generalize dt n (fun i j => M (sk r i) (j + 1)) = D
    grind
  | n + 1, q + 1, c, M, A, B, hq, h1, h2 => by
    unfold dt
    rw [← zS_lin]
    refine zS_cong (fun r hr => ?_)
    have ih := dt_col (n := n) (q := q) (c := c) (M := fun i j => M (sk r i) (j + 1)) (A := fun i j => A (sk r i) (j + 1)) (B := fun i j => B (sk r i) (j + 1)) (by omega) (fun i hi => h1 _ (sk_lt hi)) (fun i hi j hj hne => h2 _ (sk_lt hi) _ (by omega) (by omega))
    rw [ih, ← (h2 r hr 0 (by omega) (by omega)).1, ← (h2 r hr 0 (by omega) (by omega)).2]
    grind
theorem dt_ralt : ∀ {n : Nat} {p : Nat} {M : Nat → Nat → Int}, p + 1 < n → (∀ j, j < n → M p j = M (p + 1) j) → dt n M = 0
  | 0, _, _, h, _ => by omega
  | n + 1, p, M, hp, h => by
    unfold dt
    refine zS_pair hp (fun r hr h1 h2 => ?_) ?_
    · have ih : dt n (fun i j => M (sk r i) (j + 1)) = 0 := by
        by_cases hc : r < p
        · refine dt_ralt (p := p - 1) (by omega) (fun j hj => ?_)
          have e1 : sk r (p - 1) = p := by unfold sk; rw [if_neg (by omega)]; omega
          have e2 : sk r (p - 1 + 1) = p + 1 := by unfold sk; rw [if_neg (by omega)]; omega
          show M (sk r (p - 1)) (j + 1) = M (sk r (p - 1 + 1)) (j + 1)
          rw [e1, e2]; exact h _ (by omega)
        · refine dt_ralt (p := p) (by omega) (fun j hj => ?_)
          have e1 : sk r p = p := by unfold sk; rw [if_pos (by omega)]
          have e2 : sk r (p + 1) = p + 1 := by unfold sk; rw [if_pos (by omega)]
          show M (sk r p) (j + 1) = M (sk r (p + 1)) (j + 1)
          rw [e1, e2]; exact h _ (by omega)
      show eg r * M r 0 * dt n (fun i j => M (sk r i) (j + 1)) = 0
      rw [ih, Int.mul_zero]
    · show eg p * M p 0 * dt n (fun i j => M (sk p i) (j + 1)) + eg (p + 1) * M (p + 1) 0 * dt n (fun i j => M (sk (p + 1) i) (j + 1)) = 0
      have e : dt n (fun i j => M (sk (p + 1) i) (j + 1)) = dt n (fun i j => M (sk p i) (j + 1)) := dt_cong (fun i j hi hj => by
        show M (sk (p + 1) i) (j + 1) = M (sk p i) (j + 1)
        by_cases hip : i = p
        · subst hip
          have e1 : sk (i + 1) i = i := by unfold sk; rw [if_pos (by omega)]
          have e2 : sk i i = i + 1 := by unfold sk; rw [if_neg (by omega)]
          rw [e1, e2]; exact h _ (by omega)
        · have e1 : sk (p + 1) i = sk p i := by
            unfold sk
            by_cases hc : i < p
            · rw [if_pos hc, if_pos (by omega)]
            · rw [if_neg hc, if_neg (by omega)]
          rw [e1])
      rw [e, ← h 0 (by omega)]
      show eg p * M p 0 * dt n (fun i j => M (sk p i) (j + 1)) + (- eg p) * M p 0 * dt n (fun i j => M (sk p i) (j + 1)) = 0
      generalize dt n (fun i j => M (sk p i) (j + 1)) = D
      grind
theorem dt_calt : ∀ {n : Nat} {q : Nat} {M : Nat → Nat → Int}, q + 1 < n → (∀ i, i < n → M i q = M i (q + 1)) → dt n M = 0
  | 0, _, _, h, _ => by omega
  | n + 1, q + 1, M, hq, h => by
    unfold dt
    refine zS_zero (fun r hr => ?_)
    rw [dt_calt (n := n) (q := q) (M := fun i j => M (sk r i) (j + 1)) (by omega) (fun i hi => h _ (sk_lt hi)), Int.mul_zero]
  | 1, 0, M, hq, h => by omega
  | n + 2, 0, M, hq, h => by
    have e : dt (n + 2) M = zS (fun r => zS (fun s => (eg r * M r 0) * (eg s * M (sk r s) 1 * dt n (fun i j => M (sk r (sk s i)) (j + 1 + 1)))) (n + 1)) (n + 2) := by
      show zS (fun r => eg r * M r 0 * zS (fun s => eg s * M (sk r s) (0 + 1) * dt n (fun i j => M (sk r (sk s i)) (j + 1 + 1))) (n + 1)) (n + 2) = _
      exact zS_cong (fun r _ => (zS_mul _ _ _).symm)
    rw [e]
    refine zS_dbl (n + 1) (fun r s h1 h2 => ?_)
    have e1 : sk (s + 1) r = r := by unfold sk; rw [if_pos (by omega)]
    have e2 : sk r s = s + 1 := by unfold sk; rw [if_neg (by omega)]
    have e3 : (fun i j => M (sk (s + 1) (sk r i)) (j + 1 + 1)) = fun i j => M (sk r (sk s i)) (j + 1 + 1) := by
      funext i j
      have : sk (s + 1) (sk r i) = sk r (sk s i) := by
        unfold sk
        repeat' split
        all_goals omega
      rw [this]
    rw [e1, e2, e3, ← h r (by omega), ← h (s + 1) (by omega)]
    show (- eg s) * M (s + 1) 0 * (eg r * M r 0 * dt n (fun i j => M (sk r (sk s i)) (j + 1 + 1))) = - (eg r * M r 0 * (eg s * M (s + 1) 0 * dt n (fun i j => M (sk r (sk s i)) (j + 1 + 1))))
    generalize dt n (fun i j => M (sk r (sk s i)) (j + 1 + 1)) = D
    grind
/-! ===== linear and alternating: what follows, for rows and for columns ===== -/
def FL (n : Nat) (F : (Nat → Nat → Int) → Int) : Prop :=
  (∀ (p : Nat) (c : Int) (M A B : Nat → Nat → Int), p < n → (∀ j, j < n → M p j = c * A p j + B p j) → (∀ i, i < n → i ≠ p → ∀ j, j < n → M i j = A i j ∧ M i j = B i j) → F M = c * F A + F B) ∧
  ∀ (p : Nat) (M : Nat → Nat → Int), p + 1 < n → (∀ j, j < n → M p j = M (p + 1) j) → F M = 0
theorem dt_FLr (n : Nat) : FL n (dt n) := ⟨fun _ _ _ _ _ hp h1 h2 => dt_row hp h1 h2, fun _ _ hp h => dt_ralt hp h⟩
theorem dt_FLc (n : Nat) : FL n (fun M => dt n (fun i j => M j i)) :=
  ⟨fun p c M A B hp h1 h2 => dt_col (q := p) (M := fun i j => M j i) (A := fun i j => A j i) (B := fun i j => B j i) hp h1 (fun i hi j hj hne => h2 j hj hne i hi), fun p M hp h => dt_calt (q := p) (M := fun i j => M j i) hp h⟩
def tw (M : Nat → Nat → Int) (p : Nat) (w1 w2 : Nat → Int) : Nat → Nat → Int := fun i j => if i = p then w1 j else if i = p + 1 then w2 j else M i j
def rp (M : Nat → Nat → Int) (p : Nat) (w : Nat → Int) : Nat → Nat → Int := fun i j => if i = p then w j else M i j
section
variable {n : Nat} {F : (Nat → Nat → Int) → Int}
theorem FL_cong (h : FL n F) (hn : 0 < n) {M B : Nat → Nat → Int} (hM : ∀ i, i < n → ∀ j, j < n → M i j = B i j) : F M = F B := by
  have := h.1 0 0 M M B hn (fun j hj => by rw [hM 0 hn j hj]; omega) (fun i hi _ j hj => ⟨rfl, hM i hi j hj⟩)
  rw [this]; omega
theorem FL_zero (h : FL n F) {p : Nat} (hp : p < n) {M : Nat → Nat → Int} (h0 : ∀ j, j < n → M p j = 0) : F M = 0 := by
  have := h.1 p (-1) M M M hp (fun j hj => by rw [h0 j hj]; omega) (fun i hi _ j hj => ⟨rfl, rfl⟩)
  omega
theorem tw_0 (M : Nat → Nat → Int) (p : Nat) (w1 w2 : Nat → Int) (j : Nat) : tw M p w1 w2 p j = w1 j := by unfold tw; rw [if_pos rfl]
theorem tw_1 (M : Nat → Nat → Int) (p : Nat) (w1 w2 : Nat → Int) (j : Nat) : tw M p w1 w2 (p + 1) j = w2 j := by unfold tw; rw [if_neg (by omega), if_pos rfl]
theorem tw_2 (M : Nat → Nat → Int) (p : Nat) (w1 w2 : Nat → Int) {i : Nat} (h : i ≠ p) (h2 : i ≠ p + 1) (j : Nat) : tw M p w1 w2 i j = M i j := by unfold tw; rw [if_neg h, if_neg h2]
theorem FL_sw (h : FL n F) (M : Nat → Nat → Int) {p : Nat} (hp : p + 1 < n) (w1 w2 : Nat → Int) : F (tw M p w1 w2) = - F (tw M p w2 w1) := by
  have z : ∀ w, F (tw M p w w) = 0 := fun w => h.2 p _ hp (fun j _ => by rw [tw_0, tw_1])
  have a := h.1 p 1 (tw M p (fun j => w1 j + w2 j) (fun j => w1 j + w2 j)) (tw M p w1 (fun j => w1 j + w2 j)) (tw M p w2 (fun j => w1 j + w2 j)) (by omega) (fun j _ => by rw [tw_0, tw_0, tw_0]; omega) (fun i _ hi j _ => by unfold tw; rw [if_neg hi, if_neg hi, if_neg hi]; exact ⟨rfl, rfl⟩)
  have lin2 : ∀ w, F (tw M p w (fun j => w1 j + w2 j)) = 1 * F (tw M p w w1) + F (tw M p w w2) := fun w => h.1 (p + 1) 1 _ _ _ hp (fun j _ => by rw [tw_1, tw_1, tw_1]; omega) (fun i _ hi j _ => by unfold tw; rw [if_neg hi, if_neg hi, if_neg hi]; exact ⟨rfl, rfl⟩)
  have b := lin2 w1
  have c := lin2 w2
  have z0 := z (fun j => w1 j + w2 j)
  have z1 := z w1
  have z2 := z w2
  omega
theorem FL_eq (h : FL n F) : ∀ (d p : Nat) (M : Nat → Nat → Int), p + d + 1 < n → (∀ j, j < n → M p j = M (p + d + 1) j) → F M = 0
  | 0, p, M, hp, hM => h.2 p M hp hM
  | d + 1, p, M, hp, hM => by
    have e1 : F M = F (tw M (p + d + 1) (M (p + d + 1)) (M (p + d + 1 + 1))) := FL_cong h (by omega) (fun i _ j _ => by
      unfold tw
      by_cases e : i = p + d + 1
      · rw [if_pos e, e]
      · rw [if_neg e]
        by_cases e2 : i = p + d + 1 + 1
        · rw [if_pos e2, e2]
        · rw [if_neg e2])
    have e2 : F (tw M (p + d + 1) (M (p + d + 1 + 1)) (M (p + d + 1))) = 0 := FL_eq h d p _ (by omega) (fun j hj => by
      rw [tw_2 _ _ _ _ (by omega) (by omega), tw_0]
      exact hM j hj)
    rw [e1, FL_sw h _ (by omega), e2]
    rfl
theorem FL_ne (h : FL n F) {p q : Nat} (hp : p < n) (hq : q < n) (hne : p ≠ q) {M : Nat → Nat → Int} (hM : ∀ j, j < n → M p j = M q j) : F M = 0 := by
  by_cases hc : p < q
  · exact FL_eq h (q - p - 1) p M (by omega) (fun j hj => by rw [show p + (q - p - 1) + 1 = q by omega]; exact hM j hj)
  · exact FL_eq h (p - q - 1) q M (by omega) (fun j hj => by rw [show q + (p - q - 1) + 1 = p by omega]; exact (hM j hj).symm)
theorem rp_0 (M : Nat → Nat → Int) (p : Nat) (w : Nat → Int) (j : Nat) : rp M p w p j = w j := by unfold rp; rw [if_pos rfl]
theorem rp_1 (M : Nat → Nat → Int) (p : Nat) (w : Nat → Int) {i : Nat} (h : i ≠ p) (j : Nat) : rp M p w i j = M i j := by unfold rp; rw [if_neg h]
theorem FL_many (h : FL n F) (M : Nat → Nat → Int) {a : Nat} (ha : a < n) {β : Nat → Int} (hβ : β a = 0) : F (fun i j => M i j + β i * M a j) = F M := by
  have loop : ∀ m, m ≤ n → F (fun i j => if i < m then M i j + β i * M a j else M i j) = F M := by
    intro m
    induction m with
    | zero => intro _; exact FL_cong h (by omega) (fun i _ j _ => by rw [if_neg (by omega)])
    | succ m ih =>
      intro hm
      rw [← ih (by omega)]
      by_cases e : m = a
      · refine FL_cong h (by omega) (fun i _ j _ => ?_)
        by_cases e2 : i = m
        · subst e2
          rw [if_pos (by omega), if_neg (by omega), e, hβ]
          omega
        · by_cases e3 : i < m
          · rw [if_pos e3, if_pos (by omega)]
          · rw [if_neg e3, if_neg (by omega)]
      · have z : F (rp (fun i j => if i < m then M i j + β i * M a j else M i j) m (M a)) = 0 := FL_ne h (p := m) (q := a) (by omega) ha e (fun j _ => by
          rw [rp_0, rp_1 _ _ _ (fun h9 => e h9.symm)]
          show M a j = if a < m then M a j + β a * M a j else M a j
          rw [hβ]
          split <;> omega)
        have := h.1 m (β m) (fun i j => if i < m + 1 then M i j + β i * M a j else M i j) (rp (fun i j => if i < m then M i j + β i * M a j else M i j) m (M a)) (fun i j => if i < m then M i j + β i * M a j else M i j) (by omega) (fun j _ => by
          rw [rp_0]
          show (if m < m + 1 then M m j + β m * M a j else M m j) = β m * M a j + (if m < m then M m j + β m * M a j else M m j)
          rw [if_pos (by omega), if_neg (by omega)]
          omega) (fun i _ hi j _ => by
          rw [rp_1 _ _ _ hi]
          show (if i < m + 1 then M i j + β i * M a j else M i j) = (if i < m then M i j + β i * M a j else M i j) ∧ (if i < m + 1 then M i j + β i * M a j else M i j) = (if i < m then M i j + β i * M a j else M i j)
          by_cases e3 : i < m
          · rw [if_pos e3, if_pos (by omega)]; exact ⟨rfl, rfl⟩
          · rw [if_neg e3, if_neg (by omega)]; exact ⟨rfl, rfl⟩)
        rw [this, z]
        omega
  rw [← loop n (Nat.le_refl _)]
  exact FL_cong h (by omega) (fun i hi j _ => by rw [if_pos hi])
theorem FL_comb (h : FL n F) (X : Nat → Nat → Int) {k : Nat} (hk : k < n) (c : Int) (z : Nat → Int) : ∀ m, m ≤ k → F (rp X k (fun j => c * X k j + zS (fun r => z r * X r j) m)) = c * F X
  | 0, _ => by
    have z0 : F (rp X k (fun _ => 0)) = 0 := FL_zero h hk (fun j _ => by rw [rp_0])
    have := h.1 k c (rp X k (fun j => c * X k j + zS (fun r => z r * X r j) 0)) X (rp X k (fun _ => 0)) hk (fun j _ => by rw [rp_0, rp_0]; rfl) (fun i _ hi j _ => by rw [rp_1 _ _ _ hi, rp_1 _ _ _ hi]; exact ⟨rfl, rfl⟩)
    rw [this, z0, Int.add_zero]
  | m + 1, hm => by
    have ih := FL_comb h X hk c z m (by omega)
    have z0 : F (rp X k (X m)) = 0 := FL_ne h (p := k) (q := m) hk (by omega) (by omega) (fun j _ => by rw [rp_0, rp_1 _ _ _ (by omega)])
    have := h.1 k (z m) (rp X k (fun j => c * X k j + zS (fun r => z r * X r j) (m + 1))) (rp X k (X m)) (rp X k (fun j => c * X k j + zS (fun r => z r * X r j) m)) hk (fun j _ => by
      rw [rp_0, rp_0, rp_0]
      show c * X k j + (zS (fun r => z r * X r j) m + z m * X m j) = z m * X m j + (c * X k j + zS (fun r => z r * X r j) m)
      omega) (fun i _ hi j _ => by rw [rp_1 _ _ _ hi, rp_1 _ _ _ hi, rp_1 _ _ _ hi]; exact ⟨rfl, rfl⟩)
    rw [this, z0, ih, Int.mul_zero, Int.zero_add]
end
