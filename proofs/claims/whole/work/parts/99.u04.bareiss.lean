/-! ===== the determinant without fractions ===== -/
def bo (M : Nat → Nat → Int) (k i j : Nat) : Nat → Nat → Int := fun r s => M (if r < k then r else i) (if s < k then s else j)
def tt (M : Nat → Nat → Int) (k i j : Nat) : Int := dt (k + 1) (bo M k i j)
def Cm (M : Nat → Nat → Int) (k i : Nat) (c : Int) (w : Nat → Int) : Prop := ∃ z : Nat → Int, ∀ j, w j = c * M i j + zS (fun r => z r * M r j) k
theorem tt_0 (M : Nat → Nat → Int) (i j : Nat) : tt M 0 i j = M i j := by
  show (0 : Int) + 1 * M i j * 1 = M i j
  omega
theorem tt_d (M : Nat → Nat → Int) (k : Nat) : tt M k k k = dt (k + 1) M := dt_cong (fun i j hi hj => by
  unfold bo
  have e1 : (if i < k then i else k) = i := by split <;> omega
  have e2 : (if j < k then j else k) = j := by split <;> omega
  rw [e1, e2])
theorem ev_t {M : Nat → Nat → Int} {k i : Nat} {c : Int} {w : Nat → Int} (h : Cm M k i c w) (h0 : ∀ j, j < k → w j = 0) (j : Nat) : c * tt M k i j = w j * dt k M := by
  obtain ⟨z, hz⟩ := h
  have h1 := FL_comb (dt_FLr (k + 1)) (bo M k i j) (k := k) (by omega) c z k (Nat.le_refl _)
  have hk : ∀ s, bo M k i j k s = M i (if s < k then s else j) := fun s => by unfold bo; rw [if_neg (Nat.lt_irrefl k)]
  have hr : ∀ r, r < k → ∀ s, bo M k i j r s = M r (if s < k then s else j) := fun r h s => by unfold bo; rw [if_pos h]
  have hw : ∀ s, c * bo M k i j k s + zS (fun r => z r * bo M k i j r s) k = w (if s < k then s else j) := fun s => by
    rw [hz, hk, zS_cong (fun r h9 => by rw [hr r h9])]
  have h2 := dt_last k (rp (bo M k i j) k (fun s => c * bo M k i j k s + zS (fun r => z r * bo M k i j r s) k)) (fun s hs => by
    rw [rp_0, hw, if_pos hs]; exact h0 s hs)
  rw [rp_0, hw, if_neg (Nat.lt_irrefl k)] at h2
  have h3 : dt k (rp (bo M k i j) k (fun s => c * bo M k i j k s + zS (fun r => z r * bo M k i j r s) k)) = dt k M := dt_cong (fun r s h4 h5 => by
    rw [rp_1 _ _ _ (by omega), hr r h4, if_pos h5])
  rw [h3] at h2
  unfold tt
  rw [← h1, h2]
def bS (M : Nat → Nat → Int) (n k : Nat) : Prop := ∀ i, k ≤ i → i < n → ∃ (c : Int) (w : Nat → Int), c ≠ 0 ∧ Cm M k i c w ∧ ∀ j, j < k → w j = 0
theorem bS_0 (M : Nat → Nat → Int) (n : Nat) : bS M n 0 := fun i _ _ => ⟨1, M i, by decide, ⟨fun _ => 0, fun j => by
  show M i j = 1 * M i j + 0
  omega⟩, fun j hj => by omega⟩
theorem bS_step {M : Nat → Nat → Int} {n k : Nat} (h : bS M n k) (hk : k < n) (hp : dt k M ≠ 0) (hq : dt (k + 1) M ≠ 0) : bS M n (k + 1) ∧ ∀ i j, k < i → i < n → dt k M * tt M (k + 1) i j = dt (k + 1) M * tt M k i j - tt M k i k * tt M k k j := by
  obtain ⟨ck, wk, k1, k2, k3⟩ := h k (Nat.le_refl _) hk
  have hkk : ck * dt (k + 1) M = wk k * dt k M := by rw [← tt_d]; exact ev_t k2 k3 k
  have hal : wk k ≠ 0 := fun h9 => by
    rw [h9, Int.zero_mul] at hkk
    rcases Int.mul_eq_zero.mp hkk with h | h
    · exact k1 h
    · exact hq h
  have main : ∀ i, k < i → i < n → ∃ (c : Int) (w : Nat → Int), (c ≠ 0 ∧ Cm M (k + 1) i c w ∧ ∀ j, j < k + 1 → w j = 0) ∧ ∀ j, dt k M * tt M (k + 1) i j = dt (k + 1) M * tt M k i j - tt M k i k * tt M k k j := by
    intro i hi hin
    obtain ⟨ci, wi, i1, i2, i3⟩ := h i (by omega) hin
    have hC : Cm M (k + 1) i (wk k * ci) (fun j => wk k * wi j - wi k * wk j) := by
      obtain ⟨zi, hzi⟩ := i2
      obtain ⟨zk, hzk⟩ := k2
      refine ⟨fun r => if r = k then - (wi k * ck) else wk k * zi r + (- wi k) * zk r, fun j => ?_⟩
      have e : zS (fun r => (if r = k then - (wi k * ck) else wk k * zi r + (- wi k) * zk r) * M r j) k = wk k * zS (fun r => zi r * M r j) k + (- wi k) * zS (fun r => zk r * M r j) k := by
        rw [← zS_mul (- wi k), ← zS_lin]
        refine zS_cong (fun r hr => ?_)
        rw [if_neg (by omega)]
        grind
      show wk k * wi j - wi k * wk j = wk k * ci * M i j + (zS (fun r => (if r = k then - (wi k * ck) else wk k * zi r + (- wi k) * zk r) * M r j) k + (if k = k then - (wi k * ck) else wk k * zi k + (- wi k) * zk k) * M k j)
      rw [e, if_pos rfl]
      have q1 := hzi j
      have q2 := hzk j
      generalize zS (fun r => zi r * M r j) k = s1 at *
      generalize zS (fun r => zk r * M r j) k = s2 at *
      generalize wk k = x1 at *
      generalize wi k = x2 at *
      rw [q1, q2]
      grind
    have h0 : ∀ j, j < k + 1 → wk k * wi j - wi k * wk j = 0 := fun j hj => by
      by_cases e : j = k
      · subst e
        rw [Int.mul_comm (wk j)]
        omega
      · rw [i3 j (by omega), k3 j (by omega), Int.mul_zero, Int.mul_zero]
        rfl
    refine ⟨wk k * ci, fun j => wk k * wi j - wi k * wk j, ⟨fun h9 => ?_, hC, h0⟩, fun j => ?_⟩
    · rcases Int.mul_eq_zero.mp h9 with h | h
      · exact hal h
      · exact i1 h
    · have a1 := ev_t i2 i3 j
      have a2 := ev_t i2 i3 k
      have a3 := ev_t k2 k3 j
      have a5 : wk k * ci * tt M (k + 1) i j = (wk k * wi j - wi k * wk j) * dt (k + 1) M := ev_t hC h0 j
      have hne : ci * ck * dt (k + 1) M ≠ 0 := fun h9 => by
        rcases Int.mul_eq_zero.mp h9 with h | h
        · rcases Int.mul_eq_zero.mp h with h | h
          · exact i1 h
          · exact k1 h
        · exact hq h
      refine Int.eq_of_mul_eq_mul_left hne ?_
      generalize tt M (k + 1) i j = T' at *
      generalize tt M k i j = Tij at *
      generalize tt M k i k = Tik at *
      generalize tt M k k j = Tkj at *
      generalize dt (k + 1) M = q at *
      generalize dt k M = p at *
      generalize wk k = al at *
      generalize wi k = wik at *
      generalize wi j = wij at *
      generalize wk j = wkj at *
      have b1 : ci * ck * q * (p * T') = (ck * q) * p * (ci * T') := by grind
      have b2 : (al * p) * p * (ci * T') = p * p * (al * ci * T') := by grind
      have b3 : p * p * ((al * wij - wik * wkj) * q) = ((al * p) * (wij * p) - (wik * p) * (wkj * p)) * q := by grind
      rw [b1, hkk, b2, a5, b3, ← hkk, ← a1, ← a2, ← a3]
      grind
  refine ⟨fun i hi hin => ?_, fun i j hi hin => ?_⟩
  · obtain ⟨c, w, h9, -⟩ := main i (by omega) hin
    exact ⟨c, w, h9⟩
  · obtain ⟨c, w, -, h9⟩ := main i hi hin
    exact h9 j
/-! ===== a 0 on the way makes it 0 ===== -/
theorem psd_L (u v : Nat → Nat) (E : BS) (y : Nat → Int) (m : Nat) : ∀ L, 0 ≤ zS (fun j => y j * zS (fun r => y r * lpM u v E q0 L r j) m) m ∧ (zS (fun j => y j * zS (fun r => y r * lpM u v E q0 L r j) m) m = 0 → ∀ j, zS (fun r => y r * lpM u v E q0 L r j) m = 0)
  | 0 => by
    have z : ∀ j, zS (fun r => y r * lpM u v E q0 0 r j) m = 0 := fun j => zS_zero (fun r _ => by
      have : lpM u v E q0 0 r j = 0 := by
        unfold lpM q0
        split <;> rfl
      rw [this, Int.mul_zero])
    refine ⟨?_, fun _ => z⟩
    rw [zS_zero (fun j _ => by rw [z, Int.mul_zero])]
    exact Int.le_refl _
  | L + 1 => by
    obtain ⟨h1, h2⟩ := psd_L u v E y m L
    by_cases hE : E L = true
    · obtain ⟨X, hX⟩ : ∃ X, X = zS (fun r => y r * xv u v L r) m := ⟨_, rfl⟩
      have e : ∀ j, zS (fun r => y r * lpM u v E q0 (L + 1) r j) m = X * xv u v L j + zS (fun r => y r * lpM u v E q0 L r j) m := fun j => by
        have : zS (fun r => y r * lpM u v E q0 (L + 1) r j) m = zS (fun r => xv u v L j * (y r * xv u v L r) + y r * lpM u v E q0 L r j) m := zS_cong (fun r _ => by
          show y r * (lpM u v E q0 L r j + (if E L = true then xv u v L r * xv u v L j else 0)) = _
          rw [if_pos hE]
          grind)
        rw [this, zS_lin, ← hX, Int.mul_comm X]
      have e2 : zS (fun j => y j * zS (fun r => y r * lpM u v E q0 (L + 1) r j) m) m = X * X + zS (fun j => y j * zS (fun r => y r * lpM u v E q0 L r j) m) m := by
        have : zS (fun j => y j * zS (fun r => y r * lpM u v E q0 (L + 1) r j) m) m = zS (fun j => X * (y j * xv u v L j) + y j * zS (fun r => y r * lpM u v E q0 L r j) m) m := zS_cong (fun j _ => by
          rw [e]
          grind)
        rw [this, zS_lin, ← hX]
      have hXX : 0 ≤ X * X := by
        rcases Int.le_total 0 X with h | h
        · exact Int.mul_nonneg h h
        · exact Int.mul_nonneg_of_nonpos_of_nonpos h h
      rw [e2]
      refine ⟨by omega, fun h9 j => ?_⟩
      have hX0 : X = 0 := by
        have : X * X = 0 := by omega
        rcases Int.mul_eq_zero.mp this with h | h <;> exact h
      rw [e j, hX0, Int.zero_mul, h2 (by omega) j]
      rfl
    · have e : ∀ j, zS (fun r => y r * lpM u v E q0 (L + 1) r j) m = zS (fun r => y r * lpM u v E q0 L r j) m := fun j => zS_cong (fun r _ => by
        show y r * (lpM u v E q0 L r j + (if E L = true then xv u v L r * xv u v L j else 0)) = _
        rw [if_neg hE, Int.add_zero])
      have e2 : (fun j => y j * zS (fun r => y r * lpM u v E q0 (L + 1) r j) m) = fun j => y j * zS (fun r => y r * lpM u v E q0 L r j) m := funext (fun j => by rw [e])
      rw [e2]
      exact ⟨h1, fun h9 j => by rw [e]; exact h2 h9 j⟩
theorem bS_nought {u v : Nat → Nat} {E : BS} {L n k : Nat} (h : bS (lpM u v E q0 L) n k) (hk : k < n) (hp : dt k (lpM u v E q0 L) ≠ 0) (hq : dt (k + 1) (lpM u v E q0 L) = 0) : dt n (lpM u v E q0 L) = 0 := by
  obtain ⟨c, w, k1, k2, k3⟩ := h k (Nat.le_refl _) hk
  have hkk := ev_t k2 k3 k
  rw [tt_d, hq, Int.mul_zero] at hkk
  have hw : ∀ j, j < k + 1 → w j = 0 := fun j hj => by
    by_cases e : j = k
    · rw [e]
      rcases Int.mul_eq_zero.mp hkk.symm with h | h
      · exact h
      · exact absurd h hp
    · exact k3 j (by omega)
  obtain ⟨z, hz⟩ := k2
  obtain ⟨y, hy⟩ : ∃ y : Nat → Int, ∀ r, y r = if r = k then c else z r := ⟨_, fun _ => rfl⟩
  have hl : ∀ j, zS (fun r => y r * lpM u v E q0 L r j) (k + 1) = w j := fun j => by
    show zS (fun r => y r * lpM u v E q0 L r j) k + y k * lpM u v E q0 L k j = w j
    rw [hz j, hy k, if_pos rfl, zS_cong (g := fun r => z r * lpM u v E q0 L r j) (fun r hr => by rw [hy r, if_neg (by omega)])]
    omega
  have hps := (psd_L u v E y (k + 1) L).2 (zS_zero (fun j hj => by rw [hl, hw j hj, Int.mul_zero]))
  have h1 := FL_comb (dt_FLr n) (lpM u v E q0 L) hk c z k (Nat.le_refl _)
  rw [FL_zero (dt_FLr n) hk (fun j _ => by rw [rp_0, ← hz j, ← hl j]; exact hps j)] at h1
  rcases Int.mul_eq_zero.mp h1.symm with h | h
  · exact absurd h k1
  · exact h
/-! ===== how large it can be ===== -/
theorem sm_sk (f : Nat → Nat) (r : Nat) : ∀ n, r < n + 1 → fb_sm (fun i => f (sk r i)) n + f r = fb_sm f (n + 1)
  | 0, h => by
    have : r = 0 := by omega
    subst this
    rfl
  | n + 1, h => by
    rw [fb_sm_succ, fb_sm_succ f (n + 1)]
    by_cases e : r = n + 1
    · have : fb_sm (fun i => f (sk r i)) n = fb_sm f n := fb_sm_cong (fun i hi => by
        show f (sk r i) = f i
        unfold sk; rw [if_pos (by omega)])
      rw [this, fb_sm_succ]
      have e2 : sk r n = n := by unfold sk; rw [if_pos (by omega)]
      rw [e2, e]
    · have ih := sm_sk f r n (by omega)
      have e2 : sk r n = n + 1 := by unfold sk; rw [if_neg (by omega)]
      rw [e2]
      omega
theorem abs_zS (f : Nat → Int) : ∀ n, (zS f n).natAbs ≤ fb_sm (fun k => (f k).natAbs) n
  | 0 => Nat.le_refl _
  | n + 1 => by
    have h1 := abs_zS f n
    have h2 := Int.natAbs_add_le (zS f n) (f n)
    rw [fb_sm_succ]
    show (zS f n + f n).natAbs ≤ _
    omega
theorem eg_abs : ∀ n, (eg n).natAbs = 1
  | 0 => rfl
  | n + 1 => by
    show (- eg n).natAbs = 1
    rw [Int.natAbs_neg]
    exact eg_abs n
theorem sm_mul (c : Nat) (f : Nat → Nat) : ∀ n, fb_sm (fun k => f k * c) n = fb_sm f n * c
  | 0 => (Nat.zero_mul c).symm
  | n + 1 => by rw [fb_sm_succ, fb_sm_succ, sm_mul c f n, Nat.add_mul]
theorem dt_bd {B : Nat} : ∀ (n : Nat) (M : Nat → Nat → Int), (∀ s, s < n → fb_sm (fun r => (M r s).natAbs) n ≤ B) → (dt n M).natAbs ≤ B ^ n
  | 0, _, _ => Nat.le_refl _
  | n + 1, M, h => by
    unfold dt
    refine Nat.le_trans (abs_zS _ _) ?_
    have h1 : fb_sm (fun r => (eg r * M r 0 * dt n (fun i j => M (sk r i) (j + 1))).natAbs) (n + 1) ≤ fb_sm (fun r => (M r 0).natAbs * B ^ n) (n + 1) := fb_sm_le (fun r hr => by
      show (eg r * M r 0 * dt n (fun i j => M (sk r i) (j + 1))).natAbs ≤ (M r 0).natAbs * B ^ n
      rw [Int.natAbs_mul, Int.natAbs_mul, eg_abs, Nat.one_mul]
      refine Nat.mul_le_mul_left _ (dt_bd n _ (fun s hs => ?_))
      have h2 := sm_sk (fun i => (M i (s + 1)).natAbs) r n hr
      have h3 := h (s + 1) (by omega)
      show fb_sm (fun i => (M (sk r i) (s + 1)).natAbs) n ≤ B
      have h2 : fb_sm (fun i => (M (sk r i) (s + 1)).natAbs) n + (M r (s + 1)).natAbs = fb_sm (fun r => (M r (s + 1)).natAbs) (n + 1) := h2
      omega)
    refine Nat.le_trans h1 ?_
    rw [sm_mul, Nat.pow_succ, Nat.mul_comm (B ^ n)]
    exact Nat.mul_le_mul_right _ (h 0 (by omega))
theorem tt_bd {M : Nat → Nat → Int} {n B : Nat} (h : ∀ s, s < n → fb_sm (fun r => (M r s).natAbs) n ≤ B) {k i j : Nat} (hi : k ≤ i) (hin : i < n) (hj : k ≤ j) (hjn : j < n) : (tt M k i j).natAbs ≤ B ^ (k + 1) := by
  refine dt_bd (k + 1) _ (fun s hs => ?_)
  have h1 : fb_sm (fun r => (bo M k i j r s).natAbs) k = fb_sm (fun r => (M r (if s < k then s else j)).natAbs) k := fb_sm_cong (fun r hr => by
    show (M (if r < k then r else i) (if s < k then s else j)).natAbs = _
    rw [if_pos hr])
  have h2 : (bo M k i j k s).natAbs = (M i (if s < k then s else j)).natAbs := by
    unfold bo
    rw [if_neg (Nat.lt_irrefl k)]
  rw [fb_sm_succ, h1, h2]
  have h3 := h (if s < k then s else j) (by split <;> omega)
  have h4 := fb_sm_part (fun r => (M r (if s < k then s else j)).natAbs) hin
  have h5 := fb_sm_mono (fun r => (M r (if s < k then s else j)).natAbs) k (i - k)
  rw [show k + (i - k) = i by omega] at h5
  have h4 : fb_sm (fun r => (M r (if s < k then s else j)).natAbs) i + (M i (if s < k then s else j)).natAbs ≤ fb_sm (fun r => (M r (if s < k then s else j)).natAbs) n := h4
  omega
theorem sm_hit (x : Nat) : ∀ n, fb_sm (fun r => if x = r + 1 then 1 else 0) n ≤ 1 ∧ (n < x → fb_sm (fun r => if x = r + 1 then 1 else 0) n = 0)
  | 0 => ⟨Nat.zero_le _, fun _ => rfl⟩
  | n + 1 => by
    obtain ⟨h1, h2⟩ := sm_hit x n
    rw [fb_sm_succ]
    by_cases e : x = n + 1
    · rw [if_pos e, h2 (by omega)]
      exact ⟨Nat.le_refl _, fun h => by omega⟩
    · rw [if_neg e]
      exact ⟨by omega, fun h => by rw [h2 (by omega)]⟩
theorem lpM_bd (u v : Nat → Nat) (E : BS) (n s : Nat) : ∀ L, fb_sm (fun r => (lpM u v E q0 L r s).natAbs) n ≤ 2 * L
  | 0 => by
    rw [fb_sm_cong (g := fun _ => 0) (fun r _ => by
      show (lpM u v E q0 0 r s).natAbs = 0
      have : lpM u v E q0 0 r s = 0 := by
        unfold lpM q0
        split <;> rfl
      rw [this]; rfl), fb_sm_const]
    omega
  | L + 1 => by
    have ih := lpM_bd u v E n s L
    have h1 : ∀ r, (lpM u v E q0 (L + 1) r s).natAbs ≤ (lpM u v E q0 L r s).natAbs + ((if u L = r + 1 then 1 else 0) + (if v L = r + 1 then 1 else 0)) := fun r => by
      show (lpM u v E q0 L r s + (if E L = true then xv u v L r * xv u v L s else 0)).natAbs ≤ _
      by_cases hE : E L = true
      · rw [if_pos hE]
        have a1 := Int.natAbs_add_le (lpM u v E q0 L r s) (xv u v L r * xv u v L s)
        rw [Int.natAbs_mul] at a1
        have a2 : (xv u v L s).natAbs ≤ 1 := by
          unfold xv
          split <;> split <;> decide
        have a3 : (xv u v L r).natAbs ≤ (if u L = r + 1 then 1 else 0) + (if v L = r + 1 then 1 else 0) := by
          unfold xv
          split <;> split <;> decide
        have a4 := Nat.mul_le_mul_left (xv u v L r).natAbs a2
        omega
      · rw [if_neg hE, Int.add_zero]
        exact Nat.le_add_right _ _
    have h2 := fb_sm_le (n := n) (fun r _ => h1 r)
    rw [fb_sm_add, fb_sm_add] at h2
    have h3 := (sm_hit (u L) n).1
    have h4 := (sm_hit (v L) n).1
    omega
