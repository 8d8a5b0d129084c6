/-! ===== one more line: the determinant and the trees obey one law ===== -/
theorem dt_last : ∀ (k : Nat) (M : Nat → Nat → Int), (∀ j, j < k → M k j = 0) → dt (k + 1) M = M k k * dt k M
  | 0, M, _ => by
    show (0 : Int) + 1 * M 0 0 * 1 = M 0 0 * 1
    omega
  | k + 1, M, h => by
    have e : dt (k + 1 + 1) M = zS (fun r => M (k + 1) (k + 1) * (eg r * M r 0 * dt k (fun i j => M (sk r i) (j + 1)))) (k + 1) := by
      show zS (fun r => eg r * M r 0 * dt (k + 1) (fun i j => M (sk r i) (j + 1))) (k + 1) + eg (k + 1) * M (k + 1) 0 * dt (k + 1) (fun i j => M (sk (k + 1) i) (j + 1)) = _
      rw [h 0 (by omega), Int.mul_zero, Int.zero_mul, Int.add_zero]
      refine zS_cong (fun r hr => ?_)
      have e1 : sk r k = k + 1 := by unfold sk; rw [if_neg (by omega)]
      have ih := dt_last k (fun i j => M (sk r i) (j + 1)) (fun j hj => by
        show M (sk r k) (j + 1) = 0
        rw [e1]; exact h _ (by omega))
      rw [ih]
      show eg r * M r 0 * (M (sk r k) (k + 1) * dt k (fun i j => M (sk r i) (j + 1))) = _
      rw [e1]
      generalize dt k (fun i j => M (sk r i) (j + 1)) = D
      grind
    rw [e, zS_mul]
    rfl
theorem dt_ecol {n a : Nat} (ha : a < n) {M : Nat → Nat → Int} (h : ∀ j, j < n → M a j = if j = a then 1 else 0) : dt n M = dt n (fun i j => if j = a then (if i = a then 1 else 0) else M i j) := by
  have z : dt n (fun i j => if j = a then M i a - (if i = a then 1 else 0) else M i j) = 0 := FL_zero (dt_FLr n) ha (fun j hj => by
    show (if j = a then M a a - (if a = a then 1 else 0) else M a j) = 0
    by_cases e : j = a
    · rw [if_pos e, if_pos rfl, h a ha, if_pos rfl]; rfl
    · rw [if_neg e, h j hj, if_neg e])
  have := dt_col (n := n) (q := a) (c := 1) (M := M) (A := fun i j => if j = a then (if i = a then 1 else 0) else M i j) (B := fun i j => if j = a then M i a - (if i = a then 1 else 0) else M i j) ha (fun i _ => by
    show M i a = 1 * (if a = a then (if i = a then 1 else 0) else M i a) + (if a = a then M i a - (if i = a then 1 else 0) else M i a)
    rw [if_pos rfl, if_pos rfl]; omega) (fun i _ j _ hne => by
    show M i j = (if j = a then (if i = a then 1 else 0) else M i j) ∧ M i j = (if j = a then M i a - (if i = a then 1 else 0) else M i j)
    rw [if_neg hne, if_neg hne]; exact ⟨rfl, rfl⟩)
  rw [this, z]
  omega
theorem dt_rank1 {n a : Nat} (ha : a < n) {β : Nat → Int} (hβ : β a = 0) (N : Nat → Nat → Int) : dt n (fun i j => N i j + ((if i = a then 1 else 0) - β i) * ((if j = a then 1 else 0) - β j)) = dt n N + dt n (fun i j => if i = a then (if j = a then 1 else 0) else if j = a then 0 else N i j + β i * N a j + β j * (N i a + β i * N a a)) := by
  have two : ∀ Y : Nat → Nat → Int, dt n Y = dt n (fun i j => Y i j + β i * Y a j + β j * (Y i a + β i * Y a a)) := fun Y => by
    have s1 := FL_many (dt_FLr n) Y ha hβ
    have s2 : dt n (fun i j => Y i j + β i * Y a j + β j * (Y i a + β i * Y a a)) = dt n (fun i j => Y i j + β i * Y a j) := FL_many (dt_FLc n) (fun i j => Y j i + β j * Y a i) ha hβ
    rw [s2, s1]
  obtain ⟨N2, hN2⟩ : ∃ N2 : Nat → Nat → Int, N2 = fun i j => N i j + β i * N a j + β j * (N i a + β i * N a a) := ⟨_, rfl⟩
  have eN : dt n N = dt n N2 := by rw [hN2]; exact two N
  rw [two (fun i j => N i j + ((if i = a then 1 else 0) - β i) * ((if j = a then 1 else 0) - β j)), eN]
  have eY : ∀ i j, N i j + ((if i = a then 1 else 0) - β i) * ((if j = a then 1 else 0) - β j) + β i * (N a j + ((if a = a then 1 else 0) - β a) * ((if j = a then 1 else 0) - β j)) + β j * (N i a + ((if i = a then 1 else 0) - β i) * ((if a = a then 1 else 0) - β a) + β i * (N a a + ((if a = a then 1 else 0) - β a) * ((if a = a then 1 else 0) - β a))) = N2 i j + (if i = a then 1 else 0) * (if j = a then 1 else 0) := fun i j => by
    rw [hN2, hβ, if_pos rfl]
    generalize (if i = a then (1 : Int) else 0) = x
    generalize (if j = a then (1 : Int) else 0) = y
    show N i j + (x - β i) * (y - β j) + β i * (N a j + (1 - 0) * (y - β j)) + β j * (N i a + (x - β i) * (1 - 0) + β i * (N a a + (1 - 0) * (1 - 0))) = N i j + β i * N a j + β j * (N i a + β i * N a a) + x * y
    grind
  have s3 := dt_row (n := n) (p := a) (c := 1) (M := fun i j => N2 i j + (if i = a then 1 else 0) * (if j = a then 1 else 0)) (A := rp N2 a (fun j => if j = a then 1 else 0)) (B := N2) ha (fun j _ => by
    show N2 a j + (if a = a then 1 else 0) * (if j = a then 1 else 0) = 1 * rp N2 a (fun j => if j = a then 1 else 0) a j + N2 a j
    rw [if_pos rfl, rp_0]; omega) (fun i _ hi j _ => by
    show N2 i j + (if i = a then 1 else 0) * (if j = a then 1 else 0) = rp N2 a (fun j => if j = a then 1 else 0) i j ∧ N2 i j + (if i = a then 1 else 0) * (if j = a then 1 else 0) = N2 i j
    rw [if_neg hi, rp_1 _ _ _ hi, Int.zero_mul, Int.add_zero]; exact ⟨rfl, rfl⟩)
  have s4 := dt_ecol ha (M := rp N2 a (fun j => if j = a then 1 else 0)) (fun j _ => by rw [rp_0])
  have s5 : dt n (fun i j => if j = a then (if i = a then 1 else 0) else rp N2 a (fun j => if j = a then 1 else 0) i j) = dt n (fun i j => if i = a then (if j = a then 1 else 0) else if j = a then 0 else N i j + β i * N a j + β j * (N i a + β i * N a a)) := dt_cong (fun i j _ _ => by
    show (if j = a then (if i = a then 1 else 0) else rp N2 a (fun j => if j = a then 1 else 0) i j) = (if i = a then (if j = a then 1 else 0) else if j = a then 0 else N i j + β i * N a j + β j * (N i a + β i * N a a))
    by_cases e1 : i = a
    · by_cases e2 : j = a
      · rw [if_pos e2, if_pos e1, if_pos e1, if_pos e2]
      · rw [if_neg e2, if_pos e1, if_neg e2, e1, rp_0, if_neg e2]
    · by_cases e2 : j = a
      · rw [if_pos e2, if_neg e1, if_neg e1, if_pos e2]
      · rw [if_neg e2, if_neg e1, if_neg e2, rp_1 _ _ _ e1, hN2])
  have s6 : dt n (fun i j => N i j + ((if i = a then 1 else 0) - β i) * ((if j = a then 1 else 0) - β j) + β i * (N a j + ((if a = a then 1 else 0) - β a) * ((if j = a then 1 else 0) - β j)) + β j * (N i a + ((if i = a then 1 else 0) - β i) * ((if a = a then 1 else 0) - β a) + β i * (N a a + ((if a = a then 1 else 0) - β a) * ((if a = a then 1 else 0) - β a)))) = dt n (fun i j => N2 i j + (if i = a then 1 else 0) * (if j = a then 1 else 0)) := dt_cong (fun i j _ _ => eY i j)
  rw [s4, s5] at s3
  refine s6.trans ?_
  rw [s3]
  omega
theorem dt_diag (d : Nat → Bool) : ∀ n, dt n (fun i j => if i = j then (if d i = true then 1 else 0) else 0) = if fb_ct d n = n then 1 else 0
  | 0 => rfl
  | n + 1 => by
    have ih := dt_diag d n
    rw [dt_last n _ (fun j hj => by
      show (if n = j then (if d n = true then (1 : Int) else 0) else 0) = 0
      rw [if_neg (by omega)]), ih, fb_ct_succ, if_pos rfl]
    have := fb_ct_le d n
    cases h : d n
    · have e : ¬ fb_ct d n + (if false = true then 1 else 0) = n + 1 := fun h9 => by
        have h9 : fb_ct d n = n + 1 := h9
        omega
      rw [if_neg e]
      exact Int.zero_mul _
    · by_cases e : fb_ct d n = n
      · have e2 : fb_ct d n + (if true = true then 1 else 0) = n + 1 := by rw [e]; rfl
        rw [if_pos e, if_pos e2]
        rfl
      · have e2 : ¬ fb_ct d n + (if true = true then 1 else 0) = n + 1 := fun h9 => by
          have h9 : fb_ct d n + 1 = n + 1 := h9
          omega
        rw [if_neg e, if_neg e2]
        exact Int.mul_zero _
/-! ===== the table of a net: rows are the places but the first ===== -/
def xv (u v : Nat → Nat) (i r : Nat) : Int := (if u i = r + 1 then 1 else 0) - (if v i = r + 1 then 1 else 0)
def lpM (u v : Nat → Nat) (E d : BS) : Nat → Nat → Nat → Int
  | 0, r, s => if r = s then (if d r = true then 1 else 0) else 0
  | L + 1, r, s => lpM u v E d L r s + (if E L = true then xv u v L r * xv u v L s else 0)
def nt (E : BS) : Nat → (BS → Bool) → Nat
  | 0, Q => if Q q0 = true then 1 else 0
  | L + 1, Q => nt E L Q + (if E L = true then nt E L (fun S => Q (qI S L)) else 0)
theorem nt_cong {E : BS} : ∀ {L : Nat} {Q Q' : BS → Bool}, (∀ S : BS, (∀ i, S i = true → i < L ∧ E i = true) → Q S = Q' S) → nt E L Q = nt E L Q'
  | 0, Q, Q', h => by
    unfold nt
    rw [h q0 (fun i hi => (by cases hi))]
  | L + 1, Q, Q', h => by
    unfold nt
    rw [nt_cong (L := L) (fun S hS => h S (fun i hi => ⟨by have := (hS i hi).1; omega, (hS i hi).2⟩))]
    by_cases e : E L = true
    · rw [if_pos e, if_pos e, nt_cong (L := L) (Q := fun S => Q (qI S L)) (Q' := fun S => Q' (qI S L)) (fun S hS => h _ (fun i hi => by
        have hi : (S i || decide (i = L)) = true := hi
        by_cases e2 : i = L
        · rw [e2]; exact ⟨by omega, e⟩
        · have : S i = true := by simpa [e2] using hi
          exact ⟨by have := (hS i this).1; omega, (hS i this).2⟩))]
    · rw [if_neg e, if_neg e]
theorem nt_false (E : BS) : ∀ L, nt E L (fun _ => false) = 0
  | 0 => rfl
  | L + 1 => by
    unfold nt
    rw [nt_false E L]
    split <;> rfl
theorem nt_none {E : BS} {L : Nat} {Q : BS → Bool} (h : ∀ S : BS, (∀ i, S i = true → i < L ∧ E i = true) → Q S = false) : nt E L Q = 0 := by
  rw [nt_cong (Q' := fun _ => false) h, nt_false]
theorem xv_ct {u v u' v' : Nat → Nat} {a b : Nat} (hb : b ≠ a + 1) (hu : ∀ i, u' i = if u i = a + 1 then b else u i) (hv : ∀ i, v' i = if v i = a + 1 then b else v i) (i r : Nat) : xv u' v' i r = if r = a then 0 else xv u v i r + (if r + 1 = b then 1 else 0) * xv u v i a := by
  have one : ∀ x y : Nat, y = (if x = a + 1 then b else x) → (if y = r + 1 then (1 : Int) else 0) = if r = a then 0 else (if x = r + 1 then 1 else 0) + (if r + 1 = b then 1 else 0) * (if x = a + 1 then 1 else 0) := by
    intro x y hy
    rw [hy]
    by_cases e : r = a
    · subst e
      rw [if_pos rfl]
      by_cases e1 : x = r + 1
      · rw [if_pos e1, if_neg hb]
      · rw [if_neg e1, if_neg e1]
    · rw [if_neg e]
      by_cases e1 : x = a + 1
      · rw [if_pos e1, if_pos e1, if_neg (by omega : ¬ x = r + 1)]
        by_cases e2 : b = r + 1
        · rw [if_pos e2, if_pos e2.symm]; rfl
        · rw [if_neg e2, if_neg (fun h => e2 h.symm)]; rfl
      · rw [if_neg e1, if_neg e1, Int.mul_zero, Int.add_zero]
  unfold xv
  rw [one _ _ (hu i), one _ _ (hv i)]
  by_cases e : r = a
  · rw [if_pos e, if_pos e, if_pos e]; rfl
  · rw [if_neg e, if_neg e, if_neg e]
    grind
theorem lpM_ct {u v u' v' : Nat → Nat} {E d d' : BS} {a b : Nat} (hb : b ≠ a + 1) (hda : d a = false) (hu : ∀ i, u' i = if u i = a + 1 then b else u i) (hv : ∀ i, v' i = if v i = a + 1 then b else v i) (hd' : ∀ r, d' r = (d r || decide (r = a))) : ∀ L r s, lpM u' v' E d' L r s = if r = a then (if s = a then 1 else 0) else if s = a then 0 else lpM u v E d L r s + (if r + 1 = b then 1 else 0) * lpM u v E d L a s + (if s + 1 = b then 1 else 0) * (lpM u v E d L r a + (if r + 1 = b then 1 else 0) * lpM u v E d L a a)
  | 0, r, s => by
    unfold lpM
    rw [hd', if_pos rfl, hda]
    by_cases e1 : r = a
    · rw [if_pos e1]
      by_cases e2 : s = a
      · rw [if_pos e2, if_pos (by omega)]; simp [e1]
      · rw [if_neg e2, if_neg (by omega)]
    · rw [if_neg e1]
      by_cases e2 : s = a
      · rw [if_pos e2, if_neg (by omega)]
      · rw [if_neg e2, if_neg (show ¬ a = s by omega), if_neg (show ¬ r = a by omega)]
        simp [e1]
  | L + 1, r, s => by
    unfold lpM
    rw [lpM_ct hb hda hu hv hd' L r s]
    by_cases hE : E L = true
    · simp only [if_pos hE]
      rw [xv_ct hb hu hv, xv_ct hb hu hv]
      by_cases e1 : r = a
      · simp only [if_pos e1]; rw [Int.zero_mul, Int.add_zero]
      · by_cases e2 : s = a
        · simp only [if_neg e1, if_pos e2]; rw [Int.mul_zero, Int.add_zero]
        · simp only [if_neg e1, if_neg e2]
          grind
    · simp only [if_neg hE, Int.add_zero]
theorem rk_one {u v : Nat → Nat} (h8 : ∀ i, u i < 8 ∧ v i < 8) {L a b : Nat} (hL : L < 32) (hab : (u L = a + 1 ∧ v L = b) ∨ (u L = b ∧ v L = a + 1)) (hb : b < a + 1) {u' v' : Nat → Nat} (h8' : ∀ i, u' i < 8 ∧ v' i < 8) (hu : ∀ i, u' i = if u i = a + 1 then b else u i) (hv : ∀ i, v' i = if v i = a + 1 then b else v i) (S : BS) : rk u v (qI S L) = rk u' v' S + 1 := by
  have hne : ¬ u L = v L := by omega
  have hla : la u v (qI q0 L) = fun k => if k = a + 1 then b else k := by
    rw [la_ins u v q0 hL, la_0]
    funext k
    show (if k = max (u L) (v L) then min (u L) (v L) else k) = _
    have h1 : max (u L) (v L) = a + 1 := by omega
    have h2 : min (u L) (v L) = b := by omega
    rw [h1, h2]
  have h1 := rk_ct h8 (j := qI q0 L) h8' (E := fun _ => true) (S := S) (fun i _ _ => by rw [hla]; exact ⟨hu i, hv i⟩) (fun _ _ _ => rfl)
  have h2 := (gs_mat h8).1 q0 L hL
  have h3 := (gs_mat h8).2.2.2
  have h4 : gs u v q0 L = false := by
    unfold gs
    rw [la_0]
    exact beq_eq_false_iff_ne.mpr hne
  rw [h3, h4] at h2
  simp at h2
  rw [h2] at h1
  have e : qI S L = qU (qI q0 L) S := by
    funext i
    show (S i || decide (i = L)) = ((false || decide (i = L)) || S i)
    cases S i <;> simp
  rw [e, h1]
  omega
theorem rk_le {u v : Nat → Nat} (h8 : ∀ i, u i < 8 ∧ v i < 8) (S : BS) : rk u v S ≤ qc S := q_le (gs_mat h8) S
/-- the determinant counts the trees -/
theorem mt_ok {E : BS} {n : Nat} (hn : n ≤ 7) : ∀ (L : Nat) (u v : Nat → Nat) (d : BS), L ≤ 32 → (∀ i, u i ≤ n ∧ v i ≤ n) → (∀ i, i < L → E i = true → ∀ r, d r = true → u i ≠ r + 1 ∧ v i ≠ r + 1) → dt n (lpM u v E d L) = ((nt E L (fun S => (qc S + fb_ct d n == n) && decide (rk u v S = qc S)) : Nat) : Int)
  | 0, u, v, d, _, hu, _ => by
    have h8 : ∀ i, u i < 8 ∧ v i < 8 := fun i => ⟨by have := (hu i).1; omega, by have := (hu i).2; omega⟩
    have e := dt_diag d n
    have e2 : dt n (lpM u v E d 0) = if fb_ct d n = n then 1 else 0 := e
    rw [e2]
    have h0 : qc q0 = 0 := rfl
    have h3 : rk u v q0 = 0 := (gs_mat h8).2.2.2
    show _ = ((if ((qc q0 + fb_ct d n == n) && decide (rk u v q0 = qc q0)) = true then 1 else 0 : Nat) : Int)
    rw [h0, h3]
    by_cases hc : fb_ct d n = n
    · rw [if_pos hc, if_pos (by simp [hc])]; rfl
    · rw [if_neg hc, if_neg (by simp [hc])]; rfl
  | L + 1, u, v, d, hL, hu, hd => by
    have h8 : ∀ i, u i < 8 ∧ v i < 8 := fun i => ⟨by have := (hu i).1; omega, by have := (hu i).2; omega⟩
    have ih := mt_ok (E := E) hn L u v d (by omega) hu (fun i hi => hd i (by omega))
    have hnt : nt E (L + 1) (fun S => (qc S + fb_ct d n == n) && decide (rk u v S = qc S)) = nt E L (fun S => (qc S + fb_ct d n == n) && decide (rk u v S = qc S)) + (if E L = true then nt E L (fun S => (qc (qI S L) + fb_ct d n == n) && decide (rk u v (qI S L) = qc (qI S L))) else 0) := rfl
    rw [hnt]
    by_cases hE : E L = true
    · rw [if_pos hE]
      by_cases hl : u L = v L
      · have z : nt E L (fun S => (qc (qI S L) + fb_ct d n == n) && decide (rk u v (qI S L) = qc (qI S L))) = 0 := nt_none (fun S hS => by
          have hSL : S L = false := by
            cases h : S L
            · rfl
            · have := (hS L h).1; omega
          have h1 : qc (qI S L) = qc S + 1 := qc_ins (by omega) hSL
          have h2 := (gs_mat h8).1 S L (by omega)
          have h4 : gs u v S L = true := by unfold gs; rw [hl]; exact beq_self_eq_true _
          rw [h4, if_pos rfl] at h2
          have h5 := rk_le h8 S
          rw [decide_eq_false (by omega), Bool.and_false])
        rw [z]
        refine Eq.trans (dt_cong (fun i j _ _ => ?_)) ih
        show lpM u v E d L i j + (if E L = true then xv u v L i * xv u v L j else 0) = _
        have : xv u v L i = 0 := by unfold xv; rw [hl]; omega
        rw [this, Int.zero_mul, if_pos hE, Int.add_zero]
      · obtain ⟨a, b, hab, hb⟩ : ∃ a b, ((u L = a + 1 ∧ v L = b) ∨ (u L = b ∧ v L = a + 1)) ∧ b < a + 1 := by
          by_cases hc : u L < v L
          · exact ⟨v L - 1, u L, Or.inr ⟨rfl, by omega⟩, by omega⟩
          · exact ⟨u L - 1, v L, Or.inl ⟨by omega, rfl⟩, by omega⟩
        have huL := hu L
        have ha : a < n := by omega
        have hda : d a = false := by
          cases h : d a
          · rfl
          · have := hd L (by omega) hE a h; omega
        obtain ⟨u', hu'⟩ : ∃ u' : Nat → Nat, ∀ i, u' i = if u i = a + 1 then b else u i := ⟨_, fun _ => rfl⟩
        obtain ⟨v', hv'⟩ : ∃ v' : Nat → Nat, ∀ i, v' i = if v i = a + 1 then b else v i := ⟨_, fun _ => rfl⟩
        obtain ⟨d', hd'⟩ : ∃ d' : BS, ∀ r, d' r = (d r || decide (r = a)) := ⟨_, fun _ => rfl⟩
        have hun : ∀ i, u' i ≤ n ∧ v' i ≤ n := fun i => by
          have := hu i
          rw [hu', hv']
          constructor <;> split <;> omega
        have h8' : ∀ i, u' i < 8 ∧ v' i < 8 := fun i => ⟨by have := (hun i).1; omega, by have := (hun i).2; omega⟩
        have ih2 := mt_ok (E := E) hn L u' v' d' (by omega) hun (fun i hi hEi r hr => by
          rw [hd'] at hr
          rw [hu', hv']
          by_cases e : r = a
          · subst e
            constructor <;> split <;> omega
          · have hr : d r = true := by simpa [e] using hr
            have q1 := hd i (by omega) hEi r hr
            have q2 := hd L (by omega) hE r hr
            constructor <;> split <;> omega)
        have hct : fb_ct d' n = fb_ct d n + 1 := by
          have := fb_ct_upd d true (i := a) (n := n) ha
          rw [hda] at this
          simp at this
          rw [← this]
          refine fb_ct_cong (fun k _ => ?_)
          rw [hd']
          by_cases e : k = a
          · simp [e]
          · simp [e]
        have hbe : (fun r : Nat => if r + 1 = b then (1 : Int) else 0) a = 0 := if_neg (by omega)
        have r1 := dt_rank1 (β := fun r : Nat => if r + 1 = b then (1 : Int) else 0) ha hbe (lpM u v E d L)
        have e1 : dt n (lpM u v E d (L + 1)) = dt n (fun i j => lpM u v E d L i j + ((if i = a then 1 else 0) - (fun r : Nat => if r + 1 = b then (1 : Int) else 0) i) * ((if j = a then 1 else 0) - (fun r : Nat => if r + 1 = b then (1 : Int) else 0) j)) := dt_cong (fun i j _ _ => by
          show lpM u v E d L i j + (if E L = true then xv u v L i * xv u v L j else 0) = lpM u v E d L i j + ((if i = a then 1 else 0) - (if i + 1 = b then (1 : Int) else 0)) * ((if j = a then 1 else 0) - (if j + 1 = b then (1 : Int) else 0))
          rw [if_pos hE]
          congr 1
          have q : ∀ r : Nat, (if a + 1 = r + 1 then (1 : Int) else 0) = (if r = a then 1 else 0) := fun r => by
            by_cases e : r = a
            · rw [if_pos e, if_pos (by omega)]
            · rw [if_neg e, if_neg (by omega)]
          have q2 : ∀ r : Nat, (if b = r + 1 then (1 : Int) else 0) = (if r + 1 = b then 1 else 0) := fun r => by
            by_cases e : r + 1 = b
            · rw [if_pos e, if_pos e.symm]
            · rw [if_neg e, if_neg (fun h => e h.symm)]
          unfold xv
          rcases hab with ⟨h1, h2⟩ | ⟨h1, h2⟩
          · rw [h1, h2, q, q, q2, q2]
          · rw [h1, h2, q, q, q2, q2]
            generalize (if i = a then (1 : Int) else 0) = x1
            generalize (if j = a then (1 : Int) else 0) = x2
            generalize (if i + 1 = b then (1 : Int) else 0) = x3
            generalize (if j + 1 = b then (1 : Int) else 0) = x4
            grind)
        have e2 : dt n (lpM u' v' E d' L) = dt n (fun i j => if i = a then (if j = a then 1 else 0) else if j = a then 0 else lpM u v E d L i j + (fun r : Nat => if r + 1 = b then (1 : Int) else 0) i * lpM u v E d L a j + (fun r : Nat => if r + 1 = b then (1 : Int) else 0) j * (lpM u v E d L i a + (fun r : Nat => if r + 1 = b then (1 : Int) else 0) i * lpM u v E d L a a)) := dt_cong (fun i j _ _ => lpM_ct (by omega) hda hu' hv' hd' L i j)
        have e3 : nt E L (fun S => (qc (qI S L) + fb_ct d n == n) && decide (rk u v (qI S L) = qc (qI S L))) = nt E L (fun S => (qc S + fb_ct d' n == n) && decide (rk u' v' S = qc S)) := nt_cong (fun S hS => by
          have hSL : S L = false := by
            cases h : S L
            · rfl
            · have := (hS L h).1; omega
          have h1 : qc (qI S L) = qc S + 1 := qc_ins (by omega) hSL
          rw [h1, rk_one h8 (by omega) hab hb h8' hu' hv' S, hct, show qc S + 1 + fb_ct d n = qc S + (fb_ct d n + 1) by omega]
          congr 1
          by_cases e : rk u' v' S = qc S
          · rw [decide_eq_true e, decide_eq_true (by omega)]
          · rw [decide_eq_false e, decide_eq_false (by omega)])
        have r2 : dt n (lpM u v E d (L + 1)) = dt n (lpM u v E d L) + dt n (lpM u' v' E d' L) := by
          refine e1.trans (r1.trans ?_)
          exact congrArg (fun x => dt n (lpM u v E d L) + x) e2.symm
        rw [e3, r2, ih, ih2]
        exact (Int.natCast_add _ _).symm
    · rw [if_neg hE]
      refine Eq.trans (dt_cong (fun i j _ _ => ?_)) ih
      show lpM u v E d L i j + (if E L = true then xv u v L i * xv u v L j else 0) = _
      rw [if_neg hE, Int.add_zero]
