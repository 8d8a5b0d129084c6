/-! ===== the class's table ===== -/
/-- the row of a place: -1 for the first place -/
def rwv (x : Nat) : Int32 := if x = 0 then -1 else nI (x - 1)
theorem add_ok {x y : Nat} (hx : x ≤ 7) (hy : y ≤ 7) {ci : Int32} {c : Int} (hc : ci.toInt64 = zL c) (w : sx_C) : ∃ w', f_X10_add (rwv x) (rwv y) ci w = some w' ∧ (∀ k, gi w' k = gi w k) ∧ (∀ k, ga w' k = ga w k) ∧ ∀ r s, r < 7 → s < 7 → gm w' r s = gm w r s + zL (if x = r + 1 ∧ y = s + 1 then c else 0) := by
  have same : ∀ P : Prop, ¬ P → ∀ a : Int64, a = a + zL (@ite Int P (Classical.propDecidable P) c 0) := fun P hP a => by
    have : @ite Int P (Classical.propDecidable P) c 0 = 0 := if_neg hP
    rw [this]
    have : zL 0 = 0 := rfl
    rw [this, Int64.add_zero]
  unfold f_X10_add
  by_cases hx0 : x = 0
  · refine ⟨w, ?_, fun _ => rfl, fun _ => rfl, fun r s _ _ => ?_⟩
    · unfold rwv
      rw [if_pos hx0, if_pos (by decide)]
    · rw [if_neg (by omega)]
      show _ = _ + (0 : Int64)
      rw [Int64.add_zero]
  · have e1 : rwv x = nI (x - 1) := by unfold rwv; rw [if_neg hx0]
    rw [e1, if_neg (nI_ne_neg (by omega)).2.2, if_neg (show ¬ (7 : Int32) ≤ nI (x - 1) from fun h => by have := (nle (a := 7) (by omega) (by omega)).mp h; omega)]
    by_cases hy0 : y = 0
    · refine ⟨w, ?_, fun _ => rfl, fun _ => rfl, fun r s _ _ => ?_⟩
      · unfold rwv
        rw [if_pos hy0, if_pos (by decide)]
      · rw [if_neg (by omega)]
        show _ = _ + (0 : Int64)
        rw [Int64.add_zero]
    · have e2 : rwv y = nI (y - 1) := by unfold rwv; rw [if_neg hy0]
      rw [e2, if_neg (nI_ne_neg (by omega)).2.2, if_neg (show ¬ (7 : Int32) ≤ nI (y - 1) from fun h => by have := (nle (a := 7) (by omega) (by omega)).mp h; omega), if_pos (in_ok (by omega) (by decide)), nI_clamp (by omega), rd_ok (by omega) (by decide), Option.bind_some, if_pos (in_ok (by omega) (by decide)), nI_clamp (by omega), hc]
      refine ⟨_, rfl, fun k => by rw [gi_sm], fun k => by rw [ga_sm], fun r s hr hs => ?_⟩
      rw [gm_sm]
      by_cases e3 : r = x - 1
      · rw [if_pos e3]
        unfold vp_updL
        by_cases e4 : s = y - 1
        · rw [if_pos e4, if_pos (by omega), e3, e4]
        · rw [if_neg e4, if_neg (by omega), e3]
          show _ = _ + (0 : Int64)
          rw [Int64.add_zero]
      · rw [if_neg e3, if_neg (by omega)]
        show _ = _ + (0 : Int64)
        rw [Int64.add_zero]
theorem enter_ok {ρ : Nat → Nat} (hρ : ∀ l, l < 8 → ρ l ≤ 7) {w : sx_C} (h2 : ∀ l, l < 8 → ga w 2 l = rwv (ρ l)) {x y : Nat} (hx : x < 8) (hy : y < 8) {T : Nat → Nat → Int} (hT : ∀ r s, r < 7 → s < 7 → gm w r s = zL (T r s)) : ∃ w', f_X10_enter (nI x) (nI y) w = some w' ∧ (∀ k, gi w' k = gi w k) ∧ (∀ l, l < 8 → ga w' 2 l = rwv (ρ l)) ∧ ∀ r s, r < 7 → s < 7 → gm w' r s = zL (T r s + ((if ρ x = r + 1 then 1 else 0) - (if ρ y = r + 1 then 1 else 0)) * ((if ρ x = s + 1 then 1 else 0) - (if ρ y = s + 1 then 1 else 0))) := by
  unfold f_X10_enter
  by_cases e : x = y
  · subst e
    rw [if_pos rfl]
    refine ⟨w, rfl, fun _ => rfl, h2, fun r s hr hs => ?_⟩
    rw [hT r s hr hs, Int.sub_self, Int.zero_mul, Int.add_zero]
  · rw [if_neg (fun h => e ((neq (by omega) (by omega)).mp h)), and7 x hx, and7 y hy, rd_ok (by omega) (by decide), rd_ok (by omega) (by decide), h2 x hx, h2 y hy]
    have hx7 := hρ x hx
    have hy7 := hρ y hy
    have o1 : (1 : Int32).toInt64 = zL 1 := rfl
    have o2 : (-1 : Int32).toInt64 = zL (-1) := rfl
    obtain ⟨w1, a1, a2, a3, a4⟩ := add_ok hx7 hx7 o1 w
    obtain ⟨w2, b1, b2, b3, b4⟩ := add_ok hy7 hy7 o1 w1
    obtain ⟨w3, c1, c2, c3, c4⟩ := add_ok hx7 hy7 o2 w2
    obtain ⟨w4, d1, d2, d3, d4⟩ := add_ok hy7 hx7 o2 w3
    simp only [Option.bind_some, a1, b1, c1, d1]
    refine ⟨w4, rfl, fun k => by rw [d2, c2, b2, a2], fun l hl => by rw [d3, c3, b3, a3]; exact h2 l hl, fun r s hr hs => ?_⟩
    rw [d4 r s hr hs, c4 r s hr hs, b4 r s hr hs, a4 r s hr hs, hT r s hr hs]
    show Int64.ofInt _ + Int64.ofInt _ + Int64.ofInt _ + Int64.ofInt _ + Int64.ofInt _ = Int64.ofInt _
    rw [← Int64.ofInt_add, ← Int64.ofInt_add, ← Int64.ofInt_add, ← Int64.ofInt_add]
    congr 1
    have pr : ∀ (a b a' b' : Nat) (c : Int), (if a = b ∧ a' = b' then c else 0) = c * ((if a = b then 1 else 0) * (if a' = b' then 1 else 0)) := by
      intro a b a' b' c
      by_cases p1 : a = b
      · by_cases p2 : a' = b'
        · rw [if_pos ⟨p1, p2⟩, if_pos p1, if_pos p2]; omega
        · rw [if_neg (fun h => p2 h.2), if_neg p2, Int.mul_zero, Int.mul_zero]
      · rw [if_neg (fun h => p1 h.1), if_neg p1, Int.zero_mul, Int.mul_zero]
    rw [pr, pr, pr, pr]
    generalize (if ρ x = r + 1 then (1 : Int) else 0) = x1
    generalize (if ρ x = s + 1 then (1 : Int) else 0) = x2
    generalize (if ρ y = r + 1 then (1 : Int) else 0) = x3
    generalize (if ρ y = s + 1 then (1 : Int) else 0) = x4
    grind
section
variable {N : Nat}
/-- the rows of the places: the places but the first are numbered -/
def hdP (m : Int32) : BS := fun l => decide (0 < l) && bt m l
def rho (m : Int32) (l : Nat) : Nat := if hdP m l = true then fb_ct (hdP m) l + 1 else 0
theorem clear60_ok : ∀ fu i w, 7 - i < fu → i ≤ 7 → (∀ r s, r < i → s < 7 → gm w r s = 0) → ∃ w', f_X10_clear_60 N fu (nI i) w = some w' ∧ (∀ k, gi w' k = gi w k) ∧ (∀ k, ga w' k = ga w k) ∧ ∀ r s, r < 7 → s < 7 → gm w' r s = 0 := by
  intro fu
  induction fu with
  | zero => intro i w h; omega
  | succ fu ih =>
    intro i w hfu hi h
    unfold f_X10_clear_60
    by_cases hc : 7 ≤ i
    · rw [if_pos (show (7 : Int32) ≤ nI i from (nle (a := 7) (by omega) (by omega)).mpr hc)]
      exact ⟨w, rfl, fun _ => rfl, fun _ => rfl, fun r s hr hs => h r s (by omega) hs⟩
    · rw [if_neg (show ¬ (7 : Int32) ≤ nI i from fun h => hc ((nle (a := 7) (by omega) (by omega)).mp h)), if_pos (in_ok (by omega) (by decide)), nI_clamp (by omega), show nI i + 1 = nI (i + 1) from nadd i 1]
      obtain ⟨w', a1, a2, a3, a4⟩ := ih (i + 1) (sn w i (sp_fill (gm w i) 7 0)) (by omega) (by omega) (fun r s hr hs => by
        rw [gm_sn]
        by_cases e : r = i
        · rw [if_pos e]
          unfold sp_fill
          rw [if_pos hs]
        · rw [if_neg e]
          exact h r s (by omega) hs)
      exact ⟨w', a1, fun k => by rw [a2, gi_sn], fun k => by rw [a3, ga_sn], a4⟩
theorem clear7_ok (hN : 20 ≤ N) (m : Int32) : ∀ fu l w, 8 - l < fu → l ≤ 8 → gi w 3 = nI (fb_ct (hdP m) l) → (∀ i, i < l → ga w 2 i = rwv (rho m i)) → ∃ w', f_X10_clear_7 N fu m (nI l) w = some w' ∧ gi w' 3 = nI (fb_ct (hdP m) 8) ∧ (∀ i, i < 8 → ga w' 2 i = rwv (rho m i)) ∧ ∀ r s, r < 7 → s < 7 → gm w' r s = 0 := by
  intro fu
  induction fu with
  | zero => intro l w h; omega
  | succ fu ih =>
    intro l w hfu hl h3 h2
    unfold f_X10_clear_7 f_X10_clear_52
    by_cases hc : 8 ≤ l
    · rw [if_pos (show (8 : Int32) ≤ nI l from (nle (a := 8) (by omega) (by omega)).mpr hc)]
      have : l = 8 := by omega
      subst this
      obtain ⟨w', a1, a2, a3, a4⟩ := clear60_ok (N := N) N 0 w (by omega) (by omega) (fun r s hr => by omega)
      exact ⟨w', a1, by rw [a2]; exact h3, fun i hi => by rw [a3]; exact h2 i hi, a4⟩
    · have hcl : (nI l).toNatClampNeg = l := nI_clamp (by omega)
      have hin : sp_in (nI l) 8 = true := in_ok (by omega) (by decide)
      rw [if_neg (show ¬ (8 : Int32) ≤ nI l from fun h => hc ((nle (a := 8) (by omega) (by omega)).mp h)), if_pos hin, hcl, show nI l + 1 = nI (l + 1) from nadd l 1]
      have go : ∀ w1 : sx_C, gi w1 3 = nI (fb_ct (hdP m) (l + 1)) → ga w1 2 l = rwv (rho m l) → (∀ i, i < l → ga w1 2 i = ga w 2 i) → ∃ w', f_X10_clear_7 N fu m (nI (l + 1)) w1 = some w' ∧ gi w' 3 = nI (fb_ct (hdP m) 8) ∧ (∀ i, i < 8 → ga w' 2 i = rwv (rho m i)) ∧ ∀ r s, r < 7 → s < 7 → gm w' r s = 0 := fun w1 q1 q2 q3 => ih (l + 1) w1 (by omega) (by omega) q1 (fun i hi => by
        by_cases e : i = l
        · rw [e]; exact q2
        · rw [q3 i (by omega)]; exact h2 i (by omega))
      have upd0 : ∀ (x : Int32) i, ga (sa w 2 l x) 2 i = if i = l then x else ga w 2 i := fun x i => by
        rw [ga_sa, if_pos rfl]; rfl
      have no : hdP m l = false → ∃ w', f_X10_clear_7 N fu m (nI (l + 1)) (sa w 2 l (-1)) = some w' ∧ gi w' 3 = nI (fb_ct (hdP m) 8) ∧ (∀ i, i < 8 → ga w' 2 i = rwv (rho m i)) ∧ ∀ r s, r < 7 → s < 7 → gm w' r s = 0 := fun hh => go _ (by rw [gi_sa, fb_ct_succ, hh]; exact h3) (by
        have e0 : rho m l = 0 := by unfold rho; rw [hh]; rfl
        rw [upd0, if_pos rfl, e0]
        rfl) (fun i hi => by rw [upd0, if_neg (by omega)])
      by_cases h0 : l = 0
      · rw [if_pos (show nI l ≤ 0 from (nle (b := 0) (by omega) (by omega)).mpr (by omega))]
        exact no (by unfold hdP; rw [h0]; rfl)
      · rw [if_neg (show ¬ nI l ≤ 0 from fun h => by have := (nle (b := 0) (by omega) (by omega)).mp h; omega), has_ok _ (by omega), Option.bind_some]
        have hh : hdP m l = bt m l := by
          unfold hdP
          rw [decide_eq_true (by omega), Bool.true_and]
        cases hb : bt m l
        · rw [if_neg (by decide)]
          exact no (by rw [hh, hb])
        · rw [if_pos rfl, if_pos hin]
          have hle := fb_ct_le (hdP m) l
          refine go _ ?_ ?_ ?_
          · rw [gi_si, if_pos rfl, gi_sa, gi_sa, h3, fb_ct_succ, hh, hb]
            exact nadd _ 1
          · rw [ga_si, ga_sa, if_pos rfl]
            unfold upd
            rw [if_pos rfl, gi_sa, h3]
            unfold rho rwv
            rw [hh, hb, if_pos rfl, if_neg (by omega)]
            rfl
          · intro i hi
            rw [ga_si, ga_sa, if_pos rfl]
            unfold upd
            rw [if_neg (by omega), upd0, if_neg (by omega)]
theorem tclear_ok (hN : 20 ≤ N) (m : Int32) (w : sx_C) : ∃ w', f_X10_clear N m w = some w' ∧ gi w' 3 = nI (fb_ct (hdP m) 8) ∧ (∀ i, i < 8 → ga w' 2 i = rwv (rho m i)) ∧ ∀ r s, r < 7 → s < 7 → gm w' r s = 0 := by
  unfold f_X10_clear
  exact clear7_ok hN m N 0 _ (by omega) (by omega) (by rw [gi_si, if_pos rfl]; rfl) (fun i hi => by omega)
theorem rho_le (m : Int32) {l : Nat} (hl : l < 8) : rho m l ≤ fb_ct (hdP m) 8 ∧ fb_ct (hdP m) 8 ≤ 7 := by
  have h7 : fb_ct (hdP m) 8 ≤ 7 := by
    have h := fb_ct_split (hdP m) 1 7
    have h1 : fb_ct (hdP m) 1 = 0 := rfl
    have h2 := fb_ct_le (fun k => hdP m (1 + k)) 7
    have h : fb_ct (hdP m) 8 = fb_ct (hdP m) 1 + fb_ct (fun k => hdP m (1 + k)) 7 := h
    omega
  refine ⟨?_, h7⟩
  unfold rho
  by_cases h : hdP m l = true
  · rw [if_pos h]
    have := fb_ct_mono (hdP m) (show l + 1 ≤ 8 by omega)
    rw [fb_ct_succ, h] at this
    simpa using this
  · rw [if_neg h]
    omega
theorem rho_inj {m : Int32} {a b : Nat} (ha : bt m a = true) (hb : bt m b = true) (h : rho m a = rho m b) : a = b := by
  have hh : ∀ l, 0 < l → hdP m l = bt m l := fun l hl => by
    unfold hdP
    rw [decide_eq_true hl, Bool.true_and]
  have h0 : rho m 0 = 0 := rfl
  by_cases a0 : a = 0
  · by_cases b0 : b = 0
    · omega
    · rw [a0, h0] at h
      unfold rho at h
      rw [if_pos (by rw [hh b (by omega)]; exact hb)] at h
      omega
  · by_cases b0 : b = 0
    · rw [b0, h0] at h
      unfold rho at h
      rw [if_pos (by rw [hh a (by omega)]; exact ha)] at h
      omega
    · have qa : hdP m a = true := by rw [hh a (by omega)]; exact ha
      have qb : hdP m b = true := by rw [hh b (by omega)]; exact hb
      unfold rho at h
      rw [if_pos qa, if_pos qb] at h
      exact fb_ct_kth_one qa qb (by omega)
theorem rk_inj {u v u' v' ρ σ : Nat → Nat} (h8 : ∀ i, u i < 8 ∧ v i < 8) (h8' : ∀ i, u' i < 8 ∧ v' i < 8) (hu : ∀ i, u' i = ρ (u i) ∧ v' i = ρ (v i)) (hs : ∀ i, σ (u' i) = u i ∧ σ (v' i) = v i) (S : BS) : rk u' v' S = rk u v S := by
  have hg : ∀ S x, gs u' v' S x = gs u v S x := fun S x => by
    unfold gs
    refine sB_eq ?_
    rw [beq_iff_eq, beq_iff_eq]
    constructor
    · intro h
      have := la_least (u := u') (v := v') (S := S) (q := fun k => la u v S (σ k)) (fun i hi h9 => by
        show la u v S (σ (u' i)) = la u v S (σ (v' i))
        rw [(hs i).1, (hs i).2]
        exact la_in hi h9) h
      have this : la u v S (σ (u' x)) = la u v S (σ (v' x)) := this
      rw [(hs x).1, (hs x).2] at this
      exact this
    · intro h
      have := la_least (u := u) (v := v) (S := S) (q := fun k => la u' v' S (ρ k)) (fun i hi h9 => by
        show la u' v' S (ρ (u i)) = la u' v' S (ρ (v i))
        rw [← (hu i).1, ← (hu i).2]
        exact la_in hi h9) h
      have this : la u' v' S (ρ (u x)) = la u' v' S (ρ (v x)) := this
      rw [← (hu x).1, ← (hu x).2] at this
      exact this
  have h1 := q_two_ranks (gs_mat h8') (gs_mat h8) (A := q0) (S := S) (fun k _ _ => hg _ k)
  have h2 := (gs_mat h8').2.2.1 (qU q0 S) S (fun i _ => by unfold qU q0; simp)
  have h3 := (gs_mat h8').2.2.2
  omega
theorem cS_nt (m : Nat) : ∀ k (Q : BS → Bool), fb_ct (fun t => (t &&& m == t) && Q (tB t)) (2 ^ k) = nt (tB m) k Q
  | 0, Q => by
    show (0 : Nat) + (if ((0 &&& m == 0) && Q (tB 0)) = true then 1 else 0) = if Q q0 = true then 1 else 0
    have e : tB 0 = q0 := funext (fun i => Nat.zero_testBit i)
    rw [e, Nat.zero_and, beq_self_eq_true, Bool.true_and, Nat.zero_add]
  | k + 1, Q => by
    have hor : ∀ n, n < 2 ^ k → 2 ^ k + n = n ||| 2 ^ k := fun n hn => by
      have := Nat.two_pow_add_eq_or_of_lt hn 1
      rw [Nat.mul_one] at this
      rw [this, Nat.or_comm]
    unfold nt
    rw [Nat.pow_succ, Nat.mul_two, fb_ct_split, cS_nt m k Q]
    congr 1
    have hsub : ∀ n, n < 2 ^ k → ((2 ^ k + n) &&& m == 2 ^ k + n) = (m.testBit k && (n &&& m == n)) := fun n hn => by
      rw [hor n hn]
      refine sB_eq ?_
      rw [sB_t, sbs_iff, Bool.and_eq_true, sB_t, sbs_iff]
      constructor
      · intro h
        exact ⟨h k (by rw [Nat.testBit_or, Nat.testBit_two_pow_self, Bool.or_true]), fun i hi => h i (by rw [Nat.testBit_or, hi, Bool.true_or])⟩
      · rintro ⟨h1, h2⟩ i hi
        rw [Nat.testBit_or, Nat.testBit_two_pow] at hi
        by_cases e : k = i
        · rw [← e]; exact h1
        · exact h2 i (by simpa [e] using hi)
    by_cases hm : m.testBit k = true
    · rw [if_pos (show tB m k = true from hm), ← cS_nt m k]
      refine fb_ct_cong (fun n hn => ?_)
      rw [hsub n hn, hm, Bool.true_and, hor n hn, tB_or]
    · rw [if_neg (show ¬ tB m k = true from hm)]
      refine fb_ct_zero.mpr (fun n hn => ?_)
      rw [hsub n hn]
      have : m.testBit k = false := by cases h : m.testBit k; rfl; exact absurd h hm
      rw [this, Bool.false_and, Bool.false_and]
end
