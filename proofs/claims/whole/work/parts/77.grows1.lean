/-! ===== the model's grows: the search ===== -/
def mArc (u' v' : Nat → Nat) (F : Bool → BS) (f : Bool) (a b : Nat) : Prop := F f b = true ∧ F f a = false ∧ gs u' v' (F f) a = true ∧ gs u' v' (qE (F f) b) a = false
def mSea (u' v' : Nat → Nat) (F : Bool → BS) (x : Nat) (xG : sx_C) (qe pr : Nat → Nat) (size hd : Nat) (seen : Int32) : Prop :=
  (size ≤ 17 ∧ hd ≤ size ∧ 0 < size ∧ fb_ct (bt seen) 17 = size) ∧ (∀ t, t < size → qe t < 17 ∧ ga xG 40 t = nI (qe t)) ∧ (∀ t t', t < t' → t' < size → qe t ≠ qe t') ∧ (∀ z, bt seen z = true ↔ ∃ t, t < size ∧ qe t = z) ∧ (qe 0 = x ∧ ga xG 41 x = -1) ∧
  (∀ t, 0 < t → t < size → pr t < t ∧ ga xG 41 (qe t) = nI (qe (pr t)) ∧ ∃ f, ga xG 42 (qe t) = nI (cdF f) ∧ mArc u' v' F f (qe (pr t)) (qe t)) ∧
  (∀ t, 0 < t → t < size → ∀ t', t' < pr t → ∀ f, F f (qe t') = false → F f (qe t) = true → gs u' v' (qE (F f) (qe t)) (qe t') = true) ∧
  (∀ t, t < hd → ∀ f, F f (qe t) = true ∨ (gs u' v' (F f) (qe t) = true ∧ ∀ z, qC (gs u' v') (F f) (qe t) z = true → bt seen z = true))
theorem msea_way {u' v' : Nat → Nat} {F : Bool → BS} {x : Nat} {xG : sx_C} {qe pr : Nat → Nat} {size hd : Nat} {seen : Int32} (h : mSea u' v' F x xG qe pr size hd seen) (hdis : ∀ z, ¬ (F true z = true ∧ F false z = true)) (hx : ∀ t, F t x = false) (hh : hd < size) {t : Bool} (hend : F t (qe hd) = false ∧ gs u' v' (F t) (qe hd) = false) :
    ∃ (k : Nat) (pa : Nat → Nat) (fo : Nat → Bool), k < 17 ∧ pa k = qe hd ∧ fo k = t ∧ pa 0 = x ∧ (∀ i, i ≤ k → pa i < 17) ∧ (∀ i j, i < j → j ≤ k → pa i ≠ pa j) ∧ ga xG 41 (pa 0) = -1 ∧ (∀ i, i < k → ga xG 41 (pa (i + 1)) = nI (pa i) ∧ ga xG 42 (pa (i + 1)) = nI (cdF (fo i))) ∧ (∀ i, i < k → fo (i + 1) = !fo i) ∧ qWay (fun _ => rk u' v') (fun _ => gs u' v') F pa fo k := by
  obtain ⟨⟨s1, s2, s3, s4⟩, h1, h2, h3, ⟨h4, h5⟩, h6, h7, h8⟩ := h
  obtain ⟨k, pos, p0, pk, pkt, ple, pst⟩ := way_pos pr (hd + 1) hd (by omega) (fun s hs1 hs2 => (h6 s hs1 (by omega)).1)
  have hinc : ∀ d i, i + d ≤ k → pos i ≤ pos (i + d) ∧ (0 < d → pos i < pos (i + d)) := by
    intro d
    induction d with
    | zero => intro i _; exact ⟨Nat.le_refl _, fun h => absurd h (Nat.lt_irrefl 0)⟩
    | succ d ih =>
      intro i hi
      have a := ih i (by omega)
      have b := (pst (i + d) (by omega)).2
      rw [show i + d + 1 = i + (d + 1) by omega] at b
      exact ⟨by omega, fun _ => by omega⟩
  have hlt : ∀ i j, i < j → j ≤ k → pos i < pos j := fun i j hij hj => by
    have := (hinc (j - i) i (by omega)).2 (by omega)
    rwa [show i + (j - i) = j by omega] at this
  have hpos0 : ∀ i, i < k → 0 < pos (i + 1) := fun i hi => by have := hlt 0 (i + 1) (by omega) (by omega); omega
  have hin : ∀ i, i ≤ k → pos i < size := fun i hi => by have := ple i hi; omega
  have hfo : ∀ i, i < k → ga xG 42 (qe (pos (i + 1))) = nI (cdF (F true (qe (pos (i + 1))))) ∧ mArc u' v' F (F true (qe (pos (i + 1)))) (qe (pos i)) (qe (pos (i + 1))) := fun i hi => by
    obtain ⟨-, -, f, hf0, hf⟩ := h6 (pos (i + 1)) (hpos0 i hi) (hin (i + 1) (by omega))
    rw [← (pst i hi).1] at hf
    have : F true (qe (pos (i + 1))) = f := by
      cases hf2 : f
      · rw [hf2] at hf
        cases h9 : F true (qe (pos (i + 1)))
        · rfl
        · exact absurd ⟨h9, hf.1⟩ (hdis _)
      · rw [hf2] at hf; exact hf.1
    rw [this]; exact ⟨hf0, hf⟩
  have hW : qWay (fun _ => rk u' v') (fun _ => gs u' v') F (fun i => qe (pos i)) (fun i => if i < k then F true (qe (pos (i + 1))) else t) k := by
    refine ⟨fun i hi => by have := (h1 _ (hin i hi)).1; show qe (pos i) < 32; omega, fun i j hij hj => h2 _ _ (hlt i j hij hj) (hin j hj), fun t => ?_, fun i hi => ?_, fun t i j hij hj hf1 hf2 => ?_, ?_⟩
    · show F t (qe (pos 0)) = false
      rw [p0, h4]; exact hx t
    · dsimp only
      rw [if_pos hi]
      exact (hfo i hi).2
    · have hpj : pos (j - 1) = pr (pos j) := by
        have := (pst (j - 1) (by omega)).1
        rwa [show j - 1 + 1 = j by omega] at this
      have h9 : pos i < pr (pos j) := by
        rw [← hpj]; exact hlt i (j - 1) (by omega) (by omega)
      have h10 : 0 < pos j := by have := hpos0 (j - 1) (by omega); rwa [show j - 1 + 1 = j by omega] at this
      exact h7 (pos j) h10 (hin j hj) (pos i) h9 t hf1 hf2
    · dsimp only
      rw [if_neg (Nat.lt_irrefl k), pk]
      exact hend
  refine ⟨k, fun i => qe (pos i), fun i => if i < k then F true (qe (pos (i + 1))) else t, by omega, by show qe (pos k) = qe hd; rw [pk], by simp, by show qe (pos 0) = x; rw [p0]; exact h4, fun i hi => (h1 _ (hin i hi)).1, fun i j hij hj => h2 _ _ (hlt i j hij hj) (hin j hj), ?_, fun i hi => ⟨?_, ?_⟩, fun i hi => ?_, hW⟩
  · show ga xG 41 (qe (pos 0)) = -1
    rw [p0, h4]; exact h5
  · show ga xG 41 (qe (pos (i + 1))) = nI (qe (pos i))
    have := (h6 (pos (i + 1)) (hpos0 i hi) (hin (i + 1) (by omega))).2.1
    rw [this, ← (pst i hi).1]
  · show ga xG 42 (qe (pos (i + 1))) = nI (cdF (if i < k then F true (qe (pos (i + 1))) else t))
    rw [if_pos hi]; exact (hfo i hi).1
  · have a := (hW.2.2.2.1 i hi).1
    by_cases hk : i + 1 < k
    · have b := (hW.2.2.2.1 (i + 1) hk).2.1
      cases h7 : (fun i => if i < k then F true (qe (pos (i + 1))) else t) i <;> cases h8 : (fun i => if i < k then F true (qe (pos (i + 1))) else t) (i + 1) <;> rw [h7] at a <;> rw [h8] at b
      · rw [a] at b; cases b
      · rfl
      · rfl
      · rw [a] at b; cases b
    · have e : i + 1 = k := by omega
      have b := hW.2.2.2.2.2.1
      rw [← e] at b
      cases h7 : (fun i => if i < k then F true (qe (pos (i + 1))) else t) i <;> cases h8 : (fun i => if i < k then F true (qe (pos (i + 1))) else t) (i + 1) <;> rw [h7] at a <;> rw [← e] at h8 <;> simp_all
theorem msea_add {u' v' : Nat → Nat} {F : Bool → BS} {x : Nat} {xG : sx_C} {qe pr : Nat → Nat} {size hd : Nat} {seen : Int32} (h : mSea u' v' F x xG qe pr size hd seen) (hh : hd < size) {z : Nat} (hz : z < 17) (hs : bt seen z = false) {f : Bool} (ha : mArc u' v' F f (qe hd) z) :
    size < 17 ∧ mSea u' v' F x (sa (sa (sa xG 41 z (nI (qe hd))) 42 z (nI (cdF f))) 40 size (nI z)) (fun t => if t = size then z else qe t) (fun t => if t = size then hd else pr t) (size + 1) hd (seen ||| sp_shl 1 (nI z)) := by
  obtain ⟨⟨s1, s2, s3, s4⟩, h1, h2, h3, ⟨h4, h5⟩, h6, h7, h8⟩ := h
  have hold : ∀ t, t < size → bt seen (qe t) = true := fun t ht => (h3 (qe t)).mpr ⟨t, ht, rfl⟩
  have hnew : ∀ t, t < size → qe t ≠ z := fun t ht e => by have := hold t ht; rw [e, hs] at this; cases this
  have hb : ∀ y, bt (seen ||| sp_shl 1 (nI z)) y = (bt seen y || decide (y = z)) := fun y => by rw [b_or, bit_all hz]
  have hcu : fb_ct (bt (seen ||| sp_shl 1 (nI z))) 17 = size + 1 := by
    rw [← s4, ← qc_ins (S := bt seen) (x := z) (n := 17) hz hs]
    exact fb_ct_cong (fun y _ => hb y)
  have hle : size + 1 ≤ 17 := by rw [← hcu]; exact fb_ct_le _ 17
  have g41 : ∀ y, ga (sa (sa (sa xG 41 z (nI (qe hd))) 42 z (nI (cdF f))) 40 size (nI z)) 41 y = if y = z then nI (qe hd) else ga xG 41 y := fun y => by
    rw [ga_sa, if_neg (by decide), ga_sa, if_neg (by decide), ga_up]
  have g42 : ∀ y, ga (sa (sa (sa xG 41 z (nI (qe hd))) 42 z (nI (cdF f))) 40 size (nI z)) 42 y = if y = z then nI (cdF f) else ga xG 42 y := fun y => by
    rw [ga_sa, if_neg (by decide), ga_up, ga_sa xG 41 z 42 (nI (qe hd)), if_neg (by decide : ¬ 42 = 41)]
  have g40 : ∀ y, ga (sa (sa (sa xG 41 z (nI (qe hd))) 42 z (nI (cdF f))) 40 size (nI z)) 40 y = if y = size then nI z else ga xG 40 y := fun y => by
    rw [ga_up, ga_sa (sa xG 41 z (nI (qe hd))) 42 z 40 (nI (cdF f)), if_neg (by decide : ¬ 40 = 42), ga_sa xG 41 z 40 (nI (qe hd)), if_neg (by decide : ¬ 40 = 41)]
  have q1 : ∀ t, t < size → (if t = size then z else qe t) = qe t := fun t ht => if_neg (by omega)
  have p1 : ∀ t, t < size → (if t = size then hd else pr t) = pr t := fun t ht => if_neg (by omega)
  have hsub : ∀ y, bt seen y = true → bt (seen ||| sp_shl 1 (nI z)) y = true := fun y hy => by rw [hb, hy]; rfl
  refine ⟨by omega, ⟨hle, by omega, by omega, hcu⟩, fun t ht => ?_, fun t t' htt ht' => ?_, fun y => ?_, ⟨?_, ?_⟩, fun t ht0 ht => ?_, fun t ht0 ht t' ht' f' hf1 hf2 => ?_, fun t ht f' => ?_⟩
  · dsimp only
    rw [g40]
    by_cases e : t = size
    · rw [if_pos e, if_pos e]; exact ⟨hz, rfl⟩
    · rw [if_neg e, if_neg e]; exact h1 t (by omega)
  · dsimp only
    rw [q1 t (by omega)]
    by_cases e : t' = size
    · rw [if_pos e]; exact hnew t (by omega)
    · rw [if_neg e]; exact h2 t t' htt (by omega)
  · rw [hb]
    constructor
    · intro hy
      cases h9 : bt seen y
      · rw [h9] at hy
        have hy : decide (y = z) = true := by simpa using hy
        exact ⟨size, by omega, by dsimp only; rw [if_pos rfl]; exact (of_decide_eq_true hy).symm⟩
      · obtain ⟨t, a, b⟩ := (h3 y).mp h9
        exact ⟨t, by omega, by dsimp only; rw [q1 t a]; exact b⟩
    · rintro ⟨t, a, b⟩
      dsimp only at b
      by_cases e : t = size
      · rw [if_pos e] at b; simp [b]
      · rw [if_neg e] at b
        rw [← b, hold t (by omega)]; rfl
  · dsimp only; rw [q1 0 s3]; exact h4
  · rw [g41, if_neg (fun e => hnew 0 s3 (by rw [h4]; exact e))]; exact h5
  · dsimp only
    rw [g41, g42]
    by_cases e : t = size
    · rw [if_pos e, if_pos e, if_pos rfl, if_pos rfl, q1 hd hh]
      exact ⟨by omega, rfl, f, rfl, ha⟩
    · rw [if_neg e, if_neg e, if_neg (hnew t (by omega)), if_neg (hnew t (by omega))]
      obtain ⟨a, b, c⟩ := h6 t ht0 (by omega)
      rw [q1 (pr t) (by omega)]
      exact ⟨a, b, c⟩
  · dsimp only at ht' hf1 hf2 ⊢
    by_cases e : t = size
    · rw [if_pos e] at ht' hf2 ⊢
      rw [q1 t' (by omega)] at hf1 ⊢
      rcases h8 t' ht' f' with h9 | ⟨-, h9⟩
      · rw [h9] at hf1; cases hf1
      · cases h10 : gs u' v' (qE (F f') z) (qe t')
        · have := h9 z (by unfold qC; rw [hf2, h10]; rfl)
          rw [hs] at this; cases this
        · rfl
    · rw [if_neg e] at ht' hf2 ⊢
      have := (h6 t ht0 (by omega)).1
      rw [q1 t' (by omega)] at hf1 ⊢
      exact h7 t ht0 (by omega) t' ht' f' hf1 hf2
  · dsimp only
    rw [q1 t (by omega)]
    rcases h8 t ht f' with h9 | ⟨h9, h10⟩
    · exact Or.inl h9
    · exact Or.inr ⟨h9, fun y hy => hsub y (h10 y hy)⟩
