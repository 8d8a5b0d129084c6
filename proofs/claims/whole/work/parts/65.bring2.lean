/-! ===== bring: the search ===== -/
theorem way_pos (pr : Nat → Nat) : ∀ n t, t < n → (∀ s, 0 < s → s ≤ t → pr s < s) → ∃ (k : Nat) (pos : Nat → Nat), pos 0 = 0 ∧ pos k = t ∧ k ≤ t ∧ (∀ i, i ≤ k → pos i ≤ t) ∧ ∀ i, i < k → pos i = pr (pos (i + 1)) ∧ pos i < pos (i + 1) := by
  intro n
  induction n with
  | zero => intro t h; omega
  | succ n ih =>
    intro t ht hpr
    by_cases h0 : t = 0
    · subst h0
      exact ⟨0, fun _ => 0, rfl, rfl, Nat.le_refl _, fun _ _ => Nat.le_refl _, fun i hi => by omega⟩
    · have hlt := hpr t (by omega) (Nat.le_refl _)
      obtain ⟨k, pos, p0, pk, pkt, ple, pst⟩ := ih (pr t) (by omega) (fun s h1 h2 => hpr s h1 (by omega))
      refine ⟨k + 1, fun i => if i ≤ k then pos i else t, by simp [p0], if_neg (by omega), by omega, fun i hi => ?_, fun i hi => ?_⟩
      · show (if i ≤ k then pos i else t) ≤ t
        by_cases h : i ≤ k
        · rw [if_pos h]; have := ple i h; omega
        · rw [if_neg h]; exact Nat.le_refl _
      · show (if i ≤ k then pos i else t) = pr (if i + 1 ≤ k then pos (i + 1) else t) ∧ (if i ≤ k then pos i else t) < (if i + 1 ≤ k then pos (i + 1) else t)
        rw [if_pos (by omega)]
        by_cases h : i + 1 ≤ k
        · rw [if_pos h]; exact pst i (by omega)
        · rw [if_neg h]
          have : i = k := by omega
          subst this
          rw [pk]; exact ⟨rfl, hlt⟩
def rr (u' v' : Nat → Nat) (Bq : BS) : Bool → BS → Nat := fun t => if t = true then rB (rk u' v') Bq else rk u' v'
def ss (u' v' : Nat → Nat) (Bq : BS) : Bool → BS → Nat → Bool := fun t => if t = true then sB (gs u' v') Bq else gs u' v'
theorem rr_mat {u' v' : Nat → Nat} (hk : ∀ i, u' i < 8 ∧ v' i < 8) (Bq : BS) : ∀ t, qM (rr u' v' Bq t) (ss u' v' Bq t) := fun t => by
  cases t
  · exact gs_mat hk
  · exact rB_mat (gs_mat hk) Bq
def qArc (u' v' : Nat → Nat) (Bq : BS) (F : Bool → BS) (f : Bool) (a b : Nat) : Prop := F f b = true ∧ F f a = false ∧ ss u' v' Bq f (F f) a = true ∧ ss u' v' Bq f (qE (F f) b) a = false
def qSea (u' v' : Nat → Nat) (Bq : BS) (F : Bool → BS) (x : Nat) (uF : sx_C) (qe pr : Nat → Nat) (size head : Nat) (seen : Int32) : Prop :=
  (size ≤ 17 ∧ head ≤ size ∧ 0 < size ∧ fb_ct (bt seen) 17 = size) ∧ (∀ t, t < size → qe t < 17 ∧ ga uF 3 t = nI (qe t)) ∧ (∀ t t', t < t' → t' < size → qe t ≠ qe t') ∧ (∀ z, bt seen z = true ↔ ∃ t, t < size ∧ qe t = z) ∧ (qe 0 = x ∧ ga uF 2 x = -1) ∧
  (∀ t, 0 < t → t < size → pr t < t ∧ pr t < head ∧ ga uF 2 (qe t) = nI (qe (pr t)) ∧ ∃ f, qArc u' v' Bq F f (qe (pr t)) (qe t)) ∧
  (∀ t, 0 < t → t < size → ∀ t', t' < pr t → ∀ f, F f (qe t') = false → F f (qe t) = true → ss u' v' Bq f (qE (F f) (qe t)) (qe t') = true) ∧
  (∀ t, t < head → ∀ f, F f (qe t) = true ∨ (ss u' v' Bq f (F f) (qe t) = true ∧ ∀ z, qC (ss u' v' Bq f) (F f) (qe t) z = true → bt seen z = true))
/-- the way to where the search stands -/
theorem sea_way {u' v' : Nat → Nat} {Bq : BS} {F : Bool → BS} {x : Nat} {uF : sx_C} {qe pr : Nat → Nat} {size head : Nat} {seen : Int32} (h : qSea u' v' Bq F x uF qe pr size head seen) (hdis : ∀ z, ¬ (F true z = true ∧ F false z = true)) (hx : ∀ t, F t x = false) (hh : head < size) {t : Bool} (hend : F t (qe head) = false ∧ ss u' v' Bq t (F t) (qe head) = false) :
    ∃ (k : Nat) (pa : Nat → Nat) (fo : Nat → Bool), k < 17 ∧ pa k = qe head ∧ fo k = t ∧ pa 0 = x ∧ (∀ i, i ≤ k → pa i < 17) ∧ (∀ i j, i < j → j ≤ k → pa i ≠ pa j) ∧ ga uF 2 (pa 0) = -1 ∧ (∀ i, i < k → ga uF 2 (pa (i + 1)) = nI (pa i)) ∧ (∀ i, i < k → F (fo i) (pa (i + 1)) = true) ∧ qWay (rr u' v' Bq) (ss u' v' Bq) F pa fo k := by
  obtain ⟨⟨s1, s2, s3, s4⟩, h1, h2, h3, ⟨h4, h5⟩, h6, h7, h8⟩ := h
  obtain ⟨k, pos, p0, pk, pkt, ple, pst⟩ := way_pos pr (head + 1) head (by omega) (fun s hs1 hs2 => (h6 s hs1 (by omega)).1)
  have hinc : ∀ d i, i + d ≤ k → pos i ≤ pos (i + d) ∧ (0 < d → pos i < pos (i + d)) := by
    intro d
    induction d with
    | zero => intro i _; exact ⟨Nat.le_refl _, fun h => absurd h (Nat.lt_irrefl 0)⟩
    | succ d ih =>
      intro i hi
      have a := ih i (by omega)
      have b := (pst (i + d) (by omega)).2
      rw [show i + d + 1 = i + (d + 1) by omega] at b
      exact ⟨by omega, fun _ => by omega⟩
  have hlt : ∀ i j, i < j → j ≤ k → pos i < pos j := fun i j hij hj => by
    have := (hinc (j - i) i (by omega)).2 (by omega)
    rwa [show i + (j - i) = j by omega] at this
  have hle : ∀ i j, i ≤ j → j ≤ k → pos i ≤ pos j := fun i j hij hj => by
    have := (hinc (j - i) i (by omega)).1
    rwa [show i + (j - i) = j by omega] at this
  have hpos0 : ∀ i, i < k → 0 < pos (i + 1) := fun i hi => by have := hlt 0 (i + 1) (by omega) (by omega); omega
  have hin : ∀ i, i ≤ k → pos i < size := fun i hi => by have := ple i hi; omega
  have harc : ∀ i, i < k → ∃ f, qArc u' v' Bq F f (qe (pos i)) (qe (pos (i + 1))) := fun i hi => by
    obtain ⟨-, -, -, f, hf⟩ := h6 (pos (i + 1)) (hpos0 i hi) (hin (i + 1) (by omega))
    rw [← (pst i hi).1] at hf
    exact ⟨f, hf⟩
  have hfo : ∀ i, i < k → qArc u' v' Bq F (F true (qe (pos (i + 1)))) (qe (pos i)) (qe (pos (i + 1))) := fun i hi => by
    obtain ⟨f, hf⟩ := harc i hi
    have : F true (qe (pos (i + 1))) = f := by
      cases hf2 : f
      · rw [hf2] at hf
        cases h9 : F true (qe (pos (i + 1)))
        · rfl
        · exact absurd ⟨h9, hf.1⟩ (hdis _)
      · rw [hf2] at hf; exact hf.1
    rw [this]; exact hf
  refine ⟨k, fun i => qe (pos i), fun i => if i < k then F true (qe (pos (i + 1))) else t, by omega, by show qe (pos k) = qe head; rw [pk], by simp, by show qe (pos 0) = x; rw [p0]; exact h4, fun i hi => (h1 _ (hin i hi)).1, fun i j hij hj => h2 _ _ (hlt i j hij hj) (hin j hj), ?_, fun i hi => ?_, fun i hi => ?_, ?_⟩
  · show ga uF 2 (qe (pos 0)) = -1
    rw [p0, h4]; exact h5
  · show ga uF 2 (qe (pos (i + 1))) = nI (qe (pos i))
    have := (h6 (pos (i + 1)) (hpos0 i hi) (hin (i + 1) (by omega))).2.2.1
    rw [this, ← (pst i hi).1]
  · show F (if i < k then F true (qe (pos (i + 1))) else t) (qe (pos (i + 1))) = true
    rw [if_pos hi]; exact (hfo i hi).1
  · refine ⟨fun i hi => by have := (h1 _ (hin i hi)).1; show qe (pos i) < 32; omega, fun i j hij hj => h2 _ _ (hlt i j hij hj) (hin j hj), fun t => ?_, fun i hi => ?_, fun t i j hij hj hf1 hf2 => ?_, ?_⟩
    · show F t (qe (pos 0)) = false
      rw [p0, h4]; exact hx t
    · dsimp only
      rw [if_pos hi]
      exact hfo i hi
    · have hpj : pos (j - 1) = pr (pos j) := by
        have := (pst (j - 1) (by omega)).1
        rwa [show j - 1 + 1 = j by omega] at this
      have h9 : pos i < pr (pos j) := by
        rw [← hpj]; exact hlt i (j - 1) (by omega) (by omega)
      have h10 : 0 < pos j := by have := hpos0 (j - 1) (by omega); rwa [show j - 1 + 1 = j by omega] at this
      exact h7 (pos j) h10 (hin j hj) (pos i) h9 t hf1 hf2
    · dsimp only
      rw [if_neg (Nat.lt_irrefl k), pk]
      exact hend
/-- the fresh ones come to the queue -/
theorem sea_more {u' v' : Nat → Nat} {Bq : BS} {F : Bool → BS} {x : Nat} {uF uF' : sx_C} {qe pr : Nat → Nat} {size head : Nat} {seen fr : Int32} (h : qSea u' v' Bq F x uF qe pr size head seen) (hh : head < size) (hfr17 : ∀ z, bt fr z = true → z < 17) (hfr : ∀ z, bt fr z = true → bt seen z = false) (harc : ∀ z, bt fr z = true → ∃ f, qArc u' v' Bq F f (qe head) z)
    (hproc : ∀ f, F f (qe head) = true ∨ (ss u' v' Bq f (F f) (qe head) = true ∧ ∀ z, qC (ss u' v' Bq f) (F f) (qe head) z = true → bt (seen ||| fr) z = true))
    (g2 : ∀ z, z < 17 → ga uF' 2 z = if bt fr z = true then nI (qe head) else ga uF 2 z) (g3 : ∀ t, t < size → ga uF' 3 t = ga uF 3 t) (g4 : ∀ z, z < 17 → bt fr z = true → ga uF' 3 (size + fb_ct (bt fr) z) = nI z) :
    size + fb_ct (bt fr) 17 ≤ 17 ∧ ∃ qe' pr', qSea u' v' Bq F x uF' qe' pr' (size + fb_ct (bt fr) 17) (head + 1) (seen ||| fr) := by
  obtain ⟨⟨s1, s2, s3, s4⟩, h1, h2, h3, ⟨h4, h5⟩, h6, h7, h8⟩ := h
  have hcu : fb_ct (bt (seen ||| fr)) 17 = size + fb_ct (bt fr) 17 := by
    rw [← s4, ← fb_ct_or (p := bt seen) (q := bt fr) (fun k _ hk => by rw [hfr k hk.2] at hk; exact absurd hk.1 (by decide))]
    exact fb_ct_cong (fun k _ => b_or seen fr k)
  have hle : size + fb_ct (bt fr) 17 ≤ 17 := by rw [← hcu]; exact fb_ct_le _ 17
  refine ⟨hle, ?_⟩
  -- the c-th fresh one
  have hkth : ∀ c, ∃ z, c < fb_ct (bt fr) 17 → z < 17 ∧ bt fr z = true ∧ fb_ct (bt fr) z = c := fun c => by
    by_cases hc : c < fb_ct (bt fr) 17
    · obtain ⟨i, a, b, d⟩ := fb_ct_kth hc
      exact ⟨i, fun _ => ⟨a, b, d⟩⟩
    · exact ⟨0, fun h => absurd h hc⟩
  obtain ⟨kz, hkz⟩ : ∃ kz : Nat → Nat, ∀ c, c < fb_ct (bt fr) 17 → kz c < 17 ∧ bt fr (kz c) = true ∧ fb_ct (bt fr) (kz c) = c := ⟨fun c => (hkth c).choose, fun c => (hkth c).choose_spec⟩
  have hold : ∀ t, t < size → bt seen (qe t) = true := fun t ht => (h3 (qe t)).mpr ⟨t, ht, rfl⟩
  have hq1 : ∀ t, t < size → (if t < size then qe t else kz (t - size)) = qe t := fun t ht => if_pos ht
  have hq2 : ∀ t, size ≤ t → (if t < size then qe t else kz (t - size)) = kz (t - size) := fun t ht => if_neg (by omega)
  have hp1 : ∀ t, t < size → (if t < size then pr t else head) = pr t := fun t ht => if_pos ht
  have hp2 : ∀ t, size ≤ t → (if t < size then pr t else head) = head := fun t ht => if_neg (by omega)
  refine ⟨fun t => if t < size then qe t else kz (t - size), fun t => if t < size then pr t else head, ⟨hle, by omega, by omega, hcu⟩, fun t ht => ?_, fun t t' htt ht' => ?_, fun z => ?_, ⟨?_, ?_⟩, fun t ht0 ht => ?_, fun t ht0 ht t' ht' f hf1 hf2 => ?_, fun t ht f => ?_⟩
  · dsimp only
    rcases Nat.lt_or_ge t size with hts | hts
    · rw [hq1 t hts]
      exact ⟨(h1 t hts).1, by rw [g3 t hts]; exact (h1 t hts).2⟩
    · rw [hq2 t hts]
      obtain ⟨a, b, c⟩ := hkz (t - size) (by omega)
      refine ⟨a, ?_⟩
      have := g4 (kz (t - size)) a b
      rw [c, show size + (t - size) = t by omega] at this
      exact this
  · dsimp only
    rcases Nat.lt_or_ge t' size with hts | hts
    · rw [hq1 t (by omega), hq1 t' hts]; exact h2 t t' htt hts
    · obtain ⟨a, b, c⟩ := hkz (t' - size) (by omega)
      rw [hq2 t' hts]
      rcases Nat.lt_or_ge t size with hts2 | hts2
      · rw [hq1 t hts2]
        intro e
        have := hold t hts2
        rw [e, hfr _ b] at this; cases this
      · rw [hq2 t hts2]
        obtain ⟨a2, b2, c2⟩ := hkz (t - size) (by omega)
        intro e
        rw [e, c] at c2
        omega
  · rw [b_or]
    constructor
    · intro hz
      cases hs : bt seen z
      · rw [hs] at hz
        have hz : bt fr z = true := by simpa using hz
        have hz17 := hfr17 z hz
        have hcz : fb_ct (bt fr) z < fb_ct (bt fr) 17 := by
          have := fb_ct_mono (bt fr) (m := z + 1) (n := 17) (by omega)
          rw [fb_ct_succ, if_pos hz] at this
          omega
        refine ⟨size + fb_ct (bt fr) z, by omega, ?_⟩
        dsimp only
        rw [hq2 _ (by omega), show size + fb_ct (bt fr) z - size = fb_ct (bt fr) z by omega]
        obtain ⟨a, b, c⟩ := hkz _ hcz
        exact fb_ct_kth_one b hz c
      · obtain ⟨t, ht, e⟩ := (h3 z).mp hs
        exact ⟨t, by omega, by dsimp only; rw [hq1 t ht]; exact e⟩
    · rintro ⟨t, ht, e⟩
      dsimp only at e
      rcases Nat.lt_or_ge t size with hts | hts
      · rw [hq1 t hts] at e
        rw [← e, hold t hts]; rfl
      · rw [hq2 t hts] at e
        rw [← e, (hkz (t - size) (by omega)).2.1]; simp
  · dsimp only; rw [hq1 0 s3]; exact h4
  · have hx17 := (h1 0 s3).1
    rw [h4] at hx17
    rw [g2 x hx17, if_neg (fun hb => by
      have := hold 0 s3
      rw [h4, hfr x hb] at this; cases this)]
    exact h5
  · dsimp only
    rcases Nat.lt_or_ge t size with hts | hts
    · rw [hp1 t hts, hq1 t hts]
      obtain ⟨a, b, c, d⟩ := h6 t ht0 hts
      rw [hq1 (pr t) (by omega)]
      refine ⟨a, by omega, ?_, d⟩
      rw [g2 _ (h1 t hts).1, if_neg (fun hb => by have := hold t hts; rw [hfr _ hb] at this; cases this)]
      exact c
    · rw [hp2 t hts, hq2 t hts, hq1 head hh]
      obtain ⟨a, b, c⟩ := hkz (t - size) (by omega)
      exact ⟨by omega, by omega, by rw [g2 _ a, if_pos b], harc _ b⟩
  · dsimp only at ht' hf1 hf2 ⊢
    rcases Nat.lt_or_ge t size with hts | hts
    · rw [hp1 t hts] at ht'
      have := (h6 t ht0 hts).1
      rw [hq1 t hts] at hf2 ⊢
      rw [hq1 t' (by omega)] at hf1 ⊢
      exact h7 t ht0 hts t' ht' f hf1 hf2
    · rw [hp2 t hts] at ht'
      rw [hq2 t hts] at hf2 ⊢
      rw [hq1 t' (by omega)] at hf1 ⊢
      obtain ⟨a, b, c⟩ := hkz (t - size) (by omega)
      rcases h8 t' ht' f with h9 | ⟨-, h9⟩
      · rw [h9] at hf1; cases hf1
      · cases hs : ss u' v' Bq f (qE (F f) (kz (t - size))) (qe t')
        · have := h9 (kz (t - size)) (by unfold qC; rw [hf2, hs]; rfl)
          rw [hfr _ b] at this; cases this
        · rfl
  · dsimp only
    rcases Nat.lt_or_ge t head with hth | hth
    · rw [hq1 t (by omega)]
      rcases h8 t hth f with h9 | ⟨h9, h10⟩
      · exact Or.inl h9
      · exact Or.inr ⟨h9, fun z hz => by rw [b_or, h10 z hz]; rfl⟩
    · have : t = head := by omega
      subst this
      rw [hq1 t hh]
      exact hproc f
