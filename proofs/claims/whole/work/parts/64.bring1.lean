/-! ===== the class's bring: the queue grows, the way is made ===== -/
theorem driven_ok {N : Nat} (hN20 : 20 ≤ N) (fr y : Int32) {m0 : Nat} (hm : m0 + fb_ct (bt fr) 17 ≤ 17) (uF : sx_C) : ∃ uF', f_X0_driven N fr y (nI m0) uF = some (nI (m0 + fb_ct (bt fr) 17), uF') ∧ (∀ k, gi uF' k = gi uF k) ∧ (∀ k, k ≠ 2 → k ≠ 3 → ga uF' k = ga uF k) ∧ (∀ z, z < 17 → ga uF' 2 z = if bt fr z = true then y else ga uF 2 z) ∧ (∀ t, t < m0 → ga uF' 3 t = ga uF 3 t) ∧ (∀ z, z < 17 → bt fr z = true → ga uF' 3 (m0 + fb_ct (bt fr) z) = nI z) := by
  have loop : ∀ n i (w : sx_C), 17 - i < n → i ≤ 17 → (∀ k, gi w k = gi uF k) → (∀ k, k ≠ 2 → k ≠ 3 → ga w k = ga uF k) → (∀ z, z < 17 → ga w 2 z = if bt fr z = true ∧ z < i then y else ga uF 2 z) → (∀ t, t < m0 → ga w 3 t = ga uF 3 t) → (∀ z, z < i → bt fr z = true → ga w 3 (m0 + fb_ct (bt fr) z) = nI z) →
      ∃ uF', f_X0_driven_6 N n fr y (nI (m0 + fb_ct (bt fr) i)) (nI i) w = some (nI (m0 + fb_ct (bt fr) 17), uF') ∧ (∀ k, gi uF' k = gi uF k) ∧ (∀ k, k ≠ 2 → k ≠ 3 → ga uF' k = ga uF k) ∧ (∀ z, z < 17 → ga uF' 2 z = if bt fr z = true then y else ga uF 2 z) ∧ (∀ t, t < m0 → ga uF' 3 t = ga uF 3 t) ∧ (∀ z, z < 17 → bt fr z = true → ga uF' 3 (m0 + fb_ct (bt fr) z) = nI z) := by
    intro n
    induction n with
    | zero => intro i w hn; omega
    | succ n ih =>
      intro i w hn hi h1 h2 h3 h4 h5
      have e17 : (17 : Int32) = nI 17 := rfl
      have e0 : (0 : Int32) = nI 0 := rfl
      unfold f_X0_driven_6
      by_cases hc : 17 ≤ i
      · have : i = 17 := by omega
        subst this
        rw [e17, if_pos ((nle (by omega) (by omega)).mpr (by omega))]
        refine ⟨w, rfl, h1, h2, fun z hz => ?_, h4, h5⟩
        rw [h3 z hz]
        by_cases hb : bt fr z = true
        · rw [if_pos ⟨hb, hz⟩, if_pos hb]
        · rw [if_neg (fun h => hb h.1), if_neg hb]
      · rw [e17, if_neg (fun h => hc ((nle (by omega) (by omega)).mp h))]
        have hus : (sp_ushr fr (nI i) &&& 1 = 0) ↔ bt fr i = false := by
          rw [h_and1, h_ushr fr (by omega)]; rfl
        have e1 : nI i + 1 = nI (i + 1) := nadd i 1
        by_cases hb : bt fr i = true
        · have hcs : fb_ct (bt fr) (i + 1) = fb_ct (bt fr) i + 1 := by rw [fb_ct_succ, if_pos hb]
          have hmono := fb_ct_mono (bt fr) (m := i + 1) (n := 17) (by omega)
          rw [if_neg (fun h => by rw [hus, hb] at h; cases h)]
          have hlt : m0 + fb_ct (bt fr) i < 17 := by omega
          have e17' : nI 17 = (17 : Int32) := rfl
          rw [e0, if_neg (fun h => by have := (nlt (by omega) (by omega)).mp h; omega), if_neg (fun h => by have := (nle (by omega) (by omega)).mp h; omega), if_pos (in_ok (by omega) (by decide)), if_pos (in_ok hlt (by decide)), nI_clamp (by omega), nI_clamp (by omega)]
          unfold f_X0_driven_54
          rw [e1]
          have e2 : nI (m0 + fb_ct (bt fr) i) + 1 = nI (m0 + fb_ct (bt fr) (i + 1)) := by rw [hcs]; exact nadd _ 1
          rw [e2]
          refine ih (i + 1) _ (by omega) (by omega) (fun k => by rw [gi_sa, gi_sa]; exact h1 k) (fun k hk2 hk3 => by rw [ga_sa, if_neg hk3, ga_sa, if_neg hk2]; exact h2 k hk2 hk3) (fun z hz => ?_) (fun t ht => ?_) (fun z hz hbz => ?_)
          · rw [ga_sa, if_neg (by decide), ga_up]
            by_cases e : z = i
            · rw [if_pos e, if_pos ⟨by rw [e]; exact hb, by omega⟩]
            · rw [if_neg e, h3 z hz]
              by_cases hbz : bt fr z = true ∧ z < i
              · rw [if_pos hbz, if_pos ⟨hbz.1, by omega⟩]
              · rw [if_neg hbz, if_neg (fun h => hbz ⟨h.1, by omega⟩)]
          · rw [ga_up, if_neg (by omega), ga_sa, if_neg (by decide)]
            exact h4 t ht
          · rw [ga_up]
            by_cases e : z = i
            · rw [e, if_pos rfl]
            · have hm2 := fb_ct_mono (bt fr) (m := z + 1) (n := i) (by omega)
              rw [fb_ct_succ, if_pos hbz] at hm2
              rw [if_neg (by omega), ga_sa, if_neg (by decide)]
              exact h5 z (by omega) hbz
        · have hb' : bt fr i = false := by cases h : bt fr i <;> simp_all
          have hcs : fb_ct (bt fr) (i + 1) = fb_ct (bt fr) i := by rw [fb_ct_succ, if_neg hb]; rfl
          rw [if_pos (hus.mpr hb')]
          unfold f_X0_driven_54
          rw [e1]
          have := ih (i + 1) w (by omega) (by omega) h1 h2 (fun z hz => by
            rw [h3 z hz]
            by_cases hbz : bt fr z = true ∧ z < i
            · rw [if_pos hbz, if_pos ⟨hbz.1, by omega⟩]
            · rw [if_neg hbz, if_neg (fun h => hbz ⟨h.1, by
                rcases Nat.lt_or_ge z i with h9 | h9
                · exact h9
                · have : z = i := by omega
                  rw [this, hb'] at h; exact absurd h.1 (by decide)⟩)]) h4 (fun z hz hbz => by
            rcases Nat.lt_or_ge z i with h9 | h9
            · exact h5 z h9 hbz
            · have : z = i := by omega
              rw [this, hb'] at hbz; cases hbz)
          rw [hcs] at this
          exact this
  unfold f_X0_driven
  exact loop N 0 uF (by omega) (by omega) (fun _ => rfl) (fun _ _ _ => rfl) (fun z hz => by rw [if_neg (fun h => by omega)]) (fun _ _ => rfl) (fun z hz => by omega)
/-- the masks of both forests -/
def fmk (uF : sx_C) : Bool → BS := fun t => if t = true then bt (gi uF 5) else bt (gi uF 6)
/-- all the same but the two forests -/
def f56 (a b : sx_C) : Prop := (∀ k, k ≠ 5 → k ≠ 6 → gi a k = gi b k) ∧ ∀ k, ga a k = ga b k
theorem shift_ok {N : Nat} (hN20 : 20 ≤ N) {uF : sx_C} {pa : Nat → Nat} {fo : Nat → Bool} {k : Nat} (hk : k < 17) (hp : ∀ i, i ≤ k → pa i < 17) (hd : ∀ i j, i < j → j ≤ k → pa i ≠ pa j) (hdis : ∀ z, ¬ (fmk uF true z = true ∧ fmk uF false z = true))
    (hc0 : ga uF 2 (pa 0) = -1) (hc : ∀ i, i < k → ga uF 2 (pa (i + 1)) = nI (pa i)) (hfo : ∀ i, i < k → fmk uF (fo i) (pa (i + 1)) = true) :
    ∃ uF', f_X0_shift N (nI (pa k)) (if fo k = true then 1 else 0) uF = some uF' ∧ f56 uF' uF ∧ ∀ t z, fmk uF' t z = qG (fmk uF) pa fo k (k + 1) t z := by
  have hfo2 : ∀ i, i < k → (fo i = true ↔ bt (gi uF 5) (pa (i + 1)) = true) := by
    intro i hi
    have h := hfo i hi
    constructor
    · intro e; rw [e] at h; exact h
    · intro e
      cases hf : fo i
      · rw [hf] at h
        exact absurd ⟨e, h⟩ (hdis (pa (i + 1)))
      · rfl
  have loop : ∀ m n (w : sx_C), n ≤ k + 1 → k + 2 - n ≤ m → f56 w uF → (∀ t z, fmk w t z = qG (fmk uF) pa fo k n t z) → ∀ (z en : Int32), (n = k + 1 → z = -1) → (n ≤ k → z = nI (pa (k - n)) ∧ en = if fo (k - n) = true then 1 else 0) → ∃ uF', f_X0_shift_8 N m z en (nI n) w = some uF' ∧ f56 uF' uF ∧ ∀ t z, fmk uF' t z = qG (fmk uF) pa fo k (k + 1) t z := by
    intro m
    induction m with
    | zero => intro n w hn hm; omega
    | succ m ih =>
      intro n w hn hm hw hq z en hz1 hz2
      unfold f_X0_shift_8
      have e17 : (17 : Int32) = nI 17 := rfl
      by_cases hnk : n = k + 1
      · have hz := hz1 hnk
        have hlt : (-1 : Int32) < 0 := by decide
        by_cases h17 : (17 : Int32) ≤ nI n
        · rw [if_pos h17]
          refine ⟨w, rfl, hw, fun t y => ?_⟩
          rw [← hnk]; exact hq t y
        · rw [if_neg h17, hz, if_pos hlt]
          refine ⟨w, rfl, hw, fun t y => ?_⟩
          rw [← hnk]; exact hq t y
      · have hnk' : n ≤ k := by omega
        obtain ⟨hz, hen⟩ := hz2 hnk'
        have hpz := hp (k - n) (by omega)
        have e0 : (0 : Int32) = nI 0 := rfl
        rw [e17, if_neg (fun h => by have := (nle (by omega) (by omega)).mp h; omega), hz, e0, if_neg (fun h => by have := (nlt (by omega) (by omega)).mp h; omega), if_neg (fun h => by have := (nle (by omega) (by omega)).mp h; omega)]
        -- whether it leaves the first
        have hlv : ((gi w 5) &&& sp_shl 1 (nI (pa (k - n))) = nI 0) ↔ bt (gi uF 5) (pa (k - n)) = false := by
          rw [← e0, goal_bit _ (by omega)]
          have h1 : bt (gi w 5) (pa (k - n)) = qG (fmk uF) pa fo k n true (pa (k - n)) := hq true (pa (k - n))
          rw [h1, qG_out n (fun j hj e => hd (k - n) (k - j) (by omega) (by omega) e)]
          rfl
        have e1 : nI n + 1 = nI (n + 1) := nadd n 1
        have go : ∀ lv : Int32, (n < k → lv = if fo (k - (n + 1)) = true then 1 else 0) → ∃ uF', f_X0_shift_45 N (f_X0_shift_8 N m) (nI (pa (k - n))) en (nI n) (sp_shl 1 (nI (pa (k - n)))) lv w = some uF' ∧ f56 uF' uF ∧ ∀ t z, fmk uF' t z = qG (fmk uF) pa fo k (k + 1) t z := by
          intro lv hlv2
          have hbit : ∀ y, bt (sp_shl 1 (nI (pa (k - n)))) y = decide (y = pa (k - n)) := fun y => by
            by_cases hy : y < 32
            · exact h_bit (by omega) hy
            · rw [b_big (by omega)]
              have : ¬ y = pa (k - n) := by omega
              simp [this]
          have fin : ∀ s1 s2 : Int32, (∀ y, y < 32 → bt s1 y = qG (fmk uF) pa fo k (n + 1) true y) → (∀ y, y < 32 → bt s2 y = qG (fmk uF) pa fo k (n + 1) false y) → ∃ uF', f_X0_shift_100 N (f_X0_shift_8 N m) (nI (pa (k - n))) (nI n) lv s2 (si w 5 s1) = some uF' ∧ f56 uF' uF ∧ ∀ t z, fmk uF' t z = qG (fmk uF) pa fo k (k + 1) t z := by
            intro s1 s2 hs1 hs2
            unfold f_X0_shift_100
            have hga : ga (si (si w 5 s1) 6 s2) 2 = ga uF 2 := by rw [ga_si, ga_si]; exact hw.2 2
            rw [hga, rd_ok hpz (by decide)]
            show ∃ uF', f_X0_shift_8 N m (ga uF 2 (pa (k - n))) lv (nI n + 1) (si (si w 5 s1) 6 s2) = some uF' ∧ _
            rw [e1]
            have hout : ∀ (x : Int32) (y : Nat), 32 ≤ y → bt x y = false := fun x y hy => b_big hy
            refine ih (n + 1) _ (by omega) (by omega) ⟨fun q h5 h6 => by rw [gi_si, if_neg h6, gi_si, if_neg h5]; exact hw.1 q h5 h6, fun q => by rw [ga_si, ga_si]; exact hw.2 q⟩ (fun t y => ?_) _ _ (fun he => ?_) (fun he => ⟨?_, hlv2 (by omega)⟩)
            · have hbig : 32 ≤ y → qG (fmk uF) pa fo k (n + 1) t y = false := fun hy => by
                rw [qG_out (n + 1) (fun j hj e => by have := hp (k - j) (by omega); omega)]
                cases t
                · exact b_big hy
                · exact b_big hy
              cases t
              · show bt (gi (si (si w 5 s1) 6 s2) 6) y = _
                rw [gi_si, if_pos rfl]
                rcases Nat.lt_or_ge y 32 with hy | hy
                · exact hs2 y hy
                · rw [hbig hy]; exact b_big hy
              · show bt (gi (si (si w 5 s1) 6 s2) 5) y = _
                rw [gi_si, if_neg (by decide), gi_si, if_pos rfl]
                rcases Nat.lt_or_ge y 32 with hy | hy
                · exact hs1 y hy
                · rw [hbig hy]; exact b_big hy
            · have : k - n = 0 := by omega
              rw [this]; exact hc0
            · have h9 := hc (k - (n + 1)) (by omega)
              rw [show k - (n + 1) + 1 = k - n by omega] at h9
              exact h9
          have hq5 : ∀ y, bt (gi w 5) y = qG (fmk uF) pa fo k n true y := fun y => hq true y
          have hq6 : ∀ y, bt (gi w 6) y = qG (fmk uF) pa fo k n false y := fun y => hq false y
          have hg65 : ∀ s, gi (si w 5 s) 6 = gi w 6 := fun s => by rw [gi_si, if_neg (by decide)]
          have hqs : ∀ t y, qG (fmk uF) pa fo k (n + 1) t y = if y = pa (k - n) then (fo (k - n) == t) else qG (fmk uF) pa fo k n t y := fun t y => rfl
          unfold f_X0_shift_45 f_X0_shift_72
          cases hf : fo (k - n)
          · have hen0 : en = 0 := by rw [hen, hf]; rfl
            rw [hen0, if_pos rfl, if_pos rfl, hg65]
            refine fin _ _ (fun y hy => ?_) (fun y hy => ?_)
            · rw [b_and, h_not _ hy, hbit, hq5, hqs, hf]
              by_cases e : y = pa (k - n) <;> simp [e]
            · rw [b_or, hbit, hq6, hqs, hf]
              by_cases e : y = pa (k - n) <;> simp [e]
          · have hen1 : en = 1 := by rw [hen, hf]; rfl
            have h10 : ¬ (1 : Int32) = 0 := by decide
            rw [hen1, if_neg h10, if_neg h10, hg65]
            refine fin _ _ (fun y hy => ?_) (fun y hy => ?_)
            · rw [b_or, hbit, hq5, hqs, hf]
              by_cases e : y = pa (k - n) <;> simp [e]
            · rw [b_and, h_not _ hy, hbit, hq6, hqs, hf]
              by_cases e : y = pa (k - n) <;> simp [e]
        have hlvn : n < k → (fo (k - (n + 1)) = true ↔ bt (gi uF 5) (pa (k - n)) = true) := fun hlt => by
          have h9 := hfo2 (k - (n + 1)) (by omega)
          rw [show k - (n + 1) + 1 = k - n by omega] at h9
          exact h9
        by_cases hb : bt (gi uF 5) (pa (k - n)) = true
        · rw [if_neg (fun h => by rw [hlv, hb] at h; cases h)]
          exact go 1 (fun hlt => by rw [if_pos ((hlvn hlt).mpr hb)])
        · have hb' : bt (gi uF 5) (pa (k - n)) = false := by cases h : bt (gi uF 5) (pa (k - n)) <;> simp_all
          rw [if_pos (hlv.mpr hb')]
          exact go 0 (fun hlt => by rw [if_neg (fun h => hb ((hlvn hlt).mp h))])
  unfold f_X0_shift
  exact loop N 0 uF (by omega) (by omega) ⟨fun _ _ _ => rfl, fun _ => rfl⟩ (fun t z => rfl) _ _ (fun h => by omega) (fun _ => ⟨rfl, rfl⟩)
