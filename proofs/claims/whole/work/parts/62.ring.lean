/-! ===== the class's ring: the way in a forest ===== -/
def fNet (uF : sx_C) (u' v' : Nat → Nat) : Prop := (∀ i, i < 17 → ga uF 0 i = nI (u' i) ∧ ga uF 1 i = nI (v' i)) ∧ ∀ i, u' i < 8 ∧ v' i < 8
/-- all the same but the row 'via' -/
def f4 (a b : sx_C) : Prop := (∀ k, gi a k = gi b k) ∧ ∀ k, k ≠ 4 → ga a k = ga b k
theorem f4_r (a : sx_C) : f4 a a := ⟨fun _ => rfl, fun _ _ => rfl⟩
theorem f4_t {a b c : sx_C} (h : f4 a b) (h2 : f4 b c) : f4 a c := ⟨fun k => (h.1 k).trans (h2.1 k), fun k hk => (h.2 k hk).trans (h2.2 k hk)⟩
theorem f4_up (a : sx_C) (i : Nat) (w : Int32) : f4 (sa a 4 i w) a := ⟨fun k => gi_sa a 4 i k w, fun k hk => by rw [ga_sa, if_neg hk]⟩
theorem f4_net {a b : sx_C} {u' v' : Nat → Nat} (h : f4 a b) (hn : fNet b u' v') : fNet a u' v' := ⟨fun i hi => by rw [h.2 0 (by decide), h.2 1 (by decide)]; exact hn.1 i hi, hn.2⟩
theorem b_z {x : Int32} : x = 0 ↔ ∀ i, i < 32 → bt x i = false := by
  constructor
  · intro h i _; rw [h]; exact b_0 i
  · intro h; exact b_ext (fun i hi => by rw [h i hi, b_0])
def rgV (u' v' : Nat → Nat) (F : BS) (l : Nat) (s : Int32) (via : Nat → Int32) (od : Nat → Nat) : Prop :=
  bt s l = true ∧ (∀ w, bt s w = true → w < 8 ∧ la u' v' F w = la u' v' F l) ∧
  (∀ w, bt s w = true → w ≠ l → ∃ i, i < 17 ∧ via w = nI i ∧ F i = true ∧ ∃ w', bt s w' = true ∧ od w' < od w ∧ ((u' i = w ∧ v' i = w') ∨ (u' i = w' ∧ v' i = w))) ∧
  ∀ w, bt s w = true → od w < fb_ct (bt s) 8
theorem rg_add {u' v' : Nat → Nat} {F : BS} {l : Nat} {s s' : Int32} {via : Nat → Int32} {od : Nat → Nat} (h : rgV u' v' F l s via od) {a b i : Nat} (hi : i < 17) (hF : F i = true) (ha : bt s a = true) (hb : bt s b = false) (hb8 : b < 8) (hab : (u' i = a ∧ v' i = b) ∨ (u' i = b ∧ v' i = a)) (hs : ∀ w, w < 32 → bt s' w = (bt s w || decide (w = b))) : (∃ od', rgV u' v' F l s' (upd via b (nI i)) od') ∧ fb_ct (bt s') 8 = fb_ct (bt s) 8 + 1 := by
  obtain ⟨h1, h2, h3, h4⟩ := h
  have hs' : ∀ w, bt s' w = (bt s w || decide (w = b)) := fun w => by
    by_cases hw : w < 32
    · exact hs w hw
    · rw [b_big (by omega), b_big (by omega)]
      have : ¬ w = b := by omega
      simp [this]
  have hc : fb_ct (bt s') 8 = fb_ct (bt s) 8 + 1 := by
    have := qc_ins (S := bt s) (x := b) (n := 8) hb8 hb
    rw [← this]
    exact fb_ct_cong (fun w hw => hs' w)
  have hne : ∀ w, bt s w = true → w ≠ b := fun w hw e => by rw [e, hb] at hw; cases hw
  refine ⟨⟨fun w => if w = b then fb_ct (bt s) 8 else od w, ?_, ?_, ?_, ?_⟩, hc⟩
  · rw [hs', h1]; rfl
  · intro w hw
    rw [hs'] at hw
    by_cases e : w = b
    · subst e
      refine ⟨hb8, ?_⟩
      rw [← (h2 a ha).2]
      have := la_in (u := u') (v := v') (S := F) (i := i) (by omega) hF
      rcases hab with ⟨x, y⟩ | ⟨x, y⟩
      · rw [x, y] at this; exact this.symm
      · rw [x, y] at this; exact this
    · exact h2 w (by simpa [e] using hw)
  · intro w hw hl
    rw [hs'] at hw
    by_cases e : w = b
    · refine ⟨i, hi, ?_, hF, a, by rw [hs', ha]; rfl, ?_, ?_⟩
      · unfold upd; rw [if_pos e]
      · show (if a = b then fb_ct (bt s) 8 else od a) < (if w = b then fb_ct (bt s) 8 else od w)
        rw [if_neg (hne a ha), if_pos e]; exact h4 a ha
      · rw [e]
        rcases hab with ⟨x, y⟩ | ⟨x, y⟩
        · exact Or.inr ⟨x, y⟩
        · exact Or.inl ⟨x, y⟩
    · obtain ⟨i2, g1, g2, g3, w', g4, g5, g6⟩ := h3 w (by simpa [e] using hw) hl
      refine ⟨i2, g1, ?_, g3, w', by rw [hs', g4]; rfl, ?_, g6⟩
      · unfold upd; rw [if_neg e]; exact g2
      · show (if w' = b then fb_ct (bt s) 8 else od w') < (if w = b then fb_ct (bt s) 8 else od w)
        rw [if_neg (hne w' g4), if_neg e]; exact g5
  · intro w hw
    rw [hc]
    rw [hs'] at hw
    show (if w = b then fb_ct (bt s) 8 else od w) < _
    by_cases e : w = b
    · rw [if_pos e]; omega
    · rw [if_neg e]
      have := h4 w (by simpa [e] using hw)
      omega
theorem and7 : ∀ n, n < 8 → nI n &&& 7 = nI n := by decide +kernel
section
variable {u' v' : Nat → Nat} {N : Nat}
/-- one pass over the lines -/
theorem ring_pass (FF : Int32) {x l : Nat} {goal rd bf : Int32} {k34 : Int32 → Int32 → Int32 → Int32 → Int32 → sx_C → Option (Int32 × sx_C)} :
    ∀ n i (s : Int32) (uF : sx_C), 17 - i < n → i ≤ 17 → fNet uF u' v' → (∃ od, rgV u' v' (bt FF) l s (ga uF 4) od) → (∀ w, bt bf w = true → bt s w = true) → (s = bf → ∀ i', i' < i → bt FF i' = true → bt bf (u' i') = bt bf (v' i')) → (s ≠ bf → fb_ct (bt bf) 8 + 1 ≤ fb_ct (bt s) 8) →
      ∃ s' uF', f_X0_ring_55 N k34 n FF (nI x) goal s rd bf (nI i) uF = (if s' = bf then some (-1, uF') else k34 FF (nI x) goal s' (rd + 1) uF') ∧ f4 uF' uF ∧ (∃ od, rgV u' v' (bt FF) l s' (ga uF' 4) od) ∧ (s' = bf → ∀ i', i' < 17 → bt FF i' = true → bt bf (u' i') = bt bf (v' i')) ∧ (s' ≠ bf → fb_ct (bt bf) 8 + 1 ≤ fb_ct (bt s') 8) := by
  intro n
  induction n with
  | zero => intro i s uF hn; omega
  | succ n ih =>
    intro i s uF hn hi hN hV hsub hcl hct
    unfold f_X0_ring_55
    have e17 : (17 : Int32) = nI 17 := rfl
    by_cases hc : 17 ≤ i
    · rw [e17, if_pos ((nle (by omega) (by omega)).mpr hc)]
      have : i = 17 := by omega
      subst this
      exact ⟨s, uF, rfl, f4_r _, hV, hcl, hct⟩
    · rw [e17, if_neg (fun h => hc ((nle (by omega) (by omega)).mp h))]
      have e1 : nI i + 1 = nI (i + 1) := nadd i 1
      -- nothing new
      have skip : ∀ (hcl2 : bt FF i = true → bt s (u' i) = bt s (v' i)), ∃ s' uF', f_X0_ring_55 N k34 n FF (nI x) goal s rd bf (nI i + 1) uF = (if s' = bf then some (-1, uF') else k34 FF (nI x) goal s' (rd + 1) uF') ∧ f4 uF' uF ∧ (∃ od, rgV u' v' (bt FF) l s' (ga uF' 4) od) ∧ (s' = bf → ∀ i', i' < 17 → bt FF i' = true → bt bf (u' i') = bt bf (v' i')) ∧ (s' ≠ bf → fb_ct (bt bf) 8 + 1 ≤ fb_ct (bt s') 8) := by
        intro hcl2
        rw [e1]
        refine ih (i + 1) s uF (by omega) (by omega) hN hV hsub (fun hs i' hi' hf' => ?_) hct
        by_cases e : i' = i
        · subst e; rw [← hs]; exact hcl2 hf'
        · exact hcl hs i' (by omega) hf'
      have hus : (sp_ushr FF (nI i) &&& 1 = 0) ↔ bt FF i = false := by
        rw [h_and1, h_ushr FF (by omega)]; rfl
      by_cases hF : bt FF i = true
      · rw [if_neg (fun h => by rw [hus, hF] at h; cases h), rd_ok (by omega) (by decide), rd_ok (by omega) (by decide), (hN.1 i (by omega)).1, (hN.1 i (by omega)).2]
        have hu8 := (hN.2 i).1
        have hv8 := (hN.2 i).2
        show ∃ s' uF', f_X0_ring_94 N k34 (f_X0_ring_55 N k34 n) FF (nI x) goal s rd bf (nI i) (sp_shl 1 (nI (u' i)) ^^^ sp_shl 1 (nI (v' i))) uF = _ ∧ _
        obtain ⟨rc, hrc⟩ : ∃ rc, rc = sp_shl 1 (nI (u' i)) ^^^ sp_shl 1 (nI (v' i)) := ⟨_, rfl⟩
        rw [← hrc]
        have hrb : ∀ w, w < 32 → bt rc w = (decide (w = u' i) ^^ decide (w = v' i)) := fun w hw => by
          rw [hrc, b_xor, h_bit (by omega) hw, h_bit (by omega) hw]
        unfold f_X0_ring_94
        -- both ends alike
        by_cases hsame : bt s (u' i) = bt s (v' i)
        · by_cases h0 : rc &&& s = 0
          · rw [if_pos h0]; exact skip (fun _ => hsame)
          · rw [if_neg h0]
            have h1 : rc &&& (s ^^^ (-1)) = 0 := b_z.mpr (fun w hw => by
              rw [b_and, h_not _ hw, hrb w hw]
              cases hsv : bt s (v' i)
              · exfalso
                apply h0
                refine b_z.mpr (fun y hy => ?_)
                rw [b_and, hrb y hy]
                by_cases e1 : y = u' i
                · rw [e1, hsame, hsv]; simp
                · by_cases e2 : y = v' i
                  · rw [e2, hsv]; simp
                  · simp [e1, e2]
              · by_cases e1 : w = u' i
                · rw [e1, hsame, hsv]; simp
                · by_cases e2 : w = v' i
                  · rw [e2, hsv]; simp
                  · simp [e1, e2])
            rw [if_pos h1]; exact skip (fun _ => hsame)
        · have hne : u' i ≠ v' i := fun e => hsame (by rw [e])
          have h0 : ¬ rc &&& s = 0 := fun h => by
            rw [b_z] at h
            have a := h (u' i) (by omega)
            have b := h (v' i) (by omega)
            rw [b_and, hrb _ (by omega)] at a b
            have hne' : ¬ v' i = u' i := fun e => hne e.symm
            simp [hne, hne'] at a b
            rw [a, b] at hsame
            exact hsame rfl
          have h1 : ¬ rc &&& (s ^^^ (-1)) = 0 := fun h => by
            rw [b_z] at h
            have a := h (u' i) (by omega)
            have b := h (v' i) (by omega)
            rw [b_and, hrb _ (by omega), h_not _ (by omega)] at a b
            have hne' : ¬ v' i = u' i := fun e => hne e.symm
            simp [hne, hne'] at a b
            rw [a, b] at hsame
            exact hsame rfl
          rw [if_neg h0, if_neg h1, rd_ok (by omega) (by decide), (hN.1 i (by omega)).1]
          -- one of them is new
          have go : ∀ a b, b < 8 → bt s a = true → bt s b = false → ((u' i = a ∧ v' i = b) ∨ (u' i = b ∧ v' i = a)) → ∃ s' uF', f_X0_ring_146 N k34 (f_X0_ring_55 N k34 n) FF (nI x) goal s rd bf (nI i) rc (nI b) uF = (if s' = bf then some (-1, uF') else k34 FF (nI x) goal s' (rd + 1) uF') ∧ f4 uF' uF ∧ (∃ od, rgV u' v' (bt FF) l s' (ga uF' 4) od) ∧ (s' = bf → ∀ i', i' < 17 → bt FF i' = true → bt bf (u' i') = bt bf (v' i')) ∧ (s' ≠ bf → fb_ct (bt bf) 8 + 1 ≤ fb_ct (bt s') 8) := by
            intro a b hb8 ha hb hab
            unfold f_X0_ring_146 f_X0_ring_167
            rw [and7 b hb8, if_pos (in_ok hb8 (by decide)), nI_clamp (by omega), e1]
            obtain ⟨od, hod⟩ := hV
            have hsb : ∀ w, w < 32 → bt (s ||| rc) w = (bt s w || decide (w = b)) := fun w hw => by
              rw [b_or, hrb w hw]
              rcases hab with ⟨x1, x2⟩ | ⟨x1, x2⟩
              · rw [x1, x2]
                by_cases e2 : w = a
                · rw [e2, ha]; simp
                · simp [e2]
              · rw [x1, x2]
                by_cases e2 : w = a
                · rw [e2, ha]; simp
                · simp [e2]
            obtain ⟨⟨od2, hod2⟩, hcnt⟩ := rg_add hod (by omega : i < 17) hF ha hb hb8 hab hsb
            have hg4 : ga (sa uF 4 b (nI i)) 4 = upd (ga uF 4) b (nI i) := by rw [ga_sa, if_pos rfl]
            have hbig : fb_ct (bt bf) 8 ≤ fb_ct (bt s) 8 := fb_ct_sub (fun w _ => hsub w)
            obtain ⟨s', uF', r1, r2, r3, r4, r5⟩ := ih (i + 1) (s ||| rc) (sa uF 4 b (nI i)) (by omega) (by omega) (f4_net (f4_up uF b (nI i)) hN) ⟨od2, by rw [hg4]; exact hod2⟩ (fun w hw => by rw [b_or, hsub w hw]; rfl) (fun he => by rw [he] at hcnt; omega) (fun _ => by omega)
            exact ⟨s', uF', r1, f4_t r2 (f4_up uF b (nI i)), r3, r4, r5⟩
          have hus2 : (sp_ushr s (nI (u' i)) &&& 1 = 0) ↔ bt s (u' i) = false := by
            rw [h_and1, h_ushr s (by omega)]; rfl
          show ∃ s' uF', (if sp_ushr s (nI (u' i)) &&& 1 = 0 then _ else _) = _ ∧ _
          cases hsu : bt s (u' i)
          · rw [if_pos (hus2.mpr hsu)]
            have hsv : bt s (v' i) = true := by
              cases h9 : bt s (v' i)
              · rw [hsu, h9] at hsame; exact absurd rfl hsame
              · rfl
            exact go (v' i) (u' i) hu8 hsv hsu (Or.inr ⟨rfl, rfl⟩)
          · rw [if_neg (fun h => by rw [hus2, hsu] at h; cases h), rd_ok (by omega) (by decide), (hN.1 i (by omega)).2]
            have hsv : bt s (v' i) = false := by
              cases h9 : bt s (v' i)
              · rfl
              · rw [hsu, h9] at hsame; exact absurd rfl hsame
            exact go (u' i) (v' i) hv8 hsu hsv (Or.inl ⟨rfl, rfl⟩)
      · have hF' : bt FF i = false := by cases h : bt FF i <;> simp_all
        rw [if_pos (hus.mpr hF')]
        unfold f_X0_ring_94
        have hz : (0 : Int32) &&& s = 0 := b_z.mpr (fun w _ => by rw [b_and, b_0]; rfl)
        rw [if_pos hz]
        exact skip (fun h => absurd h hF)
end
