/-! ===== the k-th set: class and model ===== -/
def hitP (ut vt : Nat → Nat) (O : Int32) (P E n s : Nat) : Prop := sbs s P ∧ sbs E s ∧ qc (bt (nI s)) = n ∧ qMost (fun _ => rk ut vt) (qW ut vt (bt O) (bt (nI s))) (2 * (n - 1))
noncomputable def hitB (ut vt : Nat → Nat) (O : Int32) (P E n : Nat) : Nat → Bool := fun s => @decide (hitP ut vt O P E n s) (Classical.propDecidable _)
theorem hitB_t {ut vt : Nat → Nat} {O : Int32} {P E n s : Nat} : hitB ut vt O P E n s = true ↔ hitP ut vt O P E n s := by
  unfold hitB
  exact @decide_eq_true_iff _ (Classical.propDecidable _)
theorem hitB_f {ut vt : Nat → Nat} {O : Int32} {P E n s : Nat} : hitB ut vt O P E n s = false ↔ ¬ hitP ut vt O P E n s := by
  unfold hitB
  exact @decide_eq_false_iff_not _ (Classical.propDecidable _)
theorem sub_cnt : ∀ R, R < 256 → fb_ct (fun t => t &&& R == t) 256 = 2 ^ fb_ct (fun i => R.testBit i) 8 := by decide +kernel
theorem qc_nI {x : Nat} (hx : x < 256) : qc (bt (nI x)) = fb_ct (fun i => x.testBit i) 8 := by
  have h8 : ∀ t, 8 ≤ t → x.testBit t = false := fun t ht => tb_small (k := 8) (by omega) ht
  have : qc (bt (nI x)) = fb_ct (fun i => x.testBit i) 32 := fb_ct_cong (fun k hk => h_nI k hk)
  rw [this]
  exact ct_gap (by omega) (fun t t1 _ => h8 t t1)
theorem shl_dec : ∀ q, q < 9 → sp_shl 1 (nI q) = nI (2 ^ q) := by decide +kernel
theorem lt_of_bit {x y : Nat} (p : Nat) (hx : x.testBit p = false) (hy : y.testBit p = true) (h : ∀ j, p < j → x.testBit j = y.testBit j) : x < y := by
  refine Classical.byContradiction (fun hn => ?_)
  by_cases e : x = y
  · rw [e, hy] at hx; cases hx
  · obtain ⟨q, -, q2, q3, q4⟩ := top_bit (x + 1) y x (Nat.lt_of_lt_of_le (Nat.lt_two_pow_self) (Nat.pow_le_pow_right (by decide) (by omega))) (by omega)
    by_cases h1 : p < q
    · rw [h q h1, q3] at q2; cases q2
    · by_cases h2 : q = p
      · rw [h2, hx] at q2; cases q2
      · have := q4 p (by omega)
        rw [hx, hy] at this; cases this
theorem or_lt {E R t t' : Nat} (hd : E &&& R = 0) (ht : sbs t R) (ht' : sbs t' R) (h : t < t') : E ||| t < E ||| t' := by
  obtain ⟨p, -, p2, p3, p4⟩ := top_bit (t' + 1) t t' (Nat.lt_of_lt_of_le (Nat.lt_two_pow_self) (Nat.pow_le_pow_right (by decide) (by omega))) h
  have hE : E.testBit p = false := by
    have h1 := sbs_iff.mp ht' p p2
    have h2 : (E &&& R).testBit p = false := by rw [hd]; exact Nat.zero_testBit p
    rw [Nat.testBit_and, h1] at h2
    simpa using h2
  refine lt_of_bit p ?_ ?_ (fun j hj => ?_)
  · rw [Nat.testBit_or, hE, p3]; rfl
  · rw [Nat.testBit_or, p2]; simp
  · rw [Nat.testBit_or, Nat.testBit_or, p4 j hj]
theorem or_sub {E R s : Nat} (hs : sbs s (E ||| R)) (hE : sbs E s) : ∃ t, sbs t R ∧ s = E ||| t := by
  refine ⟨s &&& R, sbs_and s R, ?_⟩
  apply Nat.eq_of_testBit_eq
  intro i
  rw [Nat.testBit_or, Nat.testBit_and]
  cases h1 : s.testBit i
  · cases h2 : E.testBit i
    · rfl
    · have := sbs_iff.mp hE i h2
      rw [h1] at this; cases this
  · have := sbs_iff.mp hs i h1
    rw [Nat.testBit_or] at this
    rw [Bool.true_and]; exact this.symm
section
variable {N : Nat} {uN uF uP xA xE : sx_C} {K L A B : Nat} {u v u1 v1 ut vt : Nat → Nat} {f : Nat → Nat} {O : Int32} {P E R : Nat}
/-- all that stays over the search -/
def sFix (uP xA xE : sx_C) (K L A B : Nat) (u v ut vt f : Nat → Nat) (J G O : Int32) (P E R : Nat) : Prop :=
  mPl xA xE K L A B u v ut vt f ∧ L ≤ 14 ∧ O = opn L J G ∧ gi uP 2 = O ∧ P = E ||| R ∧ E &&& R = 0 ∧ P < 256 ∧ qc (bt (nI E)) = 2 ∧ f_X12_endBits xA xE = some (nI E)
theorem sFix_q {J G : Int32} (H : sFix uP xA xE K L A B u v ut vt f J G O P E R) {t : Nat} (ht : sbs t R) : qc (bt (nI (E ||| t))) = 2 + qc (bt (nI t)) ∧ E ||| t < 256 ∧ sbs (E ||| t) P ∧ sbs E (E ||| t) ∧ t < 256 ∧ R < 256 := by
  obtain ⟨-, -, -, -, rfl, h6, h7, h8, -⟩ := H
  have hle : E ||| t ≤ E ||| R := sbs_le (sbs_iff.mpr (fun i hi => by
    rw [Nat.testBit_or] at hi ⊢
    cases h1 : E.testBit i
    · rw [h1] at hi
      rw [sbs_iff.mp ht i (by simpa using hi)]; simp
    · rfl))
  have hR : R ≤ E ||| R := Nat.right_le_or
  have htR := sbs_le ht
  refine ⟨?_, by omega, sbs_iff.mpr (fun i hi => ?_), sbs_iff.mpr (fun i hi => by rw [Nat.testBit_or, hi]; rfl), by omega, by omega⟩
  · rw [← h8]
    have h9 := qc_un (bt (nI E)) (bt (nI t)) 32
    have e1 : fb_ct (qN (bt (nI E)) (bt (nI t))) 32 = 0 := fb_ct_zero.mpr (fun i hi => by
      show (bt (nI E) i && bt (nI t) i) = false
      rw [h_nI i hi, h_nI i hi]
      cases h1 : t.testBit i
      · simp
      · have h2 := sbs_iff.mp ht i h1
        have h3 : (E &&& R).testBit i = false := by rw [h6]; exact Nat.zero_testBit i
        rw [Nat.testBit_and, h2] at h3
        simpa using h3)
    have e2 : fb_ct (qU (bt (nI E)) (bt (nI t))) 32 = fb_ct (bt (nI (E ||| t))) 32 := fb_ct_cong (fun i hi => by
      show (bt (nI E) i || bt (nI t) i) = bt (nI (E ||| t)) i
      rw [h_nI i hi, h_nI i hi, h_nI i hi, Nat.testBit_or])
    show fb_ct (bt (nI (E ||| t))) 32 = fb_ct (bt (nI E)) 32 + fb_ct (bt (nI t)) 32
    omega
  · rw [Nat.testBit_or] at hi ⊢
    cases h1 : E.testBit i
    · rw [h1] at hi
      rw [sbs_iff.mp ht i (by simpa using hi)]; simp
    · rfl
/-- the class, one size -/
theorem csize_ok (hf : 200000 ≤ N) {J G : Int32} (H : sFix uP xA xE K L A B u v ut vt f J G O P E R) (hu1 : ∀ i, bt O i = true → u1 i = ut i ∧ v1 i = vt i) {k100 : Int32 → Int32 → Int32 → Int32 → sx_C → sx_C → Option (Int32 × sx_C × sx_C)} {z k : Nat} (hk : k < 2147483648) (hz : z ≤ 8) :
    ∀ fu t part uF, 257 - t < fu → t ≤ 2 ^ qc (bt (nI R)) → fNet uF u1 v1 → (t < 2 ^ qc (bt (nI R)) → sbs part R ∧ fb_ct (fun t => t &&& R == t) part = t ∧ fb_ct (hitB ut vt O P E (z + 2)) (E ||| part) ≤ k) → (t = 2 ^ qc (bt (nI R)) → fb_ct (hitB ut vt O P E (z + 2)) 256 ≤ k) → ∀ c, (t < 2 ^ qc (bt (nI R)) → c = fb_ct (hitB ut vt O P E (z + 2)) (E ||| part)) → (t = 2 ^ qc (bt (nI R)) → c = fb_ct (hitB ut vt O P E (z + 2)) 256) →
      (∃ s uF', f_X7_nthSet_116 N k100 uN fu (nI E) (nI R) (nI (k - c)) (nI z) (nI part) (nI t) uF uP = some (nI s, uF', uP) ∧ hitP ut vt O P E (z + 2) s ∧ fb_ct (hitB ut vt O P E (z + 2)) s = k ∧ s < 256 ∧ (∃ u' v', fNet uF' u' v') ∧ jSt ut vt (qW ut vt (bt O) (bt (nI s))) uF' ∧ (∀ y, bt (gi uF' 7) y = qW ut vt (bt O) (bt (nI s)) y) ∧ qSz (fmk uF') = 2 * (qc (bt (nI s)) - 1)) ∨
      (∃ uF', f_X7_nthSet_116 N k100 uN fu (nI E) (nI R) (nI (k - c)) (nI z) (nI part) (nI t) uF uP = k100 (nI E) (nI R) (nI (k - fb_ct (hitB ut vt O P E (z + 2)) 256)) (nI (z + 1)) uF' uP ∧ fNet uF' u1 v1 ∧ fb_ct (hitB ut vt O P E (z + 2)) 256 ≤ k) := by
  obtain ⟨HP, hL, hO, hP2, hPd, hd, hP256, hqE, hEB⟩ := id H
  have h20 : 20 ≤ N := by omega
  have hOL : ∀ y, bt (gi uP 2) y = true → y < 14 := fun y hy => by
    rw [hP2, hO] at hy
    have := opn_lt (by omega : L < 31) hy; omega
  have hR256 : R < 256 := (sFix_q H (t := R) (by unfold sbs; exact Nat.and_self R)).2.2.2.2.2
  have hqR := qc_nI hR256
  have hq8 : qc (bt (nI R)) ≤ 8 := by rw [hqR]; exact fb_ct_le _ 8
  have hcnt := sub_cnt R hR256
  rw [← hqR] at hcnt
  have hp9 : 2 ^ qc (bt (nI R)) ≤ 2 ^ 8 := Nat.pow_le_pow_right (by decide) hq8
  intro fu
  induction fu with
  | zero => intro t part uF hfu; omega
  | succ fu ih =>
    intro t part uF hfu ht hF h1 h2 c c1 c2
    unfold f_X7_nthSet_116
    rw [bitCount_ok, Option.bind_some, shl_dec _ (by omega)]
    by_cases hend : 2 ^ qc (bt (nI R)) ≤ t
    · have e : t = 2 ^ qc (bt (nI R)) := by omega
      rw [if_pos ((nle (by omega) (by omega)).mpr hend), show nI z + 1 = nI (z + 1) from nadd z 1, c2 e]
      exact Or.inr ⟨uF, rfl, hF, h2 e⟩
    · have hlt : t < 2 ^ qc (bt (nI R)) := by omega
      obtain ⟨hs, ht2, hle⟩ := h1 hlt
      obtain ⟨q1, q2, q3, q4, q5, q6⟩ := sFix_q H hs
      have hc := c1 hlt
      rw [if_neg (fun h => hend ((nle (by omega) (by omega)).mp h)), bitCount_ok, Option.bind_some]
      have hqp : qc (bt (nI part)) ≤ 32 := qc_le32 _
      -- on to the next part
      have next : ∀ w c', fNet w u1 v1 → c' = fb_ct (hitB ut vt O P E (z + 2)) ((E ||| part) + 1) → c' ≤ k →
          (∃ s uF', f_X7_nthSet_164 N k100 (f_X7_nthSet_116 N k100 uN fu) uN (nI E) (nI R) (nI (k - c')) (nI z) (nI part) (nI t) w uP = some (nI s, uF', uP) ∧ hitP ut vt O P E (z + 2) s ∧ fb_ct (hitB ut vt O P E (z + 2)) s = k ∧ s < 256 ∧ (∃ u' v', fNet uF' u' v') ∧ jSt ut vt (qW ut vt (bt O) (bt (nI s))) uF' ∧ (∀ y, bt (gi uF' 7) y = qW ut vt (bt O) (bt (nI s)) y) ∧ qSz (fmk uF') = 2 * (qc (bt (nI s)) - 1)) ∨
          (∃ uF', f_X7_nthSet_164 N k100 (f_X7_nthSet_116 N k100 uN fu) uN (nI E) (nI R) (nI (k - c')) (nI z) (nI part) (nI t) w uP = k100 (nI E) (nI R) (nI (k - fb_ct (hitB ut vt O P E (z + 2)) 256)) (nI (z + 1)) uF' uP ∧ fNet uF' u1 v1 ∧ fb_ct (hitB ut vt O P E (z + 2)) 256 ≤ k) := by
        intro w c' hw hc' hck
        unfold f_X7_nthSet_164
        rw [int_up (by omega), show nI t + 1 = nI (t + 1) from nadd t 1]
        have hpt : (part &&& R == part) = true := by
          have : part &&& R = part := hs
          rw [this]; simp
        by_cases hlast : part = R
        · have ht3 : t + 1 = 2 ^ qc (bt (nI R)) := by
            rw [← hcnt, ← ht2, hlast, ct_gap (p := fun t => t &&& R == t) (a := R + 1) (b := 256) (by omega) (fun t t1 t2 => ?_), fb_ct_succ]
            · simp
            · cases h9 : (t &&& R == t)
              · rfl
              · have : sbs t R := by unfold sbs; simpa using h9
                have := sbs_le this; omega
          have hall : c' = fb_ct (hitB ut vt O P E (z + 2)) 256 := by
            rw [hc', hlast, ← hPd]
            refine (ct_gap (by omega) (fun s s1 s2 => hitB_f.mpr (fun h => ?_))).symm
            have := sbs_le h.1; omega
          refine ih (t + 1) _ w (by omega) (by omega) hw (fun h => by omega) (fun _ => by rw [← hall]; exact hck) c' (fun h => by omega) (fun _ => hall)
        · have hpR : part < R := by have := sbs_le hs; omega
          obtain ⟨up1, up2⟩ := sub_up 32 part R R (by omega) hs (by unfold sbs; exact Nat.and_self R) hpR
          obtain ⟨pn, hpn⟩ : ∃ pn, pn = (part + 2 ^ 32 - R) &&& R := ⟨_, rfl⟩
          rw [← hpn] at up1 up2 ⊢
          have hpnR : sbs pn R := by rw [hpn]; exact sbs_and _ _
          have hbtw : ∀ t', part < t' → t' < pn → ¬ sbs t' R := fun t' a1 a2 a3 => by
            have := (sub_up 32 part R t' (by omega) hs a3 a1).2
            rw [← hpn] at this; omega
          have hcp : fb_ct (fun t => t &&& R == t) pn = t + 1 := by
            rw [ct_gap (p := fun t => t &&& R == t) (a := part + 1) (b := pn) (by omega) (fun t' t1 t2 => ?_), fb_ct_succ, ht2, hpt]
            · rfl
            · cases h9 : (t' &&& R == t')
              · rfl
              · exact absurd (show sbs t' R by unfold sbs; simpa using h9) (hbtw t' (by omega) t2)
          have hcn : fb_ct (hitB ut vt O P E (z + 2)) (E ||| pn) = c' := by
            rw [hc']
            have hlt2 := or_lt hd hs hpnR up1
            refine ct_gap (by omega) (fun s s1 s2 => hitB_f.mpr (fun h => ?_))
            obtain ⟨t', t1, t2⟩ := or_sub (by rw [← hPd]; exact h.1) h.2.1
            rw [t2] at s1 s2
            have a1 : part < t' := by
              by_cases h9 : t' ≤ part
              · by_cases h10 : t' = part
                · rw [h10] at s1; omega
                · have := or_lt hd t1 hs (by omega : t' < part); omega
              · omega
            have a2 : t' < pn := by
              by_cases h9 : pn ≤ t'
              · by_cases h10 : t' = pn
                · rw [h10] at s2; omega
                · have := or_lt hd hpnR t1 (by omega : pn < t'); omega
              · omega
            exact hbtw t' a1 a2 t1
          have htot : t + 1 < 2 ^ qc (bt (nI R)) := by
            have h9 := fb_ct_mono (fun t => t &&& R == t) (show pn + 1 ≤ 256 by omega)
            have h10 : (pn &&& R == pn) = true := by
              have : pn &&& R = pn := hpnR
              rw [this]; simp
            rw [fb_ct_succ, hcp, h10, hcnt] at h9
            simp at h9
            omega
          exact ih (t + 1) pn w (by omega) (by omega) hw (fun _ => ⟨hpnR, hcp, by rw [hcn]; exact hck⟩) (fun h => by omega) c' (fun _ => hcn.symm) (fun h => by omega)
      have hsucc := fb_ct_succ (hitB ut vt O P E (z + 2)) (E ||| part)
      by_cases hsz : qc (bt (nI part)) = z
      · rw [if_pos (by rw [hsz]), fa_or]
        obtain ⟨b, uF1, r1, r2, r3, r4⟩ := carries_ok h20 HP.2.2.2.1 hF hOL (by rw [hP2]; exact hu1) (S := nI (E ||| part)) (by omega)
        rw [hP2] at r3 r4
        simp only [r1, Option.bind_some]
        have hhit : b = true ↔ hitB ut vt O P E (z + 2) (E ||| part) = true := by
          rw [hitB_t, r3]
          unfold hitP
          rw [q1, hsz, show 2 + z = z + 2 by omega]
          exact ⟨fun h => ⟨q3, q4, rfl, h⟩, fun h => h.2.2.2⟩
        by_cases hb : b = true
        · rw [if_pos hb]
          have hh := hhit.mp hb
          rw [hh] at hsucc
          simp at hsucc
          by_cases h0 : k - c = 0
          · rw [if_pos ((nz (by omega)).mpr h0)]
            obtain ⟨s1, s2, s3⟩ := r4 hb
            exact Or.inl ⟨E ||| part, uF1, rfl, hitB_t.mp hh, by rw [← hc]; omega, q2, ⟨u1, v1, r2⟩, s1, s2, s3⟩
          · rw [if_neg (fun h => h0 ((nz (by omega)).mp h)), n_m1 (by omega), show k - c - 1 = k - (c + 1) by omega]
            exact next uF1 (c + 1) r2 (by rw [hsucc, hc]) (by omega)
        · rw [if_neg hb]
          have hh : hitB ut vt O P E (z + 2) (E ||| part) = false := by
            cases h9 : hitB ut vt O P E (z + 2) (E ||| part)
            · rfl
            · exact absurd (hhit.mpr h9) hb
          rw [hh] at hsucc
          simp at hsucc
          exact next uF1 c r2 (by rw [hsucc, hc]) (by omega)
      · rw [if_neg (fun h => hsz ((neq (by omega) (by omega)).mp h))]
        have hh : hitB ut vt O P E (z + 2) (E ||| part) = false := hitB_f.mpr (fun h => hsz (by have := h.2.2.1; omega))
        rw [hh] at hsucc
        simp at hsucc
        exact next uF c hF (by rw [hsucc, hc]) (by omega)
/-- the model, one size -/
theorem msize_ok (hf : 200000 ≤ N) {J G : Int32} (H : sFix uP xA xE K L A B u v ut vt f J G O P E R) {k40 : Int32 → Int32 → Int32 → Int32 → Int32 → sx_C → sx_C → sx_C → sx_C → Option (Int32 × sx_C × sx_C × sx_C × sx_C)} {n k : Nat} (hk : k < 2147483648) (hn : n ≤ 10) (hn1 : 1 ≤ n) (xD : sx_C) :
    ∀ fu s xF xG, 257 - s < fu → s ≤ P + 1 → fb_ct (hitB ut vt O P E n) s ≤ k →
      (∃ s' xF' xG', f_X12_setAt_53 N k40 xA fu J G (nI P) (nI (k - fb_ct (hitB ut vt O P E n) s)) (nI n) (nI s) xD xE xF xG = some (nI s', xD, xE, xF', xG') ∧ hitP ut vt O P E n s' ∧ fb_ct (hitB ut vt O P E n) s' = k) ∨
      (∃ xF' xG', f_X12_setAt_53 N k40 xA fu J G (nI P) (nI (k - fb_ct (hitB ut vt O P E n) s)) (nI n) (nI s) xD xE xF xG = k40 J G (nI P) (nI (k - fb_ct (hitB ut vt O P E n) 256)) (nI (n + 1)) xD xE xF' xG' ∧ fb_ct (hitB ut vt O P E n) 256 ≤ k) := by
  obtain ⟨HP, hL, hO, hP2, hPd, hd, hP256, hqE, hEB⟩ := id H
  have h20 : 20 ≤ N := by omega
  have hEle : E ≤ P := by rw [hPd]; exact Nat.left_le_or
  have hOL : ∀ y, bt O y = true → y < L := fun y hy => by
    rw [hO] at hy
    exact opn_lt (by omega : L < 31) hy
  intro fu
  induction fu with
  | zero => intro s xF xG hfu; omega
  | succ fu ih =>
    intro s xF xG hfu hs hle
    unfold f_X12_setAt_53
    by_cases hend : P < s
    · rw [if_pos ((nlt (by omega) (by omega)).mpr hend), show nI n + 1 = nI (n + 1) from nadd n 1]
      have e : fb_ct (hitB ut vt O P E n) 256 = fb_ct (hitB ut vt O P E n) s := ct_gap (by omega) (fun t t1 t2 => hitB_f.mpr (fun h => by have := sbs_le h.1; omega))
      rw [← e] at hle ⊢
      exact Or.inr ⟨xF, xG, rfl, hle⟩
    · rw [if_neg (fun h => hend ((nlt (by omega) (by omega)).mp h))]
      have hsucc := fb_ct_succ (hitB ut vt O P E n) s
      have next : ∀ xF xG c', c' = fb_ct (hitB ut vt O P E n) (s + 1) → c' ≤ k →
          (∃ s' xF' xG', f_X12_setAt_135 N k40 (f_X12_setAt_53 N k40 xA fu) xA J G (nI P) (nI (k - c')) (nI n) (nI s) xD xE xF xG = some (nI s', xD, xE, xF', xG') ∧ hitP ut vt O P E n s' ∧ fb_ct (hitB ut vt O P E n) s' = k) ∨
          (∃ xF' xG', f_X12_setAt_135 N k40 (f_X12_setAt_53 N k40 xA fu) xA J G (nI P) (nI (k - c')) (nI n) (nI s) xD xE xF xG = k40 J G (nI P) (nI (k - fb_ct (hitB ut vt O P E n) 256)) (nI (n + 1)) xD xE xF' xG' ∧ fb_ct (hitB ut vt O P E n) 256 ≤ k) := by
        intro xF xG c' hc' hck
        unfold f_X12_setAt_135
        rw [show nI s + 1 = nI (s + 1) from nadd s 1, hc']
        exact ih (s + 1) xF xG (by omega) (by omega) (by rw [← hc']; exact hck)
      have miss : ¬ hitP ut vt O P E n s → 
          (∃ s' xF' xG', f_X12_setAt_98 N k40 (f_X12_setAt_53 N k40 xA fu) xA J G (nI P) (nI (k - fb_ct (hitB ut vt O P E n) s)) (nI n) (nI s) xD xE xF xG = some (nI s', xD, xE, xF', xG') ∧ hitP ut vt O P E n s' ∧ fb_ct (hitB ut vt O P E n) s' = k) ∨
          (∃ xF' xG', f_X12_setAt_98 N k40 (f_X12_setAt_53 N k40 xA fu) xA J G (nI P) (nI (k - fb_ct (hitB ut vt O P E n) s)) (nI n) (nI s) xD xE xF xG = k40 J G (nI P) (nI (k - fb_ct (hitB ut vt O P E n) 256)) (nI (n + 1)) xD xE xF' xG' ∧ fb_ct (hitB ut vt O P E n) 256 ≤ k) := by
        intro hm
        unfold f_X12_setAt_98 f_X12_setAt_99
        rw [if_pos rfl]
        rw [hitB_f.mpr hm] at hsucc
        simp at hsucc
        exact next xF xG _ hsucc.symm hle
      have c1 : nI s &&& (nI P ^^^ (-1)) = 0 ↔ sbs s P := by
        rw [b_z, sbs_iff]
        constructor
        · intro h i hi
          by_cases h32 : i < 32
          · have := h i h32
            rw [b_and, h_not _ h32, h_nI i h32, h_nI i h32, hi] at this
            simpa using this
          · rw [tb_small (k := 32) (by omega) (by omega)] at hi; cases hi
        · intro h i h32
          rw [b_and, h_not _ h32, h_nI i h32, h_nI i h32]
          cases hi : s.testBit i
          · rfl
          · rw [h i hi]; rfl
      have c2 : nI s &&& nI E = nI E ↔ sbs E s := by
        rw [fa_and]
        have : s &&& E ≤ E := Nat.and_le_right
        rw [neq (by omega) (by omega)]
        unfold sbs
        rw [Nat.and_comm]
      by_cases k1 : sbs s P
      · rw [if_pos (c1.mpr k1)]
        simp only [hEB, Option.bind_some]
        by_cases k2 : sbs E s
        · rw [if_pos (c2.mpr k2), bits_ok, Option.bind_some]
          have hqs := qc_le32 (bt (nI s))
          by_cases k3 : qc (bt (nI s)) = n
          · rw [if_pos (by rw [k3])]
            unfold f_X12_setAt_99
            rw [if_neg (by decide), mopen_ok HP.1, Option.bind_some]
            obtain ⟨b, xF1, xG1, t1, t2⟩ := hasTwo_ok h20 HP.1 HP.2.1 HP.2.2.1 HP.2.2.2.1 HP.2.2.2.2 (opn L J G) (nI s) (by omega) xF xG
            rw [← hO, bL_sub hOL, k3] at t2
            rw [← hO] at t1 ⊢
            simp only [t1, Option.bind_some]
            have hhit : b = true ↔ hitP ut vt O P E n s := by
              rw [t2]
              exact ⟨fun h => ⟨k1, k2, k3, h⟩, fun h => h.2.2.2⟩
            by_cases hb : b = true
            · rw [if_pos hb]
              have hh := hhit.mp hb
              rw [hitB_t.mpr hh] at hsucc
              simp at hsucc
              by_cases h0 : k - fb_ct (hitB ut vt O P E n) s = 0
              · rw [if_pos ((nz (by omega)).mpr h0)]
                exact Or.inl ⟨s, xF1, xG1, rfl, hh, by omega⟩
              · rw [if_neg (fun h => h0 ((nz (by omega)).mp h)), n_m1 (by omega), show k - fb_ct (hitB ut vt O P E n) s - 1 = k - (fb_ct (hitB ut vt O P E n) s + 1) by omega]
                exact next xF1 xG1 _ hsucc.symm (by omega)
            · rw [if_neg hb]
              rw [hitB_f.mpr (fun h => hb (hhit.mpr h))] at hsucc
              simp at hsucc
              exact next xF1 xG1 _ hsucc.symm hle
          · rw [if_neg (fun h => k3 ((neq (by omega) (by omega)).mp h))]
            exact miss (fun h => k3 h.2.2.1)
        · rw [if_neg (fun h => k2 (c2.mp h))]
          exact miss (fun h => k2 h.2.1)
      · rw [if_neg (fun h => k1 (c1.mp h))]
        exact miss (fun h => k1 h.1)
end
