/-! ===== ring: the rounds, and the way back ===== -/
section
variable {u' v' : Nat → Nat} {N : Nat}
theorem goal_bit (s : Int32) {r : Nat} (hr : r < 32) : s &&& sp_shl 1 (nI r) = 0 ↔ bt s r = false := by
  rw [b_z]
  constructor
  · intro h
    have := h r hr
    rw [b_and, h_bit hr hr] at this
    simpa using this
  · intro h i hi
    rw [b_and, h_bit hr hi]
    by_cases e : i = r
    · subst e; rw [h]; rfl
    · simp [e]
theorem ring_rounds (hN20 : 20 ≤ N) (FF : Int32) {x : Nat} (hx : x < 17) (hbits : ∀ i, 17 ≤ i → bt FF i = false) :
    ∀ n ρ (s : Int32) (uF : sx_C), 8 - ρ < n → ρ ≤ 8 → fNet uF u' v' → (∃ od, rgV u' v' (bt FF) (u' x) s (ga uF 4) od) → (bt s (v' x) = false → ρ + 1 ≤ fb_ct (bt s) 8) →
      (∃ uF', f4 uF' uF ∧ f_X0_ring_34 N n FF (nI x) (sp_shl 1 (nI (v' x))) s (nI ρ) uF = some (-1, uF') ∧ la u' v' (bt FF) (u' x) ≠ la u' v' (bt FF) (v' x)) ∨
      (∃ s' uF' od, f4 uF' uF ∧ f_X0_ring_34 N n FF (nI x) (sp_shl 1 (nI (v' x))) s (nI ρ) uF = f_X0_ring_188 N (nI x) uF' ∧ rgV u' v' (bt FF) (u' x) s' (ga uF' 4) od ∧ bt s' (v' x) = true) := by
  intro n
  induction n with
  | zero => intro ρ s uF hn; omega
  | succ n ih =>
    intro ρ s uF hn hρ hN hV hct
    have hr8 := (hN.2 x).2
    unfold f_X0_ring_34
    have e8 : (8 : Int32) = nI 8 := rfl
    by_cases hc : 8 ≤ ρ
    · rw [e8, if_pos ((nle (by omega) (by omega)).mpr hc)]
      right
      obtain ⟨od, hod⟩ := hV
      refine ⟨s, uF, od, f4_r _, rfl, hod, ?_⟩
      cases hb : bt s (v' x)
      · have := hct hb
        have := fb_ct_le (bt s) 8
        omega
      · rfl
    · rw [e8, if_neg (fun h => hc ((nle (by omega) (by omega)).mp h))]
      cases hb : bt s (v' x)
      · rw [if_pos ((goal_bit s (by omega)).mpr hb)]
        obtain ⟨s', uF', r1, r2, r3, r4, r5⟩ := ring_pass (N := N) FF (x := x) (goal := sp_shl 1 (nI (v' x))) (rd := nI ρ) (bf := s) (k34 := f_X0_ring_34 N n) N 0 s uF (by omega) (by omega) hN hV (fun _ h => h) (fun _ i' hi' => by omega) (fun h => absurd rfl h)
        have e0 : (0 : Int32) = nI 0 := rfl
        rw [e0, r1]
        by_cases hs : s' = s
        · rw [if_pos hs]
          left
          refine ⟨uF', r2, rfl, fun hcon => ?_⟩
          have h1 := la_least (u := u') (v := v') (S := bt FF) (q := fun k => if bt s k = true then 1 else 0) (a := u' x) (b := v' x) (fun i hi hf => by
            by_cases h17 : i < 17
            · have := r4 hs i h17 hf
              show (if bt s (u' i) = true then 1 else 0) = (if bt s (v' i) = true then 1 else 0)
              rw [this]
            · rw [hbits i (by omega)] at hf; cases hf) hcon
          obtain ⟨od, hod⟩ := hV
          rw [hod.1, hb] at h1
          simp at h1
        · rw [if_neg hs]
          have e1 : nI ρ + 1 = nI (ρ + 1) := nadd ρ 1
          rw [e1]
          have hcnt := r5 hs
          have h0 := hct hb
          rcases ih (ρ + 1) s' uF' (by omega) (by omega) (f4_net r2 hN) r3 (fun _ => by omega) with ⟨uF2, a1, a2, a3⟩ | ⟨s2, uF2, od2, a1, a2, a3, a4⟩
          · exact Or.inl ⟨uF2, f4_t a1 r2, a2, a3⟩
          · exact Or.inr ⟨s2, uF2, od2, f4_t a1 r2, a2, a3, a4⟩
      · rw [if_neg (fun h => by rw [goal_bit s (by omega), hb] at h; cases h)]
        right
        obtain ⟨od, hod⟩ := hV
        exact ⟨s, uF, od, f4_r _, rfl, hod, hb⟩
theorem ring_back {FF : Int32} {uF : sx_C} (hN : fNet uF u' v') {x : Nat} (hx : x < 17) (hF : qInd (rk u' v') (bt FF)) {s : Int32} {od : Nat → Nat} (hV : rgV u' v' (bt FF) (u' x) s (ga uF 4) od) :
    ∀ n step at_ (P : Int32), 8 - step < n → step + od at_ ≤ od (v' x) → bt s at_ = true → (∀ z, bt P z = true → z < 17 ∧ bt FF z = true ∧ ∃ w, bt s w = true ∧ w ≠ u' x ∧ ga uF 4 w = nI z ∧ od at_ < od w) → la u' v' (bt P) (v' x) = la u' v' (bt P) at_ → (∀ z, bt P z = true → la u' v' (qE (bt FF) z) at_ ≠ la u' v' (qE (bt FF) z) (v' x)) → bt s (v' x) = true →
      ∃ P', f_X0_ring_202 N n (nI x) P (nI at_) (nI step) uF = some (P', uF) ∧ (∀ z, bt P' z = true → z < 17 ∧ bt FF z = true) ∧ la u' v' (bt P') (v' x) = la u' v' (bt P') (u' x) ∧ ∀ z, bt P' z = true → la u' v' (qE (bt FF) z) (u' x) ≠ la u' v' (qE (bt FF) z) (v' x) := by
  have M := gs_mat hN.2
  intro n
  induction n with
  | zero => intro step at_ P hn; omega
  | succ n ih =>
    intro step at_ P hn hst hat hP hcon hsep hr
    obtain ⟨h1, h2, h3, h4⟩ := id hV
    have hor := h4 _ hr
    have hle := fb_ct_le (bt s) 8
    have hat8 := (h2 at_ hat).1
    have hl8 := (hN.2 x).1
    unfold f_X0_ring_202
    have e8 : (8 : Int32) = nI 8 := rfl
    rw [e8, if_neg (fun h => by have := (nle (by omega) (by omega)).mp h; omega), rd_ok hx (by decide), (hN.1 x hx).1]
    show ∃ P', (if nI at_ = nI (u' x) then _ else _) = _ ∧ _
    by_cases hl : at_ = u' x
    · rw [if_pos (by rw [hl])]
      refine ⟨P, rfl, fun z hz => ⟨(hP z hz).1, (hP z hz).2.1⟩, by rw [← hl]; exact hcon, fun z hz => by rw [← hl]; exact hsep z hz⟩
    · rw [if_neg (fun h => hl ((neq (by omega) (by omega)).mp h)), and7 at_ hat8, rd_ok hat8 (by decide)]
      obtain ⟨i, g1, g2, g3, w', g4, g5, g6⟩ := h3 at_ hat hl
      rw [g2]
      have e0 : (0 : Int32) = nI 0 := rfl
      have e17 : (17 : Int32) = nI 17 := rfl
      show ∃ P', (if nI i < 0 then _ else _) = _ ∧ _
      rw [e0, if_neg (fun h => by have := (nlt (by omega) (by omega)).mp h; omega), e17, if_pos ((nlt (by omega) (by omega)).mpr g1), rd_ok g1 (by decide), (hN.1 i g1).1]
      have hu8 := (hN.2 i).1
      -- the line isn't yet of the way
      have hnew : bt P i = false := by
        cases hb : bt P i
        · rfl
        · exfalso
          obtain ⟨-, -, w, a1, a2, a3, a4⟩ := hP i hb
          obtain ⟨i2, b1, b2, b3, w2, b4, b5, b6⟩ := h3 w a1 a2
          rw [a3] at b2
          have e : i = i2 := (neq (by omega) (by omega)).mp b2
          subst e
          rcases g6 with ⟨x1, x2⟩ | ⟨x1, x2⟩ <;> rcases b6 with ⟨y1, y2⟩ | ⟨y1, y2⟩
          · have : at_ = w := x1.symm.trans y1
            rw [this] at a4; omega
          · have e1 : at_ = w2 := x1.symm.trans y1
            have e2 : w' = w := x2.symm.trans y2
            rw [← e1] at b5; rw [e2] at g5; omega
          · have e1 : w' = w := x1.symm.trans y1
            have e2 : at_ = w2 := x2.symm.trans y2
            rw [← e2] at b5; rw [e1] at g5; omega
          · have : at_ = w := x2.symm.trans y2
            rw [this] at a4; omega
      have hPi : ∀ z, bt (P ||| sp_shl 1 (nI i)) z = (bt P z || decide (z = i)) := fun z => by
        by_cases hz : z < 32
        · rw [b_or, h_bit (by omega) hz]
        · rw [b_big (by omega), b_big (by omega)]
          have : ¬ z = i := by omega
          simp [this]
      have hjoin : ∀ S : BS, S i = true → la u' v' S at_ = la u' v' S w' := fun S hS => by
        have := la_in (u := u') (v := v') (S := S) (i := i) (by omega) hS
        rcases g6 with ⟨x1, x2⟩ | ⟨x1, x2⟩
        · rw [x1, x2] at this; exact this
        · rw [x1, x2] at this; exact this.symm
      have e1 : nI step + 1 = nI (step + 1) := nadd step 1
      have next : ∃ P', f_X0_ring_202 N n (nI x) (P ||| sp_shl 1 (nI i)) (nI w') (nI (step + 1)) uF = some (P', uF) ∧ (∀ z, bt P' z = true → z < 17 ∧ bt FF z = true) ∧ la u' v' (bt P') (v' x) = la u' v' (bt P') (u' x) ∧ ∀ z, bt P' z = true → la u' v' (qE (bt FF) z) (u' x) ≠ la u' v' (qE (bt FF) z) (v' x) := by
        refine ih (step + 1) w' _ (by omega) (by omega) g4 (fun z hz => ?_) ?_ (fun z hz => ?_) hr
        · rw [hPi] at hz
          by_cases e : z = i
          · subst e
            exact ⟨g1, g3, at_, hat, hl, g2, g5⟩
          · obtain ⟨c1, c2, w, c3, c4, c5, c6⟩ := hP z (by simpa [e] using hz)
            exact ⟨c1, c2, w, c3, c4, c5, by omega⟩
        · have m1 : la u' v' (bt (P ||| sp_shl 1 (nI i))) (v' x) = la u' v' (bt (P ||| sp_shl 1 (nI i))) at_ := la_mono (fun z _ hz => by rw [hPi, hz]; rfl) hcon
          rw [m1]
          exact hjoin _ (by rw [hPi]; simp)
        · rw [hPi] at hz
          by_cases e : z = i
          · subst e
            intro hbad
            -- then the line would hang by the others
            have m1 : la u' v' (qE (bt FF) z) (v' x) = la u' v' (qE (bt FF) z) at_ := la_mono (fun y _ hy => by
              unfold qE
              rw [(hP y hy).2.1]
              have : ¬ y = z := fun e => by rw [e, hnew] at hy; cases hy
              simp [this]) hcon
            have m2 : la u' v' (qE (bt FF) z) at_ = la u' v' (qE (bt FF) z) w' := by rw [← m1, ← hbad]
            have m3 := q_ind_era M (by omega : z < 32) hF g3
            unfold gs at m3
            rcases g6 with ⟨x1, x2⟩ | ⟨x1, x2⟩
            · rw [x1, x2, m2] at m3; simp at m3
            · rw [x1, x2, m2] at m3; simp at m3
          · have hz' : bt P z = true := by simpa [e] using hz
            have m1 := hjoin (qE (bt FF) z) (by
              unfold qE
              rw [g3]
              have : ¬ i = z := fun e2 => e e2.symm
              simp [this])
            rw [← m1]
            exact hsep z hz'
      show ∃ P', (if nI (u' i) = nI at_ then _ else _) = _ ∧ _
      rcases g6 with ⟨x1, x2⟩ | ⟨x1, x2⟩
      · rw [if_pos (by rw [x1]), rd_ok g1 (by decide), (hN.1 i g1).2, x2]
        show ∃ P', f_X0_ring_202 N n (nI x) (P ||| sp_shl 1 (nI i)) (nI w') (nI step + 1) uF = _ ∧ _
        rw [e1]
        exact next
      · have hne : ¬ nI (u' i) = nI at_ := fun h => by
          have := (neq (by omega) (by omega)).mp h
          rw [x1] at this
          rw [this] at g5; omega
        rw [if_neg hne, x1]
        show ∃ P', f_X0_ring_202 N n (nI x) (P ||| sp_shl 1 (nI i)) (nI w') (nI step + 1) uF = _ ∧ _
        rw [e1]
        exact next
/-- ring: none where the ends are apart, else just the lines that are needed -/
theorem ring_ok (hN20 : 20 ≤ N) {FF : Int32} {uF : sx_C} (hN : fNet uF u' v') (hbits : ∀ i, 17 ≤ i → bt FF i = false) {x : Nat} (hx : x < 17) (hF : qInd (rk u' v') (bt FF)) :
    ∃ res uF', f_X0_ring N FF (nI x) uF = some (res, uF') ∧ f4 uF' uF ∧ ((gs u' v' (bt FF) x = false ∧ res = -1) ∨ (gs u' v' (bt FF) x = true ∧ res ≠ -1 ∧ ∀ z, bt res z = qC (gs u' v') (bt FF) x z)) := by
  unfold f_X0_ring
  have e0 : (0 : Int32) = nI 0 := rfl
  have e17 : (17 : Int32) = nI 17 := rfl
  have hl8 := (hN.2 x).1
  have hr8 := (hN.2 x).2
  rw [e0, if_neg (fun h => by have := (nlt (by omega) (by omega)).mp h; omega), e17, if_pos ((nlt (by omega) (by omega)).mpr hx), rd_ok hx (by decide), rd_ok hx (by decide), (hN.1 x hx).1, (hN.1 x hx).2]
  show ∃ res uF', f_X0_ring_34 N N FF (nI x) (sp_shl 1 (nI (v' x))) (sp_shl 1 (nI (u' x))) (nI 0) uF = _ ∧ _
  have hb1 : ∀ w, bt (sp_shl 1 (nI (u' x))) w = decide (w = u' x) := fun w => by
    by_cases hw : w < 32
    · exact h_bit (by omega) hw
    · rw [b_big (by omega)]
      have : ¬ w = u' x := by omega
      simp [this]
  have hc1 : fb_ct (bt (sp_shl 1 (nI (u' x)))) 8 = 1 := by
    have h7 : ∀ c, c < 8 → fb_ct (fun k => decide (k = c)) 8 = 1 := by decide
    rw [← h7 (u' x) hl8]
    exact fb_ct_cong (fun w _ => hb1 w)
  have hV : rgV u' v' (bt FF) (u' x) (sp_shl 1 (nI (u' x))) (ga uF 4) (fun _ => 0) := by
    refine ⟨by rw [hb1]; simp, fun w hw => ?_, fun w hw hne => ?_, fun w hw => by rw [hc1]; exact Nat.lt_succ_self 0⟩
    · rw [hb1] at hw
      have : w = u' x := by simpa using hw
      rw [this]; exact ⟨hl8, rfl⟩
    · rw [hb1] at hw
      exact absurd (by simpa using hw) hne
  rcases ring_rounds hN20 FF hx hbits N 0 _ uF (by omega) (by omega) hN ⟨_, hV⟩ (fun _ => by omega) with ⟨uF', a1, a2, a3⟩ | ⟨s', uF', od, a1, a2, a3, a4⟩
  · refine ⟨-1, uF', a2, a1, Or.inl ⟨?_, rfl⟩⟩
    unfold gs
    exact beq_eq_false_iff_ne.mpr a3
  · have hN' := f4_net a1 hN
    rw [a2]
    unfold f_X0_ring_188
    rw [rd_ok hx (by decide), (hN'.1 x hx).2]
    obtain ⟨P', p1, p2, p3, p4⟩ := ring_back (N := N) hN' hx hF a3 N 0 (v' x) 0 (by omega) (by omega) a4 (fun z hz => by rw [b_0] at hz; cases hz) rfl (fun z hz => by rw [b_0] at hz; cases hz) a4
    refine ⟨P', uF', p1, a1, Or.inr ⟨?_, ?_, fun z => ?_⟩⟩
    · unfold gs
      have : la u' v' (bt FF) (v' x) = la u' v' (bt FF) (u' x) := la_mono (fun z _ hz => (p2 z hz).2) p3
      simp [this]
    · intro e
      have h31 : bt P' 31 = true := by rw [e]; decide
      have := (p2 31 h31).1
      omega
    · unfold qC
      cases hz : bt P' z
      · cases hFz : bt FF z
        · rfl
        · have h1 : la u' v' (qE (bt FF) z) (v' x) = la u' v' (qE (bt FF) z) (u' x) := la_mono (fun y _ hy => by
            unfold qE
            rw [(p2 y hy).2]
            have : ¬ y = z := fun e => by rw [e, hz] at hy; cases hy
            simp [this]) p3
          unfold gs
          simp [h1]
      · have h1 := p4 z hz
        rw [(p2 z hz).2]
        unfold gs
        simp [h1]
end
