/-! ===== the k-th set of a position ===== -/
section
variable {N : Nat} {uN uF uP xA xE : sx_C} {K L A B : Nat} {u v u1 v1 ut vt : Nat → Nat} {f : Nat → Nat} {O : Int32} {P E R : Nat}
theorem joint_ok (hf : 200000 ≤ N) {J G : Int32} (H : sFix uP xA xE K L A B u v ut vt f J G O P E R) (hu1 : ∀ i, bt O i = true → u1 i = ut i ∧ v1 i = vt i) (xD : sx_C) :
    ∀ fu z k uF xF xG, 9 - z < fu → z ≤ 9 → k < 2147483648 → fNet uF u1 v1 →
      (∃ s n uF' xF' xG', f_X7_nthSet_100 N uN fu (nI E) (nI R) (nI k) (nI z) uF uP = some (nI s, uF', uP) ∧ f_X12_setAt_40 N xA fu J G (nI P) (nI k) (nI (z + 2)) xD xE xF xG = some (nI s, xD, xE, xF', xG') ∧ hitP ut vt O P E n s ∧ s < 256 ∧ (∃ u' v', fNet uF' u' v') ∧ jSt ut vt (qW ut vt (bt O) (bt (nI s))) uF' ∧ (∀ y, bt (gi uF' 7) y = qW ut vt (bt O) (bt (nI s)) y) ∧ qSz (fmk uF') = 2 * (qc (bt (nI s)) - 1)) ∨
      (∃ uF' xF' xG', f_X7_nthSet_100 N uN fu (nI E) (nI R) (nI k) (nI z) uF uP = some (-2, uF', uP) ∧ f_X12_setAt_40 N xA fu J G (nI P) (nI k) (nI (z + 2)) xD xE xF xG = some (-1, xD, xE, xF', xG') ∧ fNet uF' u1 v1 ∧ (k = 0 → ∀ n s, z + 2 ≤ n → ¬ hitP ut vt O P E n s)) := by
  obtain ⟨HP, hL, hO, hP2, hPd, hd, hP256, hqE, hEB⟩ := id H
  have hRR : sbs R R := by unfold sbs; exact Nat.and_self R
  obtain ⟨hqP, -, -, -, -, hR256⟩ := sFix_q H hRR
  rw [← hPd] at hqP
  have hq8 : qc (bt (nI R)) ≤ 8 := by rw [qc_nI hR256]; exact fb_ct_le _ 8
  intro fu
  induction fu with
  | zero => intro z k uF xF xG hfu; omega
  | succ fu ih =>
    intro z k uF xF xG hfu hz hk hF
    unfold f_X7_nthSet_100 f_X12_setAt_40
    rw [bitCount_ok, bits_ok, Option.bind_some, Option.bind_some, hqP]
    by_cases hend : qc (bt (nI R)) < z
    · rw [if_pos ((nlt (by omega) (by omega)).mpr hend), if_pos ((nlt (by omega) (by omega)).mpr (by omega))]
      refine Or.inr ⟨uF, xF, xG, rfl, rfl, hF, fun _ n s hn hh => ?_⟩
      have h1 : qc (bt (nI s)) ≤ qc (bt (nI P)) := fb_ct_sub (fun i hi hb => by
        rw [h_nI i hi] at hb ⊢
        exact sbs_iff.mp hh.1 i hb)
      have h2 := hh.2.2.1
      omega
    · rw [if_neg (fun h => hend ((nlt (by omega) (by omega)).mp h)), if_neg (fun h => hend (by have := (nlt (by omega) (by omega)).mp h; omega))]
      have cs := csize_ok (uN := uN) hf H hu1 (k100 := f_X7_nthSet_100 N uN fu) (z := z) (k := k) hk (by omega) N 0 0 uF (by omega) (Nat.zero_le _) hF (fun _ => ⟨by unfold sbs; simp, rfl, by
        rw [Nat.or_zero, fb_ct_zero.mpr (fun t ht => hitB_f.mpr (fun h => ?_))]
        · exact Nat.zero_le _
        · have := sbs_le h.2.1; omega⟩) (fun h => by have := Nat.two_pow_pos (qc (bt (nI R))); omega) 0 (fun _ => by
          rw [Nat.or_zero, fb_ct_zero.mpr (fun t ht => hitB_f.mpr (fun h => ?_))]
          have := sbs_le h.2.1; omega) (fun h => by have := Nat.two_pow_pos (qc (bt (nI R))); omega)
      have ms := msize_ok hf H (k40 := f_X12_setAt_40 N xA fu) (n := z + 2) (k := k) hk (by omega) (by omega) xD N 0 xF xG (by omega) (Nat.zero_le _) (Nat.zero_le _)
      rw [Nat.sub_zero] at cs
      have e0 : nI 0 = 0 := rfl
      rw [e0] at cs ms
      have ms0 : fb_ct (hitB ut vt O P E (z + 2)) 0 = 0 := rfl
      rw [ms0, Nat.sub_zero] at ms
      have strict : ∀ s, hitP ut vt O P E (z + 2) s → fb_ct (hitB ut vt O P E (z + 2)) s < fb_ct (hitB ut vt O P E (z + 2)) 256 := fun s hs => by
        have h1 := sbs_le hs.1
        have h2 := fb_ct_mono (hitB ut vt O P E (z + 2)) (show s + 1 ≤ 256 by omega)
        rw [fb_ct_succ, hitB_t.mpr hs] at h2
        simp at h2
        omega
      rcases cs with ⟨s, uF', a1, a2, a3, a4, a5, a6, a7, a8⟩ | ⟨uF', a1, a2, a3⟩
      · rcases ms with ⟨s', xF', xG', b1, b2, b3⟩ | ⟨xF', xG', b1, b2⟩
        · have e : s' = s := fb_ct_kth_one (hitB_t.mpr b2) (hitB_t.mpr a2) (by rw [a3, b3])
          rw [e] at b1
          rw [a1, b1]
          exact Or.inl ⟨s, z + 2, uF', xF', xG', rfl, rfl, a2, a4, a5, a6, a7, a8⟩
        · have := strict s a2; omega
      · rcases ms with ⟨s', xF', xG', b1, b2, b3⟩ | ⟨xF', xG', b1, b2⟩
        · have := strict s' b2; omega
        · rw [a1, b1]
          have hz9 : z < 9 := by omega
          rcases ih (z + 1) (k - fb_ct (hitB ut vt O P E (z + 2)) 256) uF' xF' xG' (by omega) (by omega) (by omega) a2 with h9 | ⟨uF2, xF2, xG2, c1, c2, c3, c4⟩
          · exact Or.inl h9
          · refine Or.inr ⟨uF2, xF2, xG2, c1, c2, c3, fun hk0 n s hn hh => ?_⟩
            by_cases e : n = z + 2
            · rw [e] at hh
              have := strict s hh; omega
            · exact c4 (by omega) n s (by omega) hh
end
section
variable {N : Nat} {uN uF uP xA : sx_C} {K L A B : Nat} {u v : Nat → Nat}
/-- places of a position, with the ends' line -/
def uT (u v : Nat → Nat) (L A : Nat) (J : Int32) (w : Nat → Nat) : Nat → Nat := fun i => la u v (bL J L) (u31 w A i)
/-- what both have found: the set s, and the class's forests upon it -/
def fndP (u v : Nat → Nat) (L A B : Nat) (J G : Int32) (s : Nat) (uF : sx_C) : Prop :=
  s < 256 ∧ la u v (bL J L) A ≠ la u v (bL J L) B ∧ 2 ≤ qc (bt (nI s)) ∧ qMost (fun _ => rk (uT u v L A J u) (uT u v L B J v)) (qW (uT u v L A J u) (uT u v L B J v) (bt (opn L J G)) (bt (nI s))) (2 * (qc (bt (nI s)) - 1)) ∧
  jSt (uT u v L A J u) (uT u v L B J v) (qW (uT u v L A J u) (uT u v L B J v) (bt (opn L J G)) (bt (nI s))) uF ∧ (∀ y, bt (gi uF 7) y = qW (uT u v L A J u) (uT u v L B J v) (bt (opn L J G)) (bt (nI s)) y) ∧ qSz (fmk uF) = 2 * (qc (bt (nI s)) - 1) ∧ s.testBit (la u v (bL J L) A) = true ∧ s.testBit (la u v (bL J L) B) = true
theorem sets_ok (hf : 200000 ≤ N) (hN : cNet uN K L A B u v) (hM : mNet xA K L A B u v) (hF : ∃ u' v', fNet uF u' v') (J G : Int32) {k : Nat} (hk : k < 2147483648) (xD xE xF xG : sx_C) :
    ∃ r1 uF' uP' r2 xD' xE' xF' xG', f_X7_nthSet N uN J G (nI k) uF uP = some (r1, uF', uP') ∧ f_X12_setAt N xA J G (nI k) xD xE xF xG = some (r2, xD', xE', xF', xG') ∧ (∃ u' v', fNet uF' u' v') ∧
      ((r1 = -2 ∧ r2 = -1 ∧ (k = 0 → ¬ (la u v (bL J L) A ≠ la u v (bL J L) B ∧ mlk u v L A B J G 0))) ∨ (∃ s, r1 = nI s ∧ r2 = nI s ∧ fndP u v L A B J G s uF' ∧ gi uP' 2 = opn L J G ∧ mPl xA xE' K L A B u v (uT u v L A J u) (uT u v L B J v) (la u v (bL J L)) ∧ mlk u v L A B J G 0)) := by
  obtain ⟨c1, c2, c3, hL⟩ := cN_8 hN
  have h20 : 20 ≤ N := by omega
  obtain ⟨h1, h2, h3, h4, h5, ⟨h6, h7, h8⟩, ⟨h9, h9'⟩, h10⟩ := id hN
  obtain ⟨m1, m2, m3, -⟩ := id hM
  obtain ⟨fl, hfl⟩ : ∃ fl, fl = la u v (bL J L) := ⟨_, rfl⟩
  have hf8 : ∀ k, k < 8 → fl k < 8 := fun k hk => by rw [hfl]; exact la_lt8 _ _ _ k hk
  have hfK : ∀ k, k < K → fl k < K := fun k hk2 => by rw [hfl]; exact Nat.lt_of_le_of_lt ((lb_ok _ _ _ _).1 k) hk2
  have hU := mN_U hM
  have hUK : ∀ i, u31 u A i < K ∧ u31 v B i < K := fun i => ⟨u31_lt (fun i => (h10 i).1) h9 i, u31_lt (fun i => (h10 i).2) h9' i⟩
  obtain ⟨ut, hut⟩ : ∃ ut, ut = uT u v L A J u := ⟨_, rfl⟩
  obtain ⟨vt, hvt⟩ : ∃ vt, vt = uT u v L B J v := ⟨_, rfl⟩
  have hutd : ∀ i, ut i = fl (u31 u A i) ∧ vt i = fl (u31 v B i) := fun i => by rw [hut, hvt, hfl]; exact ⟨rfl, rfl⟩
  have hkt : ∀ i, ut i < 8 ∧ vt i < 8 := fun i => by rw [(hutd i).1, (hutd i).2]; exact ⟨hf8 _ (hU i).1, hf8 _ (hU i).2⟩
  have hul : ∀ i, i < L → ut i = fl (u i) ∧ vt i = fl (v i) := fun i hi => by
    rw [(hutd i).1, (hutd i).2, u31_low _ _ (by omega), u31_low _ _ (by omega)]; exact ⟨rfl, rfl⟩
  obtain ⟨p, p1, p2⟩ := placesBy_ok hN h20 J
  rw [← hfl] at p2
  obtain ⟨xD1, xE1, d1, d2⟩ := laysPlaces_ok hM h20 J xD xE
  rw [← hfl] at d2
  have HP : mPl xA xE1 K L A B u v ut vt fl := ⟨hM, d2, hfK, hkt, hul⟩
  have rA : sp_rd (ga xE1 37) 8 (nI A) = some (nI (fl A)) := by rw [rd_ok (by omega) (by decide), d2 A h9]
  have rB' : sp_rd (ga xE1 37) 8 (nI B) = some (nI (fl B)) := by rw [rd_ok (by omega) (by decide), d2 B h9']
  have fA8 := hf8 A (by omega)
  have fB8 := hf8 B (by omega)
  unfold f_X7_nthSet f_X12_setAt
  simp only [p1, meet_ok hN p2 hf8, d1, m2, m3, rA, rB', Option.bind_some]
  rw [← hfl, ← hut, ← hvt]
  by_cases hab : fl A = fl B
  · rw [if_pos (decide_eq_true hab), if_pos (by rw [hab])]
    exact ⟨-2, uF, uP, -1, xD1, xE1, xF, xG, rfl, rfl, hF, Or.inl ⟨rfl, rfl, fun _ h => h.1 hab⟩⟩
  · rw [if_neg (fun h => hab (of_decide_eq_true h)), if_neg (fun h => hab ((neq (by omega) (by omega)).mp h))]
    obtain ⟨O, hO⟩ : ∃ O, O = opn L J G := ⟨_, rfl⟩
    have hOL : ∀ z, bt O z = true → z < L := fun z hz => by rw [hO] at hz; exact opn_lt (by omega) hz
    obtain ⟨uP1, hP1⟩ : ∃ uP1, uP1 = si uP 2 O := ⟨_, rfl⟩
    have hP2 : gi uP1 2 = O := by rw [hP1]; rfl
    obtain ⟨u0, v0, hF0⟩ := hF
    obtain ⟨uF1, u1, v1, l1, l2, l3⟩ := layOpen_ok h20 hN p2 hf8 (uP := uP1) (by rw [hP2]; exact hOL) hF0
    rw [hP2] at l3
    have hu1 : ∀ i, bt O i = true → u1 i = ut i ∧ v1 i = vt i := fun i hi => by
      rw [(l3 i hi).1, (l3 i hi).2, (hul i (hOL i hi)).1, (hul i (hOL i hi)).2]; exact ⟨rfl, rfl⟩
    have n3 := num_ok p2 (k := A) (by omega) fA8
    have n4 := num_ok p2 (k := B) (by omega) fB8
    obtain ⟨PB, q1, q2⟩ := heads_ok h20 p2 hf8 h7
    obtain ⟨PB2, q3, q4⟩ := placeBits_ok hM h20 (xE := xE1) (f := fl) (fun k hk2 => ⟨d2 k hk2, hf8 k (by omega)⟩)
    have hPB : PB = PB2 := qc_iff q2 q4
    obtain ⟨EB, hEB⟩ : ∃ EB, EB = sp_shl 1 (nI (fl A)) ||| sp_shl 1 (nI (fl B)) := ⟨_, rfl⟩
    have hEbt : ∀ z, bt EB z = (decide (z = fl A) || decide (z = fl B)) := fun z => by
      rw [hEB, b_or, bit_all (by omega), bit_all (by omega)]
    obtain ⟨E, E1, E2⟩ := wb_of32 EB
    obtain ⟨R, R1, R2⟩ := wb_of32 (PB &&& (EB ^^^ (-1)))
    obtain ⟨P, P1, P2⟩ := wb_of32 PB
    have tb : ∀ x z, x < 2 ^ 32 → x.testBit z = bt (nI x) z := fun x z hx => by
      by_cases h : z < 32
      · rw [h_nI z h]
      · rw [b_big (by omega), tb_small hx (by omega)]
    have tE : ∀ z, E.testBit z = (decide (z = fl A) || decide (z = fl B)) := fun z => by rw [tb E z E1, ← E2, hEbt]
    have tP : ∀ z, P.testBit z = true ↔ ∃ k, k < K ∧ fl k = z := fun z => by rw [tb P z P1, ← P2]; exact q2 z
    have tR : ∀ z, R.testBit z = (P.testBit z && !E.testBit z) := fun z => by
      rw [tb R z R1, ← R2, tb P z P1, ← P2, tb E z E1, ← E2]
      by_cases h : z < 32
      · rw [b_and, h_not _ h]
      · rw [b_big (by omega), b_big (by omega)]; rfl
    have hEP : sbs E P := sbs_iff.mpr (fun z hz => by
      rw [tE] at hz
      rw [tP]
      by_cases e : z = fl A
      · exact ⟨A, h9, e.symm⟩
      · exact ⟨B, h9', by
          have : z = fl B := by simpa [e] using hz
          exact this.symm⟩)
    have hPd : P = E ||| R := by
      apply Nat.eq_of_testBit_eq
      intro z
      rw [Nat.testBit_or, tR]
      cases hE : E.testBit z
      · simp
      · rw [sbs_iff.mp hEP z hE]; rfl
    have hd : E &&& R = 0 := by
      apply Nat.eq_of_testBit_eq
      intro z
      rw [Nat.testBit_and, tR, Nat.zero_testBit]
      cases E.testBit z <;> simp
    have hP256 : P < 256 := Nat.lt_pow_two_of_testBit (n := 8) P (fun i hi => by
      cases h : P.testBit i
      · rfl
      · obtain ⟨k, k1, k2⟩ := (tP i).mp h
        have := hf8 k (by omega); omega)
    have hqE : qc (bt (nI E)) = 2 := by
      have e1 : bt (nI E) = qI (qI q0 (fl A)) (fl B) := by
        funext z
        rw [← tb E z E1, tE]
        show _ = ((false || decide (z = fl A)) || decide (z = fl B))
        simp
      rw [e1]
      have a1 : fb_ct (qI q0 (fl A)) 32 = fb_ct q0 32 + 1 := qc_ins (by omega) rfl
      have a2 : fb_ct (qI (qI q0 (fl A)) (fl B)) 32 = fb_ct (qI q0 (fl A)) 32 + 1 := qc_ins (by omega) (by
        show (false || decide (fl B = fl A)) = false
        have : ¬ fl B = fl A := fun e => hab e.symm
        simp [this])
      have a3 : fb_ct q0 32 = 0 := fb_ct_zero.mpr (fun k _ => rfl)
      show fb_ct (qI (qI q0 (fl A)) (fl B)) 32 = 2
      omega
    have eEB : f_X12_endBits xA xE1 = some (nI E) := by
      unfold f_X12_endBits
      simp only [m2, m3, rA, rB', Option.bind_some]
      rw [← hEB, E2]
    have H : sFix uP1 xA xE1 K L A B u v ut vt fl J G O P E R := ⟨HP, hL, hO, hP2, hPd, hd, hP256, hqE, eEB⟩
    have jo := joint_ok (uN := uN) hf H hu1 xD1 N 0 k uF1 xF xG (by omega) (by omega) hk l2
    rw [show (0 : Nat) + 2 = 2 from rfl] at jo
    have j0 : nI 0 = 0 := rfl
    rw [j0, show nI 2 = 2 from rfl] at jo
    rw [← hPB] at q3
    rw [h2, h3, h1]
    simp only [q1, q3, copen_ok hN, ← hO, ← hP1, l1, n3, n4, Option.bind_some]
    rw [← hEB, R2, E2, P2]
    -- with the ends' line: safe
    have hlaU : la (u31 u A) (u31 v B) (bL J L) = fl := by rw [hfl]; exact u31_la (fun i hi => by have := bL_lt hi; omega)
    have hu : ∀ i, i < 32 → qI (bt O) 31 i = true → ut i = la (u31 u A) (u31 v B) (bL J L) (u31 u A i) ∧ vt i = la (u31 u A) (u31 v B) (bL J L) (u31 v B i) := fun i _ _ => by
      rw [hlaU]; exact hutd i
    have ea : ut 31 = fl A := (hutd 31).1
    have eb : vt 31 = fl B := (hutd 31).2
    have hct : ∀ Q : BS, (∀ z, Q z = true → z < 8) → fb_ct Q 8 = qc Q := fun Q hQ => (ct_gap (by omega) (fun t h8 _ => by
      cases hx : Q t
      · rfl
      · have := hQ t hx; omega)).symm
    rcases jo with ⟨s, n, uF', xF', xG', a1, a2, a3, a4, a5, a6, a7, a8⟩ | ⟨uF', xF', xG', a1, a2, a3, a4⟩
    · have sA : s.testBit (fl A) = true := sbs_iff.mp a3.2.1 _ (by rw [tE]; simp)
      have sB : s.testBit (fl B) = true := sbs_iff.mp a3.2.1 _ (by rw [tE]; simp)
      have hs8 : ∀ z, bt (nI s) z = true → z < 8 := fun z hz => by
        rw [← tb s z (by omega)] at hz
        by_cases h : z < 8
        · exact h
        · rw [tb_small (k := 8) (by omega) (by omega)] at hz; cases hz
      have hqs : 2 ≤ qc (bt (nI s)) := by
        rw [← hqE]
        exact fb_ct_sub (fun i hi hb => by
          rw [h_nI i hi] at hb ⊢
          exact sbs_iff.mp a3.2.1 i hb)
      have hmost : qMost (fun _ => rk ut vt) (qW ut vt (bt O) (bt (nI s))) (2 * (qc (bt (nI s)) - 1)) := by
        have := a3.2.2.2
        rw [← a3.2.2.1] at this
        exact this
      refine ⟨_, uF', uP1, _, xD1, xE1, xF', xG', a1, a2, a5, Or.inr ⟨s, rfl, rfl, ?_, by rw [hP2], HP, ?_⟩⟩
      · unfold fndP
        rw [← hfl, ← hut, ← hvt, ← hO]
        exact ⟨a4, hab, hqs, hmost, a6, a7, a8, sA, sB⟩
      · unfold mlk
        rw [← hO]
        refine safe_of_two hU hkt (by decide) hu (P := bt (nI s)) hs8 (by rw [ea, ← tb s _ (by omega)]; exact sA) (by rw [eb, ← tb s _ (by omega)]; exact sB) ?_
        rw [hct _ hs8]; exact hmost
    · refine ⟨_, uF', uP1, _, xD1, xE1, xF', xG', a1, a2, ⟨u1, v1, a3⟩, Or.inl ⟨rfl, rfl, fun hk0 h => ?_⟩⟩
      have hq := h.2
      unfold mlk at hq
      rw [← hO] at hq
      obtain ⟨n, xF2, xG2, -, -, hmost⟩ := twoForests_ok h20 hM d2 hfK hkt hul O xF xG
      rw [bL_sub hOL] at hmost
      obtain ⟨Q, k1, k2, k3, k4, k5⟩ := two_of_safe hU hkt (by decide) hu (Q := bt (nI P)) (fun i _ _ => by
        rw [(hutd i).1, (hutd i).2, ← tb P _ P1, ← tb P _ P1]
        exact ⟨(tP _).mpr ⟨_, (hUK i).1, rfl⟩, (tP _).mpr ⟨_, (hUK i).2, rfl⟩⟩) (fun i hi => by have := hOL i hi; omega) hmost hq
      rw [ea] at k3
      rw [eb] at k4
      obtain ⟨s, hs⟩ : ∃ s, s = dV 1 (fun z => if Q z = true then 1 else 0) 8 := ⟨_, rfl⟩
      have hsb : ∀ z, s.testBit z = Q z := fun z => by
        rw [hs, dV_bit (by decide) (fun j => by split <;> decide), Nat.div_one, Nat.mod_one]
        cases h : Q z
        · rw [if_neg (by decide)]; simp
        · rw [if_pos rfl]
          have := k1 z h
          simp [this]
      have hs32 : s < 2 ^ 32 := Nat.lt_pow_two_of_testBit s (fun i hi => by
        rw [hsb]
        cases h : Q i
        · rfl
        · have := k1 i h; omega)
      have hsQ : bt (nI s) = Q := funext (fun z => by rw [← tb s z hs32, hsb])
      have hsE : sbs E s := sbs_iff.mpr (fun z hz => by
        rw [tE] at hz
        rw [hsb]
        by_cases e : z = fl A
        · rw [e]; exact k3
        · have : z = fl B := by simpa [e] using hz
          rw [this]; exact k4)
      have hq2 : 2 ≤ qc (bt (nI s)) := by
        rw [← hqE]
        exact fb_ct_sub (fun i hi hb => by
          rw [h_nI i hi] at hb ⊢
          exact sbs_iff.mp hsE i hb)
      refine a4 hk0 (qc (bt (nI s))) s (by omega) ⟨sbs_iff.mpr (fun z hz => ?_), hsE, rfl, ?_⟩
      · rw [hsb] at hz
        have := k2 z hz
        rw [← tb P z P1] at this
        exact this
      · rw [hsQ, ← hct Q k1]; exact k5
end
theorem lo_set {N : Nat} {LK : sLK} (hf : 200000 ≤ N) : LO_set N (sI LK) := by
  rintro uG uN uD uR uF uP uL uT uA uM uH xA xB xC xD xE xF xG xH xI xJ xK xL x ⟨K, L, A, B, u, v, hC, hR⟩
  have hI : ∀ uF' uP' xB' xD' xE' xF' xG', (∃ u' v', fNet uF' u' v') → sI LK uG uN uD uR uF' uP' uL uT uA uM uH xA xB' xC xD' xE' xF' xG' xH xI xJ xK xL := fun _ _ _ _ _ _ _ h => ⟨K, L, A, B, u, v, sCore_F hC h, hR⟩
  obtain ⟨hN, hM, hF, ⟨e7, e8, e11⟩, -⟩ := id hC
  unfold f_X11_set f_X12_set
  by_cases h0 : 0 ≤ x
  · rw [if_pos h0, if_pos h0, e7, e8]
    obtain ⟨k, k1, rfl⟩ := n_pos h0
    obtain ⟨r1, uF', uP', r2, xD', xE', xF', xG', a1, a2, a3, a4⟩ := sets_ok (uP := uP) hf hN hM hF (gi uG 12) (gi uG 13) k1 xD xE xF xG
    simp only [a1, a2, Option.bind_some]
    rcases a4 with ⟨b1, b2, -⟩ | ⟨s, b1, b2, b3, -⟩
    · rw [b1, b2, if_pos rfl]
      exact ⟨_, rfl, _, rfl, rfl, hI _ _ _ _ _ _ _ a3⟩
    · have := b3.1
      rw [b1, b2, if_neg (nI_ne_neg (by omega)).1]
      exact ⟨_, rfl, _, rfl, rfl, hI _ _ _ _ _ _ _ a3⟩
  · rw [if_neg h0, if_neg h0]; exact ⟨_, rfl, _, rfl, rfl, hI _ _ _ _ _ _ _ hF⟩
