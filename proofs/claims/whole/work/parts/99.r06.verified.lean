/-! ===== verified ===== -/
def smO (O : Int32) (h : Nat → Nat) : Nat → Nat
  | 0 => 0
  | n + 1 => smO O h n + (if bt O n = true then h n else 0)
theorem smO_bd {O : Int32} {h : Nat → Nat} {X : Nat} (hh : ∀ i, bt O i = true → h i ≤ X) : ∀ n, smO O h n ≤ fb_ct (bt O) n * X
  | 0 => Nat.zero_le _
  | n + 1 => by
    have := smO_bd hh n
    rw [fb_ct_succ]
    show smO O h n + (if bt O n = true then h n else 0) ≤ _
    cases hb : bt O n
    · simpa using this
    · have := hh n hb
      simp
      rw [Nat.add_mul, Nat.one_mul]
      omega
theorem smO_le {O : Int32} {h k : Nat → Nat} (hh : ∀ i, bt O i = true → h i ≤ k i) : ∀ n, smO O h n ≤ smO O k n
  | 0 => Nat.le_refl _
  | n + 1 => by
    have := smO_le hh n
    show smO O h n + (if bt O n = true then h n else 0) ≤ smO O k n + (if bt O n = true then k n else 0)
    cases hb : bt O n
    · simpa using this
    · have := hh n hb
      simp
      omega
theorem smO_gap {O : Int32} {h : Nat → Nat} {a : Nat} (ho : ∀ z, bt O z = true → z < a) : ∀ d, smO O h (a + d) = smO O h a
  | 0 => rfl
  | d + 1 => by
    show smO O h (a + d) + (if bt O (a + d) = true then h (a + d) else 0) = _
    rw [smO_gap ho d, if_neg (fun h9 => by have := ho _ h9; omega)]
    rfl
def bnd : Nat → Nat
  | 0 => 1
  | 1 => 1
  | n + 2 => (n + 2) * bnd n
theorem bnd_pos : ∀ n, 1 ≤ bnd n
  | 0 => Nat.le_refl _
  | 1 => Nat.le_refl _
  | n + 2 => by
    have := bnd_pos n
    show 1 ≤ (n + 2) * bnd n
    exact Nat.le_trans this (Nat.le_mul_of_pos_left _ (by omega))
def MV (N : Nat) (xA : sx_C) (L : Nat) (J G : Int32) (g w : Nat) : Prop := ∀ d xD xE xF xG xH xJ (G0 W0 : Nat), qc (bt (opn L J G)) < d → gi xJ 48 = nI G0 → gi xJ 49 = nI W0 → ∃ xD' xE' xF' xG' xH' xJ', f_X12_verifies N xA d J G xD xE xF xG xH xJ = some (xD', xE', xF', xG', xH', xJ') ∧ gi xJ' 48 = nI (G0 + g) ∧ gi xJ' 49 = nI (W0 + w)
def VV (N : Nat) (xA : sx_C) (L : Nat) (J G r : Int32) : Prop := ∃ g w, MV N xA L J G g w ∧ r = nI (65536 * g + w)
theorem MV_one {N : Nat} {xA : sx_C} {L : Nat} {J G : Int32} {g w g' w' : Nat} (h : MV N xA L J G g w) (h' : MV N xA L J G g' w') : nI (65536 * g + w) = nI (65536 * g' + w') := by
  obtain ⟨_, _, _, _, _, x1, a1, a2, a3⟩ := h _ z_0 z_0 z_0 z_0 z_0 z_0 0 0 (Nat.lt_succ_self _) rfl rfl
  obtain ⟨_, _, _, _, _, x2, b1, b2, b3⟩ := h' _ z_0 z_0 z_0 z_0 z_0 z_0 0 0 (Nat.lt_succ_self _) rfl rfl
  have e := Option.some.inj (a1.symm.trans b1)
  have e : x1 = x2 := by
    have := congrArg (fun p => p.2.2.2.2.2) e
    exact this
  rw [e, b2] at a2
  rw [e, b3] at a3
  rw [Nat.zero_add, Nat.zero_add] at a2 a3
  rw [← nadd, ← nadd, ← nmul, ← nmul, a2, a3]
theorem pk_two (g w g' w' : Nat) : nI (65536 * g + w) + nI (65536 * g' + w') = nI (65536 * (g + g') + (w + w')) := by
  rw [nadd]
  congr 1
  omega
theorem fN_0 : ∃ u' v', fNet z_0 u' v' := ⟨fun _ => 0, fun _ => 0, fun i _ => ⟨rfl, rfl⟩, fun _ => ⟨Nat.zero_lt_succ 7, Nat.zero_lt_succ 7⟩⟩
section
variable {N : Nat} {uN xA : sx_C} {K L A B : Nat} {u v : Nat → Nat}
theorem ver_sim (hf : 200000 ≤ N) (hN : cNet uN K L A B u v) (hM : mNet xA K L A B u v) : ∀ c (J G : Int32), (∀ z, bt J z = true → z < L) → (∀ z, bt G z = true → z < L) → qc (bt (opn L J G)) = c → mlk u v L A B J G 0 → ∃ g w, g ≤ bnd c ∧ w ≤ g ∧ MV N xA L J G g w ∧
    ∀ d dep uF uP uM, c < d → dep + c ≤ 14 → (∃ u' v', fNet uF u' v') → mOK (VV N xA L) uM → ∃ uF' uP' uM', f_X1_cutFirst N uN d J G (nI dep) uF uP uM = some (nI (65536 * g + w), uF', uP', uM') ∧ (∃ u' v', fNet uF' u' v') ∧ mOK (VV N xA L) uM' := by
  obtain ⟨c1, c2, c3, hL⟩ := cN_8 hN
  have h20 : 20 ≤ N := by omega
  have h4 : gi xA 4 = nI L := hM.2.2.2.1
  intro c
  induction c using Nat.strongRecOn with
  | _ c ih =>
  intro J G hJ hG hc hmk
  have hJ14 : b14 J := fun z hz => by have := hJ z hz; omega
  have hG14 : b14 G := fun z hz => by have := hG z hz; omega
  by_cases hh : hld u v L A B J G = 2
  · have hne : la u v (bL J L) A ≠ la u v (bL J L) B := fun e => by
      unfold hld at hh
      rw [if_pos e] at hh; cases hh
    obtain ⟨O, hO⟩ : ∃ O, O = opn L J G := ⟨_, rfl⟩
    have hOL : ∀ z, bt O z = true → z < L := fun z hz => by rw [hO] at hz; exact opn_lt (by omega) hz
    have hk := uT_8 hN J
    -- for each open line its answer and what is behind it
    have each : ∀ i, ∃ p : Nat × Nat × Nat, p.1 < 14 ∧ (bt O i = false → p.1 = 0) ∧ (bt O i = true → (∀ uF uP, (∃ u' v', fNet uF u' v') → ∀ fb uF' uP', f_X7_find N uN J G uF uP = some (fb, uF', uP') → aV (uT u v L A J u) (uT u v L B J v) (gi uP' 4) (gi uP' 5) i p.1 = true ∧ fb_ct (aV (uT u v L A J u) (uT u v L B J v) (gi uP' 4) (gi uP' 5) i) p.1 = 0) ∧ bt O p.1 = true ∧ p.2.1 ≤ bnd (c - 2) ∧ p.2.2 ≤ p.2.1 ∧ 2 ≤ c ∧ qc (bt (opn L (J ||| sp_shl 1 (nI p.1)) (G ||| sp_shl 1 (nI i)))) = c - 2 ∧ MV N xA L (J ||| sp_shl 1 (nI p.1)) (G ||| sp_shl 1 (nI i)) p.2.1 p.2.2 ∧
        ∀ d dep uF uP uM, c - 2 < d → dep + (c - 2) ≤ 14 → (∃ u' v', fNet uF u' v') → mOK (VV N xA L) uM → ∃ uF' uP' uM', f_X1_cutFirst N uN d (J ||| sp_shl 1 (nI p.1)) (G ||| sp_shl 1 (nI i)) (nI dep) uF uP uM = some (nI (65536 * p.2.1 + p.2.2), uF', uP', uM') ∧ (∃ u' v', fNet uF' u' v') ∧ mOK (VV N xA L) uM') := by
      intro i
      cases ho : bt O i
      · exact ⟨(0, 0, 0), by decide, fun _ => rfl, fun h => (by cases h)⟩
      · obtain ⟨fb, uF1, uP1, xD1, xE1, xF1, xG1, xH1, a1, a2, a3, a4, a5⟩ := find_ok (uF := z_0) (uP := z_0) hf hN hM fN_0 J G z_0 z_0 z_0 z_0 z_0
        have hfb : fb = true := a4.mpr ⟨hne, hmk⟩
        obtain ⟨s, q3, q43, s256, q44, q45, q2, q5, sA, sB, q6, -⟩ := a5 hfb
        obtain ⟨j, j1, j2, j3⟩ := ans_ex hk q6 i
        have hio : bt (opn L J G) i = true := by rw [← hO]; exact ho
        obtain ⟨n1, n2, n3⟩ := pair_next hM hL s256 rfl sA sB q6 hio j2
        have iL := hOL i ho
        have jL : j < L := hOL j (by rw [hO]; exact n2)
        have hcc : qc (bt (opn L (J ||| sp_shl 1 (nI j)) (G ||| sp_shl 1 (nI i)))) + 2 = c := by
          rw [opn_join (by omega) J _ jL, opn_cut (by omega) J G iL, ← hc]
          have e1 : fb_ct (qE (qE (bt (opn L J G)) i) j) 32 + 1 = fb_ct (qE (bt (opn L J G)) i) 32 := qc_era (by omega) (by
            show (bt (opn L J G) j && !decide (j = i)) = true
            rw [n2]; simp [n1])
          have e2 : fb_ct (qE (bt (opn L J G)) i) 32 + 1 = fb_ct (bt (opn L J G)) 32 := qc_era (by omega) hio
          show fb_ct (qE (qE (bt (opn L J G)) i) j) 32 + 2 = fb_ct (bt (opn L J G)) 32
          omega
        have hset : ∀ (X : Int32) (y : Nat), y < L → (∀ z, bt X z = true → z < L) → ∀ z, bt (X ||| sp_shl 1 (nI y)) z = true → z < L := fun X y hy hX z hz => by
          rw [b_or, bit_all (by omega)] at hz
          by_cases e : z = y
          · omega
          · exact hX z (by simpa [e] using hz)
        obtain ⟨g, w, b1, b2, b3, b4⟩ := ih (c - 2) (by omega) (J ||| sp_shl 1 (nI j)) (G ||| sp_shl 1 (nI i)) (hset J j jL hJ) (hset G i iL hG) (by omega) n3
        refine ⟨(j, g, w), j1, fun h => (by cases h), fun _ => ⟨fun uF uP hFF fb' uF' uP' hfind => ?_, by rw [hO]; exact n2, b1, b2, by omega, (by show qc (bt (opn L (J ||| sp_shl 1 (nI j)) (G ||| sp_shl 1 (nI i)))) = c - 2; omega), b3, b4⟩⟩
        -- any find gives the same trees
        obtain ⟨fb2, uF2, uP2, xD2, xE2, xF2, xG2, xH2, d1, d2, d3, d4, d5⟩ := find_ok (uF := uF) (uP := uP) hf hN hM hFF J G z_0 z_0 z_0 z_0 z_0
        have e1 := Option.some.inj (d2.symm.trans a2)
        have hfb2 : fb2 = true := d4.mpr ⟨hne, hmk⟩
        obtain ⟨s2, p3, p43, -, p44, p45, -⟩ := d5 hfb2
        have e2 := Option.some.inj (hfind.symm.trans d1)
        have e3 : uP' = uP2 := congrArg (fun p => p.2.2) e2
        have e4 : xH2 = xH1 := congrArg (fun p => p.2.2.2.2.2) e1
        rw [e4] at p44 p45
        have e5 : gi uP' 4 = gi uP1 4 := by rw [e3, ← p44, q44]
        have e6 : gi uP' 5 = gi uP1 5 := by rw [e3, ← p45, q45]
        rw [e5, e6]
        exact ⟨j2, j3⟩
    obtain ⟨F, hF⟩ := Classical.axiomOfChoice each
    obtain ⟨dd, hdd⟩ : ∃ dd : Nat → Nat, dd = fun i => (F i).1 := ⟨_, rfl⟩
    obtain ⟨gI, hgI⟩ : ∃ gI : Nat → Nat, gI = fun i => (F i).2.1 := ⟨_, rfl⟩
    obtain ⟨wI, hwI⟩ : ∃ wI : Nat → Nat, wI = fun i => (F i).2.2 := ⟨_, rfl⟩
    have hsum : ∀ h : Nat → Nat, smO O h 14 = smO O h L := fun h => by
      have := smO_gap (h := h) hOL (14 - L)
      rwa [show L + (14 - L) = 14 by omega] at this
    have hopen : ∃ i, bt O i = true := by
      obtain ⟨i, i1, i2⟩ := hld_open hL hJ hh
      exact ⟨i, by rw [hO]; exact i2⟩
    have hc2 : 2 ≤ c := by
      obtain ⟨i, hi⟩ := hopen
      exact ((hF i).2.2 hi).2.2.2.2.1
    have hMV : MV N xA L J G (smO O gI 14) (smO O wI 14) := by
      intro d xD xE xF xG xH xJ G0 W0 hd g48 g49
      obtain ⟨d', rfl⟩ : ∃ d', d = d' + 1 := ⟨d - 1, by omega⟩
      unfold f_X12_verifies
      obtain ⟨xD1, g1⟩ := mhas_ok hM h20 J G xD
      simp only [g1, Option.bind_some]
      rw [if_pos hh, mopen_ok hM, Option.bind_some, ← hO]
      have loop : ∀ n i xD xE xF xG xH xJ, L - i < n → i ≤ L → gi xJ 48 = nI (G0 + smO O gI i) → gi xJ 49 = nI (W0 + smO O wI i) → ∃ xD' xE' xF' xG' xH' xJ', f_X12_verifies_52 N (f_X12_verifies N xA d') xA n J G O (nI i) xD xE xF xG xH xJ = some (xD', xE', xF', xG', xH', xJ') ∧ gi xJ' 48 = nI (G0 + smO O gI 14) ∧ gi xJ' 49 = nI (W0 + smO O wI 14) := by
        intro n
        induction n with
        | zero => intro i xD xE xF xG xH xJ hn; omega
        | succ n ihn =>
          intro i xD xE xF xG xH xJ hn hi g48 g49
          unfold f_X12_verifies_52
          rw [h4]
          by_cases hcL : L ≤ i
          · rw [if_pos ((nle (by omega) (by omega)).mpr hcL)]
            have : i = L := by omega
            subst this
            exact ⟨_, _, _, _, _, _, rfl, by rw [hsum]; exact g48, by rw [hsum]; exact g49⟩
          · rw [if_neg (fun h => hcL ((nle (by omega) (by omega)).mp h))]
            unfold f_X12_verifies_105
            rw [show nI i + 1 = nI (i + 1) from nadd i 1]
            have sg : smO O gI (i + 1) = smO O gI i + (if bt O i = true then gI i else 0) := rfl
            have sw' : smO O wI (i + 1) = smO O wI i + (if bt O i = true then wI i else 0) := rfl
            cases hb : bt O i
            · rw [if_pos ((shr_ok O (by omega : i < 32)).2.mpr hb)]
              rw [hb] at sg sw'
              exact ihn (i + 1) xD xE xF xG xH xJ (by omega) (by omega) (by rw [sg]; simpa using g48) (by rw [sw']; simpa using g49)
            · have n1 : ¬ (sp_shr O (nI i)) &&& 1 = 0 := fun h => by rw [(shr_ok _ (by omega)).2, hb] at h; cases h
              rw [if_neg n1]
              rw [hb] at sg sw'
              simp only [↓reduceIte] at sg sw'
              obtain ⟨fb, uF1, uP1, xD1, xE1, xF1, xG1, xH1, a1, a2, a3, a4, a5⟩ := find_ok (uF := z_0) (uP := z_0) hf hN hM fN_0 J G xD xE xF xG xH
              have hfb : fb = true := a4.mpr ⟨hne, hmk⟩
              obtain ⟨s, q3, q43, s256, q44, q45, q2, q5, sA, sB, q6, -⟩ := a5 hfb
              obtain ⟨z1, z2, z3⟩ := hF i
              obtain ⟨z4, z5, z6, z7, z8, z9, z10, z11⟩ := z3 hb
              obtain ⟨k1, k2⟩ := z4 z_0 z_0 fN_0 fb uF1 uP1 a1
              have hWL : ∀ z, qW (uT u v L A J u) (uT u v L B J v) (bt (opn L J G)) (bt (nI s)) z = true → z < L := fun z hz => by
                unfold qW at hz
                simp at hz
                exact opn_lt (by omega) hz.1
              obtain ⟨xF2, r3⟩ := answerOf_ok h20 q5 hWL (xH := xH1) (by rw [q44, q45]; exact q6) (by omega : i < 17) (j := (F i).1) (by rw [q44, q45]; exact k1) (by rw [q44, q45]; exact k2) xF1
              simp only [a2, r3, Option.bind_some]
              obtain ⟨xD3, xE3, xF3, xG3, xH3, xJ3, m1, m2, m3⟩ := z10 d' xD1 xE1 xF2 xG1 xH1 xJ (G0 + smO O gI i) (W0 + smO O wI i) (by omega) g48 g49
              simp only [m1, Option.bind_some]
              refine ihn (i + 1) xD3 xE3 xF3 xG3 xH3 xJ3 (by omega) (by omega) ?_ ?_
              · rw [m2, sg, hgI, Nat.add_assoc]
              · rw [m3, sw', hwI, Nat.add_assoc]
      exact loop N 0 xD1 xE xF xG xH xJ (by omega) (by omega) g48 g49
    refine ⟨smO O gI 14, smO O wI 14, ?_, smO_le (fun i hi => ?_) 14, hMV, fun d dep uF uP uM hd hdep hFF hm => ?_⟩
    · have h9 := smO_bd (O := O) (h := gI) (X := bnd (c - 2)) (fun i hi => by rw [hgI]; exact ((hF i).2.2 hi).2.2.1) 14
      have h10 : fb_ct (bt O) 14 = c := by rw [ct14 (fun z hz => by have := hOL z hz; omega), hO]; exact hc
      rw [h10] at h9
      obtain ⟨c', rfl⟩ : ∃ c', c = c' + 2 := ⟨c - 2, by omega⟩
      exact h9
    · rw [hgI, hwI]; exact ((hF i).2.2 hi).2.2.2.1
    · obtain ⟨d', rfl⟩ : ∃ d', d = d' + 1 := ⟨d - 1, by omega⟩
      unfold f_X1_cutFirst
      simp only [holder_ok hN h20, Option.bind_some]
      rw [if_pos hh, if_pos (show nI dep ≤ 14 from (nle (b := 14) (by omega) (by omega)).mpr (by omega))]
      obtain ⟨r, r1, r2⟩ := valueOf_ok (by omega : 300 ≤ N) hm hJ14 hG14
      rw [r1, Option.bind_some]
      by_cases hr : r = -1
      · rw [if_pos hr]
        obtain ⟨fb, uF1, uP1, xD1, xE1, xF1, xG1, xH1, a1, a2, a3, a4, a5⟩ := find_ok (uF := uF) (uP := uP) hf hN hM hFF J G z_0 z_0 z_0 z_0 z_0
        have hfb : fb = true := a4.mpr ⟨hne, hmk⟩
        obtain ⟨s, q3, q43, s256, q44, q45, q2, q5, sA, sB, q6, u', v', q7, q8⟩ := a5 hfb
        have hd14 : ∀ j, dd j < 14 := fun j => by rw [hdd]; exact (hF j).1
        obtain ⟨uF2, p1, p2⟩ := replies_ok h20 q7 q8 hk q6 (d := dd) hd14 (fun i hi => by rw [hdd]; exact (hF i).2.1 (by rw [hO, ← q2]; exact hi)) (fun i hi => by
          rw [hdd]
          exact ((hF i).2.2 (by rw [hO, ← q2]; exact hi)).1 uF uP hFF fb uF1 uP1 a1)
        simp only [a1, copen_ok hN, p1, Option.bind_some]
        rw [if_pos hfb, ← hO]
        have loop : ∀ n i uF uP uM, 14 - i < n → i ≤ 14 → (∃ u' v', fNet uF u' v') → mOK (VV N xA L) uM → ∃ uF' uP' uM', f_X1_cutFirst_97 N (f_X1_cutFirst N uN d') uN n J G (nI dep) O (lN (dV 4 dd 14)) (nI (65536 * smO O gI i + smO O wI i)) (nI i) uF uP uM = some (nI (65536 * smO O gI 14 + smO O wI 14), uF', uP', uM') ∧ (∃ u' v', fNet uF' u' v') ∧ mOK (VV N xA L) uM' := by
          intro n
          induction n with
          | zero => intro i uF uP uM hn; omega
          | succ n ihn =>
            intro i uF uP uM hn hi hFF hm
            unfold f_X1_cutFirst_97
            by_cases hci : 14 ≤ i
            · rw [if_pos (show (14 : Int32) ≤ nI i from (nle (a := 14) (by omega) (by omega)).mpr hci)]
              have : i = 14 := by omega
              subst this
              obtain ⟨uM', k1, k2⟩ := keep_ok (by omega : 300 ≤ N) hm hJ14 hG14 (x := nI (65536 * smO O gI 14 + smO O wI 14)) ⟨_, _, hMV, rfl⟩
              simp only [k1, Option.bind_some]
              exact ⟨_, _, _, rfl, hFF, k2⟩
            · rw [if_neg (show ¬ (14 : Int32) ≤ nI i from fun h => hci ((nle (a := 14) (by omega) (by omega)).mp h)), has_ok _ (by omega), Option.bind_some]
              unfold f_X1_cutFirst_151
              rw [show nI i + 1 = nI (i + 1) from nadd i 1, show nI dep + 1 = nI (dep + 1) from nadd dep 1]
              have sg : smO O gI (i + 1) = smO O gI i + (if bt O i = true then gI i else 0) := rfl
              have sw' : smO O wI (i + 1) = smO O wI i + (if bt O i = true then wI i else 0) := rfl
              cases hb : bt O i
              · rw [if_neg (by decide)]
                rw [hb] at sg sw'
                simp only [Bool.false_eq_true, ↓reduceIte, Nat.add_zero] at sg sw'
                rw [← sg, ← sw']
                exact ihn (i + 1) uF uP uM (by omega) (by omega) hFF hm
              · rw [if_pos rfl, pack_get hd14 (by omega : i < 14)]
                rw [hb] at sg sw'
                simp only [↓reduceIte] at sg sw'
                obtain ⟨z1, z2, z3⟩ := hF i
                obtain ⟨z4, z5, z6, z7, z8, z9, z10, z11⟩ := z3 hb
                obtain ⟨uF3, uP3, uM3, m1, m2, m3⟩ := z11 d' (dep + 1) uF uP uM (by omega) (by omega) hFF hm
                have edd : dd i = (F i).1 := by rw [hdd]
                rw [edd]
                simp only [m1, Option.bind_some]
                rw [pk_two]
                have e1 : smO O gI i + (F i).2.1 = smO O gI (i + 1) := by rw [sg, hgI]
                have e2 : smO O wI i + (F i).2.2 = smO O wI (i + 1) := by rw [sw', hwI]
                rw [e1, e2]
                exact ihn (i + 1) uF3 uP3 uM3 (by omega) (by omega) m2 m3
        exact loop N 0 uF2 uP1 uM (by omega) (by omega) ⟨u', v', f4_net p2 q7⟩ hm
      · rw [if_neg hr]
        rcases r2 with r2 | ⟨g', w', r3, r4⟩
        · exact absurd r2 hr
        · rw [r4, MV_one r3 hMV]
          exact ⟨_, _, _, rfl, hFF, hm⟩
  · refine ⟨1, if hld u v L A B J G = 0 then 1 else 0, bnd_pos c, by split <;> omega, ?_, fun d dep uF uP uM hd hdep hFF hm => ?_⟩
    · intro d xD xE xF xG xH xJ G0 W0 hd g48 g49
      obtain ⟨d', rfl⟩ : ∃ d', d = d' + 1 := ⟨d - 1, by omega⟩
      unfold f_X12_verifies
      obtain ⟨xD1, g1⟩ := mhas_ok hM h20 J G xD
      simp only [g1, Option.bind_some]
      rw [if_neg hh]
      unfold f_X12_verifies_36
      have q49 : gi (si xJ 48 (gi xJ 48 + 1)) 49 = nI W0 := g49
      have q48 : gi xJ 48 + 1 = nI (G0 + 1) := by rw [g48]; exact nadd G0 1
      rw [q49]
      by_cases h0 : hld u v L A B J G = 0
      · rw [if_pos h0, if_pos h0]
        refine ⟨_, _, _, _, _, _, rfl, ?_, ?_⟩
        · show gi xJ 48 + 1 = _
          exact q48
        · show nI W0 + 1 = _
          exact nadd W0 1
      · rw [if_neg h0, if_neg h0]
        refine ⟨_, _, _, _, _, _, rfl, ?_, ?_⟩
        · show gi xJ 48 + 1 = _
          exact q48
        · show nI W0 + 0 = _
          exact nadd W0 0
    · obtain ⟨d', rfl⟩ : ∃ d', d = d' + 1 := ⟨d - 1, by omega⟩
      unfold f_X1_cutFirst f_X1_cutFirst_23
      simp only [holder_ok hN h20, Option.bind_some]
      rw [if_neg hh]
      by_cases h0 : hld u v L A B J G = 0
      · rw [if_pos h0, if_pos h0]; exact ⟨_, _, _, rfl, hFF, hm⟩
      · rw [if_neg h0, if_neg h0]; exact ⟨_, _, _, rfl, hFF, hm⟩
end
theorem small_ok {uG uN : sx_C} {K L A B : Nat} {u v : Nat → Nat} (hN : cNet uN K L A B u v) : f_X11_isSmall uG uN = some (decide (qc (bt (opn L (gi uG 12) (gi uG 13))) ≤ 10)) := by
  have hL : L ≤ 14 := (cN_8 hN).2.2.2
  have hq := qc_opn14 hL (gi uG 12) (gi uG 13)
  unfold f_X11_isSmall
  simp only [cOpen_ok hN, bitCount_ok, Option.bind_some]
  by_cases h : qc (bt (opn L (gi uG 12) (gi uG 13))) ≤ 10
  · rw [if_neg (show ¬ (10 : Int32) < nI (qc (bt (opn L (gi uG 12) (gi uG 13)))) from fun h2 => by have := (nlt (a := 10) (by omega) (by omega)).mp h2; omega)]; simp [h]
  · rw [if_pos (show (10 : Int32) < nI (qc (bt (opn L (gi uG 12) (gi uG 13)))) from (nlt (a := 10) (by omega) (by omega)).mpr (by omega))]; simp [h]
theorem bnd_10 : ∀ c, c < 11 → bnd c ≤ 3840 := by decide
theorem pk_split {g w : Nat} (hg : g ≤ 3840) (hw : w ≤ g) : nI (65536 * g + w) / 65536 = nI g ∧ nI (65536 * g + w) &&& 65535 = nI w := by
  constructor
  · rw [show (65536 : Int32) = nI 65536 from rfl, pk_div (by omega) (by decide) (by decide)]
    congr 1
    omega
  · rw [nx_mod]
    congr 1
    omega
theorem lo_verified {N : Nat} {LK : sLK} (hf : 200000 ≤ N) : LO_verified N (sI LK) := by
  rintro uG uN uD uR uF uP uL uTT uA uM uH xA xB xC xD xE xF xG xH xI xJ xK xL x ⟨K, L, A, B, u, v, hC, hR⟩
  have hI : ∀ uF' uP' uM' xB' xD' xE' xF' xG' xH' xJ', (∃ u' v', fNet uF' u' v') → sI LK uG uN uD uR uF' uP' uL uTT uA uM' uH xA xB' xC xD' xE' xF' xG' xH' xI xJ' xK xL := fun _ _ _ _ _ _ _ _ _ _ h => ⟨K, L, A, B, u, v, sCore_F hC h, hR⟩
  obtain ⟨hN, hM, hF, ⟨e7, e8, e11⟩, -, hJ, hG, -⟩ := id hC
  have hL : L ≤ 14 := (cN_8 hN).2.2.2
  have hq := qc_opn14 hL (gi uG 12) (gi uG 13)
  unfold f_X11_verified f_X12_verified
  rcases int_01 x with h | ⟨h, h2, -⟩ | ⟨m, m1, rfl, h, h2, -⟩
  · rw [if_pos h, if_pos h]; exact ⟨_, rfl, _, rfl, rfl, hI _ _ _ _ _ _ _ _ _ _ hF⟩
  · rw [if_neg h, if_neg h, if_neg h2, if_neg h2]; exact ⟨_, rfl, _, rfl, rfl, hI _ _ _ _ _ _ _ _ _ _ hF⟩
  · rw [if_neg h, if_neg h, if_pos h2, if_pos h2]
    simp only [small_ok hN, mOpenNow_ok hM, bits_ok, Option.bind_some]
    rw [e7, e8]
    by_cases h10 : qc (bt (opn L (gi uG 12) (gi uG 13))) ≤ 10
    · rw [if_pos (decide_eq_true h10), if_neg (show ¬ (10 : Int32) < nI (qc (bt (opn L (gi uG 12) (gi uG 13)))) from fun h3 => by have := (nlt (a := 10) (by omega) (by omega)).mp h3; omega)]
      obtain ⟨fb, uF1, uP1, xD1, xE1, xF1, xG1, xH1, a1, a2, a3, a4, a5⟩ := find_ok (uF := uF) (uP := uP) hf hN hM hF (gi uG 12) (gi uG 13) xD xE xF xG xH
      simp only [a1, a2, Option.bind_some]
      cases fb
      · exact ⟨_, rfl, _, rfl, rfl, hI _ _ _ _ _ _ _ _ _ _ a3⟩
      · rw [if_pos rfl, if_pos rfl]
        obtain ⟨g, w, b1, b2, b3, b4⟩ := ver_sim hf hN hM _ (gi uG 12) (gi uG 13) hJ hG rfl (a4.mp rfl).2
        obtain ⟨uM1, c1, c2⟩ := clear_ok (VV N xA L) uM
        obtain ⟨uF2, uP2, uM2, d1, d2, d3⟩ := b4 40 0 uF1 uP1 uM1 (by omega) (by omega) a3 c2
        have d1 : f_X1_cutFirst N uN 40 (gi uG 12) (gi uG 13) 0 uF1 uP1 uM1 = some (nI (65536 * g + w), uF2, uP2, uM2) := d1
        obtain ⟨xD2, xE2, xF2, xG2, xH2, xJ2, f1, f2, f3⟩ := b3 40 xD1 xE1 xF1 xG1 xH1 (si (si xJ 48 0) 49 0) 0 0 (by omega) rfl rfl
        rw [Nat.zero_add] at f2 f3
        unfold f_X1_goThrough f_X1_goThrough_29
        simp only [c1, d1, f1, Option.bind_some, ↓reduceIte]
        have hg : g ≤ 3840 := Nat.le_trans b1 (bnd_10 _ (by omega))
        obtain ⟨p1, p2⟩ := pk_split hg b2
        by_cases hm0 : nI m = 0
        · rw [if_pos hm0, if_pos hm0]
          refine ⟨_, rfl, _, rfl, ?_, hI _ _ _ _ _ _ _ _ _ _ d2⟩
          show nI (65536 * g + w) / 65536 = gi xJ2 48
          rw [p1, f2]
        · rw [if_neg hm0, if_neg hm0]
          refine ⟨_, rfl, _, rfl, ?_, hI _ _ _ _ _ _ _ _ _ _ d2⟩
          show nI (65536 * g + w) &&& 65535 = gi xJ2 49
          rw [p2, f3]
    · rw [if_neg (fun h3 => h10 (of_decide_eq_true h3)), if_pos (show (10 : Int32) < nI (qc (bt (opn L (gi uG 12) (gi uG 13)))) from (nlt (a := 10) (by omega) (by omega)).mpr (by omega))]
      exact ⟨_, rfl, _, rfl, rfl, hI _ _ _ _ _ _ _ _ _ _ hF⟩
