/-! ===== verifiedForCut ===== -/
def MC (N : Nat) (xA : sx_C) (L : Nat) (J G : Int32) (g w : Nat) : Prop := ∀ d xD xE xF xG xJ (G0 W0 : Nat), qc (bt (opn L J G)) < d → gi xJ 48 = nI G0 → gi xJ 49 = nI W0 → ∃ xD' xE' xF' xG' xJ', f_X12_verifiesCut N xA d J G xD xE xF xG xJ = some (xD', xE', xF', xG', xJ') ∧ gi xJ' 48 = nI (G0 + g) ∧ gi xJ' 49 = nI (W0 + w)
def VC (N : Nat) (xA : sx_C) (L : Nat) (J G r : Int32) : Prop := ∃ g w, MC N xA L J G g w ∧ r = nI (65536 * g + w)
theorem MC_one {N : Nat} {xA : sx_C} {L : Nat} {J G : Int32} {g w g' w' : Nat} (h : MC N xA L J G g w) (h' : MC N xA L J G g' w') : nI (65536 * g + w) = nI (65536 * g' + w') := by
  obtain ⟨_, _, _, _, x1, a1, a2, a3⟩ := h _ z_0 z_0 z_0 z_0 z_0 0 0 (Nat.lt_succ_self _) rfl rfl
  obtain ⟨_, _, _, _, x2, b1, b2, b3⟩ := h' _ z_0 z_0 z_0 z_0 z_0 0 0 (Nat.lt_succ_self _) rfl rfl
  have e := Option.some.inj (a1.symm.trans b1)
  have e : x1 = x2 := by
    have := congrArg (fun p => p.2.2.2.2) e
    exact this
  rw [e, b2] at a2
  rw [e, b3] at a3
  rw [Nat.zero_add, Nat.zero_add] at a2 a3
  rw [← nadd, ← nadd, ← nmul, ← nmul, a2, a3]
section
variable {N : Nat} {uN xA : sx_C} {K L A B : Nat} {u v : Nat → Nat}
theorem vc_sim (hf : 200000 ≤ N) (hN : cNet uN K L A B u v) (hM : mNet xA K L A B u v) : ∀ c (J G : Int32), (∀ z, bt J z = true → z < L) → (∀ z, bt G z = true → z < L) → qc (bt (opn L J G)) = c → mlk u v L A B J G 2 → ∃ g w, g ≤ bnd c ∧ w ≤ g ∧ MC N xA L J G g w ∧
    ∀ d dep uF uM, c < d → dep + c ≤ 14 → (∃ u' v', fNet uF u' v') → mOK (VC N xA L) uM → ∃ uF' uM', f_X1_joinFirst N uN d J G (nI dep) uF uM = some (nI (65536 * g + w), uF', uM') ∧ (∃ u' v', fNet uF' u' v') ∧ mOK (VC N xA L) uM' := by
  obtain ⟨c1, c2, c3, hL⟩ := cN_8 hN
  have h20 : 20 ≤ N := by omega
  have h4 : gi xA 4 = nI L := hM.2.2.2.1
  have MU := gs_mat (mN_U hM)
  intro c
  induction c using Nat.strongRecOn with
  | _ c ih =>
  intro J G hJ hG hc hmk
  have hJ14 : b14 J := fun z hz => by have := hJ z hz; omega
  have hG14 : b14 G := fun z hz => by have := hG z hz; omega
  by_cases hh : hld u v L A B J G = 2
  · obtain ⟨O, hO⟩ : ∃ O, O = opn L J G := ⟨_, rfl⟩
    have hOL : ∀ z, bt O z = true → z < L := fun z hz => by rw [hO] at hz; exact opn_lt (by omega) hz
    have hset : ∀ (X : Int32) (y : Nat), y < L → (∀ z, bt X z = true → z < L) → ∀ z, bt (X ||| sp_shl 1 (nI y)) z = true → z < L := fun X y hy hX z hz => by
      rw [b_or, bit_all (by omega)] at hz
      by_cases e : z = y
      · omega
      · exact hX z (by simpa [e] using hz)
    -- for each open line CUT's answer and what is behind it
    have each : ∀ i, ∃ p : Nat × Nat × Nat, bt O i = true → hld u v L A B (J ||| sp_shl 1 (nI i)) G = 2 ∧ p.1 < 14 ∧ wnW u v L A B (J ||| sp_shl 1 (nI i)) G 1 p.1 = true ∧ fb_ct (wnW u v L A B (J ||| sp_shl 1 (nI i)) G 1) p.1 = 0 ∧ p.2.1 ≤ bnd (c - 2) ∧ p.2.2 ≤ p.2.1 ∧ 2 ≤ c ∧ qc (bt (opn L (J ||| sp_shl 1 (nI i)) (G ||| sp_shl 1 (nI p.1)))) = c - 2 ∧ MC N xA L (J ||| sp_shl 1 (nI i)) (G ||| sp_shl 1 (nI p.1)) p.2.1 p.2.2 ∧
        ∀ d dep uF uM, c - 2 < d → dep + (c - 2) ≤ 14 → (∃ u' v', fNet uF u' v') → mOK (VC N xA L) uM → ∃ uF' uM', f_X1_joinFirst N uN d (J ||| sp_shl 1 (nI i)) (G ||| sp_shl 1 (nI p.1)) (nI dep) uF uM = some (nI (65536 * p.2.1 + p.2.2), uF', uM') ∧ (∃ u' v', fNet uF' u' v') ∧ mOK (VC N xA L) uM' := by
      intro i
      cases ho : bt O i
      · exact ⟨(0, 0, 0), fun h => (by cases h)⟩
      · have hio : bt (opn L J G) i = true := by rw [← hO]; exact ho
        have iL := hOL i ho
        -- not safe by one line
        have hn0 : ¬ mlk u v L A B (J ||| sp_shl 1 (nI i)) G 0 := fun h => by
          rw [mlk_join hM iL] at h
          exact qL_d MU (by decide) (by omega) hio hmk h
        have hnj : la u v (bL (J ||| sp_shl 1 (nI i)) L) A ≠ la u v (bL (J ||| sp_shl 1 (nI i)) L) B := fun e => hn0 (qL_zero MU (by decide) (by rw [gs_ends hM]; exact decide_eq_true e))
        have hh' : hld u v L A B (J ||| sp_shl 1 (nI i)) G = 2 := by
          unfold hld at hh ⊢
          rw [if_neg hnj]
          by_cases e1 : la u v (bL J L) A = la u v (bL J L) B
          · rw [if_pos e1] at hh; cases hh
          · rw [if_neg e1] at hh; exact hh
        obtain ⟨k, k1, k2⟩ := mlk_ex hM (J ||| sp_shl 1 (nI i)) G
        have hJi := hset J i iL hJ
        have hex : ∃ y, y < 14 ∧ wnW u v L A B (J ||| sp_shl 1 (nI i)) G 1 y = true := by
          have hk0 : k ≠ 0 := fun e => hn0 (by rw [← e]; exact k2)
          by_cases e : k = 2
          · obtain ⟨y, y1, y2⟩ := hld_open hL hJi hh'
            exact ⟨y, by omega, wnW_t.mpr (((wn_all hM k2 (by decide : 1 < 2) y2).2 e).mpr rfl)⟩
          · have e : k = 1 := by omega
            rw [e] at k2
            obtain ⟨y, y1, y2, y3⟩ := qL_f MU (by decide) k2
            have yL := opn_lt (by omega : L < 31) y2
            exact ⟨y, by omega, wnW_t.mpr ⟨y2, by rw [if_neg (by decide)]; exact (mlk_cut hM yL).mpr y3⟩⟩
        obtain ⟨j, j1, j2, j3⟩ := fb_ct_kth (k := 0) (n := 14) (fb_ct_pos.mpr hex)
        obtain ⟨p1, p2⟩ := wnW_t.mp j2
        rw [if_neg (by decide)] at p2
        have jL := opn_lt (by omega : L < 31) p1
        have hcc : qc (bt (opn L (J ||| sp_shl 1 (nI i)) (G ||| sp_shl 1 (nI j)))) + 2 = c := by
          have e1 := (ct_join hL p1).2
          have e2 := (ct_join hL hio).1
          omega
        obtain ⟨g, w, b1, b2, b3, b4⟩ := ih (c - 2) (by omega) (J ||| sp_shl 1 (nI i)) (G ||| sp_shl 1 (nI j)) hJi (hset G j jL hG) (by omega) p2
        exact ⟨(j, g, w), fun _ => ⟨hh', j1, j2, j3, b1, b2, by omega, (by show qc (bt (opn L (J ||| sp_shl 1 (nI i)) (G ||| sp_shl 1 (nI j)))) = c - 2; omega), b3, b4⟩⟩
    obtain ⟨F, hF⟩ := Classical.axiomOfChoice each
    obtain ⟨gI, hgI⟩ : ∃ gI : Nat → Nat, gI = fun i => (F i).2.1 := ⟨_, rfl⟩
    obtain ⟨wI, hwI⟩ : ∃ wI : Nat → Nat, wI = fun i => (F i).2.2 := ⟨_, rfl⟩
    have hsum : ∀ h : Nat → Nat, smO O h 14 = smO O h L := fun h => by
      have := smO_gap (h := h) hOL (14 - L)
      rwa [show L + (14 - L) = 14 by omega] at this
    have hc2 : 2 ≤ c := by
      obtain ⟨i, i1, i2⟩ := hld_open hL hJ hh
      exact (hF i (by rw [hO]; exact i2)).2.2.2.2.2.2.1
    have hMV : MC N xA L J G (smO O gI 14) (smO O wI 14) := by
      intro d xD xE xF xG xJ G0 W0 hd g48 g49
      obtain ⟨d', rfl⟩ : ∃ d', d = d' + 1 := ⟨d - 1, by omega⟩
      unfold f_X12_verifiesCut
      obtain ⟨xD1, g1⟩ := mhas_ok hM h20 J G xD
      simp only [g1, Option.bind_some]
      rw [if_pos hh, mopen_ok hM, Option.bind_some, ← hO]
      have loop : ∀ n i xD xE xF xG xJ, L - i < n → i ≤ L → gi xJ 48 = nI (G0 + smO O gI i) → gi xJ 49 = nI (W0 + smO O wI i) → ∃ xD' xE' xF' xG' xJ', f_X12_verifiesCut_53 N (f_X12_verifiesCut N xA d') xA n J G O (nI i) xD xE xF xG xJ = some (xD', xE', xF', xG', xJ') ∧ gi xJ' 48 = nI (G0 + smO O gI 14) ∧ gi xJ' 49 = nI (W0 + smO O wI 14) := by
        intro n
        induction n with
        | zero => intro i xD xE xF xG xJ hn; omega
        | succ n ihn =>
          intro i xD xE xF xG xJ hn hi g48 g49
          unfold f_X12_verifiesCut_53
          rw [h4]
          by_cases hcL : L ≤ i
          · rw [if_pos ((nle (by omega) (by omega)).mpr hcL)]
            have : i = L := by omega
            subst this
            exact ⟨_, _, _, _, _, rfl, by rw [hsum]; exact g48, by rw [hsum]; exact g49⟩
          · rw [if_neg (fun h => hcL ((nle (by omega) (by omega)).mp h))]
            have sg : smO O gI (i + 1) = smO O gI i + (if bt O i = true then gI i else 0) := rfl
            have sw' : smO O wI (i + 1) = smO O wI i + (if bt O i = true then wI i else 0) := rfl
            cases hb : bt O i
            · unfold f_X12_verifiesCut_129
              rw [if_pos ((shr_ok O (by omega : i < 32)).2.mpr hb), show nI i + 1 = nI (i + 1) from nadd i 1]
              rw [hb] at sg sw'
              exact ihn (i + 1) xD xE xF xG xJ (by omega) (by omega) (by rw [sg]; simpa using g48) (by rw [sw']; simpa using g49)
            · have n1 : ¬ (sp_shr O (nI i)) &&& 1 = 0 := fun h => by rw [(shr_ok _ (by omega)).2, hb] at h; cases h
              rw [if_neg n1]
              rw [hb] at sg sw'
              simp only [↓reduceIte] at sg sw'
              obtain ⟨z1, z2, z3, z4, z5, z6, z7, z8, z9, z10⟩ := hF i hb
              obtain ⟨xD1, q1⟩ := mhas_ok hM h20 (J ||| sp_shl 1 (nI i)) G xD
              obtain ⟨r, xD2, xE2, xF2, xG2, q2, q3⟩ := cutBy_ok (by omega : 300 ≤ N) hM hL (J ||| sp_shl 1 (nI i)) G xD1 xE xF xG
              have hr : r = nI (F i).1 := by
                rcases q3 with ⟨y, y1, y2, y3, y4⟩ | ⟨y1, -⟩
                · rw [y4, fb_ct_kth_one y2 z3 (by rw [y3, z4])]
                · have := fb_ct_zero.mp (by omega : fb_ct (wnW u v L A B (J ||| sp_shl 1 (nI i)) G 1) 14 = 0) _ z2
                  rw [z3] at this; cases this
              simp only [q1, q2, Option.bind_some]
              rw [if_pos z1, hr]
              unfold f_X12_verifiesCut_105 f_X12_verifiesCut_126
              rw [if_neg (nI_ne_neg (by omega)).1]
              obtain ⟨xD3, xE3, xF3, xG3, xJ3, m1, m2, m3⟩ := z9 d' xD2 xE2 xF2 xG2 xJ (G0 + smO O gI i) (W0 + smO O wI i) (by omega) g48 g49
              simp only [m1, Option.bind_some]
              unfold f_X12_verifiesCut_129
              rw [show nI i + 1 = nI (i + 1) from nadd i 1]
              refine ihn (i + 1) xD3 xE3 xF3 xG3 xJ3 (by omega) (by omega) ?_ ?_
              · rw [m2, sg, hgI, Nat.add_assoc]
              · rw [m3, sw', hwI, Nat.add_assoc]
      exact loop N 0 xD1 xE xF xG xJ (by omega) (by omega) g48 g49
    refine ⟨smO O gI 14, smO O wI 14, ?_, smO_le (fun i hi => ?_) 14, hMV, fun d dep uF uM hd hdep hFF hm => ?_⟩
    · have h9 := smO_bd (O := O) (h := gI) (X := bnd (c - 2)) (fun i hi => by rw [hgI]; exact (hF i hi).2.2.2.2.1) 14
      have h10 : fb_ct (bt O) 14 = c := by rw [ct14 (fun z hz => by have := hOL z hz; omega), hO]; exact hc
      rw [h10] at h9
      obtain ⟨c', rfl⟩ : ∃ c', c = c' + 2 := ⟨c - 2, by omega⟩
      exact h9
    · rw [hgI, hwI]; exact (hF i hi).2.2.2.2.2.1
    · obtain ⟨d', rfl⟩ : ∃ d', d = d' + 1 := ⟨d - 1, by omega⟩
      unfold f_X1_joinFirst
      simp only [holder_ok hN h20, Option.bind_some]
      rw [if_pos hh, if_pos (show nI dep ≤ 14 from (nle (b := 14) (by omega) (by omega)).mpr (by omega))]
      obtain ⟨r, r1, r2⟩ := valueOf_ok (by omega : 300 ≤ N) hm hJ14 hG14
      rw [r1, Option.bind_some]
      by_cases hr : r = -1
      · rw [if_pos hr, copen_ok hN, Option.bind_some, ← hO]
        have loop : ∀ n i uF uM, 14 - i < n → i ≤ 14 → (∃ u' v', fNet uF u' v') → mOK (VC N xA L) uM → ∃ uF' uM', f_X1_joinFirst_74 N (f_X1_joinFirst N uN d') uN n J G (nI dep) O (nI (65536 * smO O gI i + smO O wI i)) (nI i) uF uM = some (nI (65536 * smO O gI 14 + smO O wI 14), uF', uM') ∧ (∃ u' v', fNet uF' u' v') ∧ mOK (VC N xA L) uM' := by
          intro n
          induction n with
          | zero => intro i uF uM hn; omega
          | succ n ihn =>
            intro i uF uM hn hi hFF hm
            unfold f_X1_joinFirst_74
            by_cases hci : 14 ≤ i
            · rw [if_pos (show (14 : Int32) ≤ nI i from (nle (a := 14) (by omega) (by omega)).mpr hci)]
              have : i = 14 := by omega
              subst this
              obtain ⟨uM', k1, k2⟩ := keep_ok (by omega : 300 ≤ N) hm hJ14 hG14 (x := nI (65536 * smO O gI 14 + smO O wI 14)) ⟨_, _, hMV, rfl⟩
              simp only [k1, Option.bind_some]
              exact ⟨_, _, rfl, hFF, k2⟩
            · rw [if_neg (show ¬ (14 : Int32) ≤ nI i from fun h => hci ((nle (a := 14) (by omega) (by omega)).mp h)), has_ok _ (by omega), Option.bind_some]
              have sg : smO O gI (i + 1) = smO O gI i + (if bt O i = true then gI i else 0) := rfl
              have sw' : smO O wI (i + 1) = smO O wI i + (if bt O i = true then wI i else 0) := rfl
              cases hb : bt O i
              · rw [if_neg (by decide)]
                unfold f_X1_joinFirst_170
                rw [show nI i + 1 = nI (i + 1) from nadd i 1]
                rw [hb] at sg sw'
                simp only [Bool.false_eq_true, ↓reduceIte, Nat.add_zero] at sg sw'
                rw [← sg, ← sw']
                exact ihn (i + 1) uF uM (by omega) (by omega) hFF hm
              · rw [if_pos rfl]
                rw [hb] at sg sw'
                simp only [↓reduceIte] at sg sw'
                obtain ⟨z1, z2, z3, z4, z5, z6, z7, z8, z9, z10⟩ := hF i hb
                obtain ⟨p, p1, p2⟩ := placesBy_ok hN h20 (J ||| sp_shl 1 (nI i))
                have hnm : ¬ la u v (bL (J ||| sp_shl 1 (nI i)) L) A = la u v (bL (J ||| sp_shl 1 (nI i)) L) B := fun e => by
                  rw [hld_0.mpr e] at z1; cases z1
                simp only [p1, meet_ok hN p2 (la_lt8 _ _ _), Option.bind_some]
                rw [if_neg (fun h => hnm (of_decide_eq_true h))]
                obtain ⟨rr, uF1, w1, w2, w3⟩ := winFrom_ok h20 hN hM hFF (J ||| sp_shl 1 (nI i)) G (p := 0) (who := 1) (by omega) (by omega)
                have w1 : f_X3_winningFrom N uN 0 1 (J ||| sp_shl 1 (nI i)) G uF = some (rr, uF1) := w1
                have hrr : rr = nI (F i).1 := by
                  rcases w2 with ⟨y, y1, y2, y3, y4⟩ | ⟨y1, -⟩
                  · have y3 : fb_ct (wnW u v L A B (J ||| sp_shl 1 (nI i)) G 1) y = 0 := y3
                    rw [y4, fb_ct_kth_one y2 z3 (by rw [y3, z4])]
                  · have y1 : fb_ct (wnW u v L A B (J ||| sp_shl 1 (nI i)) G 1) 14 = 0 := y1
                    have := fb_ct_zero.mp y1 _ z2
                    rw [z3] at this; cases this
                simp only [w1, Option.bind_some]
                rw [hrr]
                unfold f_X1_joinFirst_135 f_X1_joinFirst_152 f_X1_joinFirst_170
                rw [if_pos (fa_of_nlt (nI_ne_neg (by omega)).2.2), show nI i + 1 = nI (i + 1) from nadd i 1, show nI dep + 1 = nI (dep + 1) from nadd dep 1]
                obtain ⟨uF3, uM3, m1, m2, m3⟩ := z10 d' (dep + 1) uF1 uM (by omega) (by omega) w3 hm
                simp only [m1, Option.bind_some]
                rw [pk_two]
                have e1 : smO O gI i + (F i).2.1 = smO O gI (i + 1) := by rw [sg, hgI]
                have e2 : smO O wI i + (F i).2.2 = smO O wI (i + 1) := by rw [sw', hwI]
                rw [e1, e2]
                exact ihn (i + 1) uF3 uM3 (by omega) (by omega) m2 m3
        exact loop N 0 uF uM (by omega) (by omega) hFF hm
      · rw [if_neg hr]
        rcases r2 with r2 | ⟨g', w', r3, r4⟩
        · exact absurd r2 hr
        · rw [r4, MC_one r3 hMV]
          exact ⟨_, _, rfl, hFF, hm⟩
  · refine ⟨1, if hld u v L A B J G = 1 then 1 else 0, bnd_pos c, by split <;> omega, ?_, fun d dep uF uM hd hdep hFF hm => ?_⟩
    · intro d xD xE xF xG xJ G0 W0 hd g48 g49
      obtain ⟨d', rfl⟩ : ∃ d', d = d' + 1 := ⟨d - 1, by omega⟩
      unfold f_X12_verifiesCut
      obtain ⟨xD1, g1⟩ := mhas_ok hM h20 J G xD
      simp only [g1, Option.bind_some]
      rw [if_neg hh]
      unfold f_X12_verifiesCut_37
      have q49 : gi (si xJ 48 (gi xJ 48 + 1)) 49 = nI W0 := g49
      have q48 : gi xJ 48 + 1 = nI (G0 + 1) := by rw [g48]; exact nadd G0 1
      rw [q49]
      by_cases h0 : hld u v L A B J G = 1
      · rw [if_pos h0, if_pos h0]
        refine ⟨_, _, _, _, _, rfl, ?_, ?_⟩
        · show gi xJ 48 + 1 = _
          exact q48
        · show nI W0 + 1 = _
          exact nadd W0 1
      · rw [if_neg h0, if_neg h0]
        refine ⟨_, _, _, _, _, rfl, ?_, ?_⟩
        · show gi xJ 48 + 1 = _
          exact q48
        · show nI W0 + 0 = _
          exact nadd W0 0
    · obtain ⟨d', rfl⟩ : ∃ d', d = d' + 1 := ⟨d - 1, by omega⟩
      unfold f_X1_joinFirst f_X1_joinFirst_23
      simp only [holder_ok hN h20, Option.bind_some]
      rw [if_neg hh]
      by_cases h0 : hld u v L A B J G = 1
      · rw [if_pos h0, if_pos h0]; exact ⟨_, _, rfl, hFF, hm⟩
      · rw [if_neg h0, if_neg h0]; exact ⟨_, _, rfl, hFF, hm⟩
end
theorem lo_verifiedForCut {N : Nat} {LK : sLK} (hf : 200000 ≤ N) : LO_verifiedForCut N (sI LK) := by
  rintro uG uN uD uR uF uP uL uTT uA uM uH xA xB xC xD xE xF xG xH xI xJ xK xL x ⟨K, L, A, B, u, v, hC, hR⟩
  have hI : ∀ uF' uP' uM' xB' xD' xE' xF' xG' xJ', (∃ u' v', fNet uF' u' v') → sI LK uG uN uD uR uF' uP' uL uTT uA uM' uH xA xB' xC xD' xE' xF' xG' xH xI xJ' xK xL := fun _ _ _ _ _ _ _ _ _ h => ⟨K, L, A, B, u, v, sCore_F hC h, hR⟩
  obtain ⟨hN, hM, hF, ⟨e7, e8, e11⟩, -, hJ, hG, -⟩ := id hC
  have hL : L ≤ 14 := (cN_8 hN).2.2.2
  have hq := qc_opn14 hL (gi uG 12) (gi uG 13)
  unfold f_X11_verifiedForCut f_X12_verifiedForCut
  rcases int_01 x with h | ⟨h, h2, -⟩ | ⟨m, m1, rfl, h, h2, -⟩
  · rw [if_pos h, if_pos h]; exact ⟨_, rfl, _, rfl, rfl, hI _ _ _ _ _ _ _ _ _ hF⟩
  · rw [if_neg h, if_neg h, if_neg h2, if_neg h2]; exact ⟨_, rfl, _, rfl, rfl, hI _ _ _ _ _ _ _ _ _ hF⟩
  · rw [if_neg h, if_neg h, if_pos h2, if_pos h2]
    simp only [small_ok hN, mOpenNow_ok hM, bits_ok, Option.bind_some]
    rw [e7, e8]
    by_cases h10 : qc (bt (opn L (gi uG 12) (gi uG 13))) ≤ 10
    · rw [if_pos (decide_eq_true h10), if_neg (show ¬ (10 : Int32) < nI (qc (bt (opn L (gi uG 12) (gi uG 13)))) from fun h3 => by have := (nlt (a := 10) (by omega) (by omega)).mp h3; omega)]
      obtain ⟨k, uF1, a1, a2, a3, a4⟩ := lacking_ok (by omega : 20 ≤ N) hN hF (gi uG 12) (gi uG 13)
      obtain ⟨b, xD1, xE1, xF1, xG1, t1, t2⟩ := isKeen_ok (by omega : 300 ≤ N) hM (gi uG 12) (gi uG 13) xD xE xF xG
      simp only [a2, t1, Option.bind_some]
      by_cases hk2 : k = 2
      · have hb : ¬ b = true := fun h9 => t2.mp h9 (by rw [← hk2]; exact a3)
        rw [if_pos (show (2 : Int32) ≤ nI k from (nle (a := 2) (by omega) (by omega)).mpr (by omega)), if_neg hb]
        rw [hk2] at a3
        obtain ⟨g, w, b1, b2, b3, b4⟩ := vc_sim hf hN hM _ (gi uG 12) (gi uG 13) hJ hG rfl a3
        obtain ⟨uM1, c1, c2⟩ := clear_ok (VC N xA L) uM
        obtain ⟨uF2, uM2, d1, d2, d3⟩ := b4 40 0 uF1 uM1 (by omega) (by omega) a4 c2
        have d1 : f_X1_joinFirst N uN 40 (gi uG 12) (gi uG 13) 0 uF1 uM1 = some (nI (65536 * g + w), uF2, uM2) := d1
        obtain ⟨xD2, xE2, xF2, xG2, xJ2, f1, f2, f3⟩ := b3 40 xD1 xE1 xF1 xG1 (si (si xJ 48 0) 49 0) 0 0 (by omega) rfl rfl
        rw [Nat.zero_add] at f2 f3
        unfold f_X1_goThrough f_X1_goThrough_29
        have e01 : ¬ (0 : Int32) = 1 := by decide
        simp only [c1, d1, f1, Option.bind_some, e01, ↓reduceIte]
        have hg : g ≤ 3840 := Nat.le_trans b1 (bnd_10 _ (by omega))
        obtain ⟨p1, p2⟩ := pk_split hg b2
        by_cases hm0 : nI m = 0
        · rw [if_pos hm0, if_pos hm0]
          refine ⟨_, rfl, _, rfl, ?_, hI _ _ _ _ _ _ _ _ _ d2⟩
          show nI (65536 * g + w) / 65536 = gi xJ2 48
          rw [p1, f2]
        · rw [if_neg hm0, if_neg hm0]
          refine ⟨_, rfl, _, rfl, ?_, hI _ _ _ _ _ _ _ _ _ d2⟩
          show nI (65536 * g + w) &&& 65535 = gi xJ2 49
          rw [p2, f3]
      · have hb : b = true := t2.mpr (fun h9 => hk2 (mlk_one a3 h9))
        rw [if_neg (show ¬ (2 : Int32) ≤ nI k from fun h9 => by have := (nle (a := 2) (by omega) (by omega)).mp h9; omega), if_pos hb]
        exact ⟨_, rfl, _, rfl, rfl, hI _ _ _ _ _ _ _ _ _ a4⟩
    · rw [if_neg (fun h3 => h10 (of_decide_eq_true h3)), if_pos (show (10 : Int32) < nI (qc (bt (opn L (gi uG 12) (gi uG 13)))) from (nlt (a := 10) (by omega) (by omega)).mpr (by omega))]
      exact ⟨_, rfl, _, rfl, rfl, hI _ _ _ _ _ _ _ _ _ hF⟩
