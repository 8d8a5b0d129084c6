/-! ===== trees, treesWith ===== -/
section
variable {N : Nat} {uG uN xA : sx_C} {K L A B : Nat} {u v : Nat → Nat}
theorem treeTally_ok (hf : 2000 ≤ N) (hN : cNet uN K L A B u v) (J G : Int32) (w : sx_C) {m : Nat} (hm : ∀ z, m.testBit z = bt (opn L J G) z) {mP : Int32} (hmP : ∀ z, bt mP z = true ↔ ∃ k, k < K ∧ la u v (bL J L) k = z) : ∃ w', f_X10_tally N uN J G w = some (nI (cS m (trS (fun i => la u v (bL J L) (u i)) (fun i => la u v (bL J L) (v i)) (qc (bt mP)))), w') := by
  obtain ⟨h1, h2, h3, h4, h5, ⟨h6, h7, h8⟩, h9, h10⟩ := id hN
  obtain ⟨p, p1, p2⟩ := placesBy_ok hN (by omega : 20 ≤ N) J
  have hl8 : ∀ k, k < 8 → la u v (bL J L) k < 8 := fun k hk => la_lt8 u v _ k hk
  obtain ⟨mH, q1, q2⟩ := heads_ok (by omega : 20 ≤ N) p2 hl8 h7
  have e : mH = mP := qc_iff q2 hmP
  subst e
  obtain ⟨w0, c1, c2, c3, c4⟩ := tclear_ok (by omega : 20 ≤ N) mH w
  obtain ⟨n, hn⟩ : ∃ n, n = fb_ct (hdP mH) 8 := ⟨_, rfl⟩
  have hn7 : n ≤ 7 := by rw [hn]; exact (rho_le mH (l := 0) (by omega)).2
  have hu8 : ∀ i, u i < 8 ∧ v i < 8 := (cN_8 hN).1
  have hlu : ∀ i, la u v (bL J L) (u i) < 8 ∧ la u v (bL J L) (v i) < 8 := fun i => ⟨hl8 _ (hu8 i).1, hl8 _ (hu8 i).2⟩
  obtain ⟨u', hu'⟩ : ∃ u' : Nat → Nat, ∀ i, u' i = rho mH (la u v (bL J L) (u i)) := ⟨_, fun _ => rfl⟩
  obtain ⟨v', hv'⟩ : ∃ v' : Nat → Nat, ∀ i, v' i = rho mH (la u v (bL J L) (v i)) := ⟨_, fun _ => rfl⟩
  have hun : ∀ i, u' i ≤ n ∧ v' i ≤ n := fun i => by
    rw [hu', hv', hn]
    exact ⟨(rho_le mH (hlu i).1).1, (rho_le mH (hlu i).2).1⟩
  obtain ⟨E, hE⟩ : ∃ E : BS, E = bt (opn L J G) := ⟨_, rfl⟩
  have loop : ∀ fu i w, 14 - i < fu → i ≤ 14 → gi w 3 = nI n → (∀ l, l < 8 → ga w 2 l = rwv (rho mH l)) → (∀ r s, r < 7 → s < 7 → gm w r s = zL (lpM u' v' E q0 i r s)) → ∃ w', f_X10_tally_38 N uN fu p (opn L J G) (nI i) w = some ((zL (dt n (lpM u' v' E q0 14))).toInt32, w') := by
    intro fu
    induction fu with
    | zero => intro i w h; omega
    | succ fu ih =>
      intro i w hfu hi g3 g2 gt
      unfold f_X10_tally_38 f_X10_tally_99
      by_cases hc : 14 ≤ i
      · rw [if_pos (show (14 : Int32) ≤ nI i from (nle (a := 14) (by omega) (by omega)).mpr hc)]
        have : i = 14 := by omega
        subst this
        obtain ⟨w', e⟩ := det_ok (by omega : 20 ≤ N) (Nat.le_refl 14) hn7 g3 gt
        refine ⟨w', ?_⟩
        rw [e, Option.bind_some]
      · rw [if_neg (show ¬ (14 : Int32) ≤ nI i from fun h => hc ((nle (a := 14) (by omega) (by omega)).mp h)), has_ok _ (by omega), Option.bind_some, show nI i + 1 = nI (i + 1) from nadd i 1]
        cases hb : bt (opn L J G) i
        · rw [if_neg (by decide)]
          refine ih (i + 1) w (by omega) (by omega) g3 g2 (fun r s hr hs => ?_)
          rw [gt r s hr hs]
          congr 1
          show _ = lpM u' v' E q0 i r s + (if E i = true then xv u' v' i r * xv u' v' i s else 0)
          rw [hE, hb, if_neg (by decide), Int.add_zero]
        · have hiL : i < L := opn_lt (by omega : L < 31) hb
          rw [if_pos rfl]
          rcases cline_ok hN (nI i) with ⟨-, hno⟩ | ⟨i2, -, -, ht⟩
          · exact absurd rfl (hno i hiL)
          · have r0 : sp_rd (ga uN 0) 14 (nI i) = some (nI (u i)) := by rw [rd_ok (by omega) (by decide), (h5 i hiL).1]
            have r1 : sp_rd (ga uN 1) 14 (nI i) = some (nI (v i)) := by rw [rd_ok (by omega) (by decide), (h5 i hiL).2]
            have n0 : f_X8_numberOf p (nI (u i)) = some (nI (la u v (bL J L) (u i))) := num_ok p2 (hu8 i).1 (hlu i).1
            have n1 : f_X8_numberOf p (nI (v i)) = some (nI (la u v (bL J L) (v i))) := num_ok p2 (hu8 i).2 (hlu i).2
            obtain ⟨w1, a1, a2, a3, a4⟩ := enter_ok (ρ := rho mH) (fun l hl => by have := rho_le mH hl; omega) g2 (hlu i).1 (hlu i).2 gt
            rw [ht, Option.bind_some, if_pos rfl, r0, Option.bind_some, n0, Option.bind_some, r1, Option.bind_some, n1, Option.bind_some, a1, Option.bind_some]
            refine ih (i + 1) w1 (by omega) (by omega) (by rw [a2]; exact g3) a3 (fun r s hr hs => ?_)
            rw [a4 r s hr hs]
            congr 1
            show _ = lpM u' v' E q0 i r s + (if E i = true then xv u' v' i r * xv u' v' i s else 0)
            rw [if_pos (show E i = true by rw [hE]; exact hb)]
            unfold xv
            rw [hu', hv']
  obtain ⟨w', e⟩ := loop N 0 w0 (by omega) (by omega) (by rw [c2, hn]) c3 (fun r s hr hs => by
    rw [c4 r s hr hs]
    have : lpM u' v' E q0 0 r s = 0 := by
      unfold lpM q0
      split <;> rfl
    rw [this]
    rfl)
  have hdt := mt_ok (E := E) hn7 14 u' v' q0 (by omega) hun (fun i _ _ r hr => (by cases hr))
  have hP : ∀ i, bt mH (la u v (bL J L) (u i)) = true ∧ bt mH (la u v (bL J L) (v i)) = true := fun i => ⟨(hmP _).mpr ⟨u i, (h10 i).1, rfl⟩, (hmP _).mpr ⟨v i, (h10 i).2, rfl⟩⟩
  obtain ⟨σ, hσ⟩ : ∃ σ : Nat → Nat, ∀ a, bt mH a = true → σ (rho mH a) = a := by
    have hch : ∀ y : Nat, ∃ a : Nat, ∀ b, bt mH b = true → rho mH b = y → a = b := fun y => by
      by_cases hex : ∃ b, bt mH b = true ∧ rho mH b = y
      · obtain ⟨b, b1, b2⟩ := hex
        exact ⟨b, fun b' h1 h2 => rho_inj b1 h1 (b2.trans h2.symm)⟩
      · exact ⟨0, fun b h1 h2 => absurd ⟨b, h1, h2⟩ hex⟩
    obtain ⟨σ, h⟩ := Classical.axiomOfChoice hch
    exact ⟨σ, fun a ha => h (rho mH a) a ha rfl⟩
  have hrk : ∀ S, rk u' v' S = rk (fun i => la u v (bL J L) (u i)) (fun i => la u v (bL J L) (v i)) S := fun S => rk_inj (ρ := rho mH) (σ := σ) hlu (fun i => ⟨by have := (hun i).1; omega, by have := (hun i).2; omega⟩) (fun i => ⟨hu' i, hv' i⟩) (fun i => by
    rw [hu', hv']
    exact ⟨hσ _ (hP i).1, hσ _ (hP i).2⟩) S
  have hcard : qc (bt mH) = n + 1 := by
    have b0 : bt mH 0 = true := (hmP 0).mpr ⟨0, by omega, by
      have : la u v (bL J L) 0 ≤ 0 := (lb_ok u v (bL J L) 32).1 0
      show la u v (bL J L) 0 = 0
      omega⟩
    have g : fb_ct (bt mH) 32 = fb_ct (bt mH) 8 := ct_gap (by omega) (fun t t1 t2 => by
      cases hb : bt mH t
      · rfl
      · obtain ⟨k, k1, k2⟩ := (hmP t).mp hb
        have := hl8 k (by omega)
        omega)
    have g2 := fb_ct_upd (bt mH) false (i := 0) (n := 8) (by omega)
    rw [b0] at g2
    have g3 : fb_ct (fun k => if k = 0 then false else bt mH k) 8 = fb_ct (hdP mH) 8 := fb_ct_cong (fun k _ => by
      unfold hdP
      by_cases e : k = 0
      · rw [if_pos e, e]; rfl
      · rw [if_neg e, decide_eq_true (by omega), Bool.true_and])
    rw [g3, ← hn] at g2
    simp at g2
    show fb_ct (bt mH) 32 = n + 1
    omega
  have hcnt : cS m (trS (fun i => la u v (bL J L) (u i)) (fun i => la u v (bL J L) (v i)) (qc (bt mH))) = nt E 14 (fun S => (qc S + fb_ct q0 n == n) && decide (rk u' v' S = qc S)) := by
    have e1 := cS_nt m 14 (trS (fun i => la u v (bL J L) (u i)) (fun i => la u v (bL J L) (v i)) (qc (bt mH)))
    have e2 : tB m = E := by
      rw [hE]
      exact funext hm
    have e0 : (2 : Nat) ^ 14 = 16384 := by decide
    rw [e2, e0] at e1
    unfold cS
    refine Eq.trans e1 (nt_cong (fun S _ => ?_))
    have z0 : fb_ct q0 n = 0 := fb_ct_zero.mpr (fun _ _ => rfl)
    unfold trS
    rw [hrk, hcard, z0, Nat.add_zero]
    congr 1
    refine sB_eq ?_
    rw [beq_iff_eq, beq_iff_eq]
    omega
  refine ⟨w', ?_⟩
  unfold f_X10_tally
  rw [p1, h1]
  simp only [Option.bind_some, q1, c1, copen_ok hN]
  have e : f_X10_tally_38 N uN N p (opn L J G) 0 w0 = some ((zL (dt n (lpM u' v' E q0 14))).toInt32, w') := e
  rw [e, hdt, hcnt]
  congr 2
  show (Int64.ofInt _).toInt32 = _
  rw [Int64.toInt32_ofInt]
  exact Int32.ofInt_eq_ofNat
end
theorem lo_trees {N : Nat} (hf : 200000 ≤ N) : LO_trees N (sI LKd) := by
  rintro uG uN uD uR uF uP uL uTT uA uM uH xA xB xC xD xE xF xG xH xI xJ xK xL ⟨K, L, A, B, u, v, hC, hR⟩
  have hI : ∀ uT' xB' xD' xE' xF', sI LKd uG uN uD uR uF uP uL uT' uA uM uH xA xB' xC xD' xE' xF' xG xH xI xJ xK xL := fun _ _ _ _ _ => ⟨K, L, A, B, u, v, hC, hR⟩
  obtain ⟨hN, hM, hF, ⟨e7, e8, e11⟩, -, hJ, hG, hdis⟩ := id hC
  have hL : L ≤ 14 := (cN_8 hN).2.2.2
  obtain ⟨m, hm14, hO, hm, h14⟩ := opn_num hL (gi uG 12) (gi uG 13)
  obtain ⟨mP, hP, hmany⟩ := mtrees_ok (xA := xA) hf hM hL hm14 (by rw [e7, e8]; exact hO) (by rw [e7, e8]; exact hm) xD xE xF
  obtain ⟨xD', xE', xF', e⟩ := hmany (li := -1) (q := fun _ => true) (fun t _ => by simp)
  rw [e7] at hP e
  obtain ⟨w', ew⟩ := treeTally_ok (by omega : 2000 ≤ N) hN (gi uG 12) (gi uG 13) uTT hm hP
  unfold f_X11_trees f_X12_trees
  rw [ew, e]
  simp only [Option.bind_some]
  refine ⟨_, rfl, _, rfl, ?_, hI _ _ _ _ _⟩
  simp only [Bool.true_and]
theorem lo_treesWith {N : Nat} (hf : 200000 ≤ N) : LO_treesWith N (sI LKd) := by
  rintro uG uN uD uR uF uP uL uTT uA uM uH xA xB xC xD xE xF xG xH xI xJ xK xL x ⟨K, L, A, B, u, v, hC, hR⟩
  have hI : ∀ uT' xB' xD' xE' xF', sI LKd uG uN uD uR uF uP uL uT' uA uM uH xA xB' xC xD' xE' xF' xG xH xI xJ xK xL := fun _ _ _ _ _ => ⟨K, L, A, B, u, v, hC, hR⟩
  obtain ⟨hN, hM, hF, ⟨e7, e8, e11⟩, -, hJ, hG, hdis⟩ := id hC
  have hL : L ≤ 14 := (cN_8 hN).2.2.2
  unfold f_X11_treesWith f_X12_treesWith
  rcases line_cases hN hM x with ⟨h1, h2⟩ | ⟨i, hi, rfl, h1, h2⟩
  · simp only [h1, wrong_no h2, Option.bind_some]
    rw [if_neg (by decide), if_neg (by decide)]
    exact ⟨_, rfl, _, rfl, rfl, hI _ _ _ _ _⟩
  · simp only [h1, wrong_ok hM hi, cisOpen_ok hN (by omega : i < 32), Option.bind_some]
    rw [e7, e8, if_pos trivial]
    cases ho : bt (opn L (gi uG 12) (gi uG 13)) i
    · rw [if_neg (by decide), if_neg (by decide), if_neg (by decide)]
      exact ⟨_, rfl, _, rfl, rfl, hI _ _ _ _ _⟩
    · obtain ⟨m, hm14, hO, hm, h14⟩ := opn_num hL (gi uG 12) (gi uG 13)
      have hi32 : i < 32 := by omega
      obtain ⟨mP, hP, hmany⟩ := mtrees_ok (xA := xA) hf hM hL hm14 (by rw [e7, e8]; exact hO) (by rw [e7, e8]; exact hm) xD xE xF
      obtain ⟨xD', xE', xF', e⟩ := hmany (li := nI i) (q := fun S => S i) (fun t ht => by
        have := sbs_le ht
        have h9 := (shr_ok (nI t) hi32).1
        rw [bt_nI (by omega)] at h9
        rw [decide_eq_false (nI_ne_neg (i := i) (by omega)).1]
        cases hb : tB t i
        · have hh : ¬ sp_shr (nI t) (nI i) &&& 1 = 1 := fun h => by
            have := h9.mp h
            rw [hb] at this; cases this
          rw [decide_eq_false hh]; simp
        · rw [decide_eq_true (h9.mpr hb)]; simp)
      rw [e7] at hP e
      obtain ⟨w1, ew1⟩ := treeTally_ok (by omega : 2000 ≤ N) hN (gi uG 12) (gi uG 13) uTT hm hP
      obtain ⟨m', hm'14, hO', hm', h14'⟩ := opn_num hL (gi uG 12) (gi uG 13 ||| sp_shl 1 (nI i))
      obtain ⟨w2, ew2⟩ := treeTally_ok (by omega : 2000 ≤ N) hN (gi uG 12) (gi uG 13 ||| sp_shl 1 (nI i)) w1 hm' hP
      have hmm : ∀ z, m'.testBit z = (m.testBit z && !decide (z = i)) := fun z => by
        rw [hm', opn_cut (by omega) _ _ hi, hm]
        rfl
      have hsub : ∀ t, (t &&& m' == t) = ((t &&& m == t) && !t.testBit i) := fun t => sB_eq (by
        rw [sB_t, sbs_iff]
        constructor
        · intro h
          have h1 : sbs t m := sbs_iff.mpr (fun z hz => by
            have := h z hz
            rw [hmm] at this
            simp at this
            exact this.1)
          rw [sB_t.mpr h1, Bool.true_and]
          cases hb : t.testBit i
          · rfl
          · have := h i hb
            rw [hmm] at this
            simp at this
        · intro h z hz
          simp only [Bool.and_eq_true, Bool.not_eq_true'] at h
          have h1 := sbs_iff.mp (sB_t.mp h.1) z hz
          rw [hmm, h1, Bool.true_and]
          by_cases hzi : z = i
          · rw [hzi] at hz; rw [h.2] at hz; cases hz
          · simp [hzi])
      have hsum : cS m (trS (fun i => la u v (bL (gi uG 12) L) (u i)) (fun i => la u v (bL (gi uG 12) L) (v i)) (qc (bt mP))) = cS m (fun S => S i && trS (fun i => la u v (bL (gi uG 12) L) (u i)) (fun i => la u v (bL (gi uG 12) L) (v i)) (qc (bt mP)) S) + cS m (fun S => !S i && trS (fun i => la u v (bL (gi uG 12) L) (u i)) (fun i => la u v (bL (gi uG 12) L) (v i)) (qc (bt mP)) S) := cS_add (fun S => by
        cases S i <;> cases trS (fun i => la u v (bL (gi uG 12) L) (u i)) (fun i => la u v (bL (gi uG 12) L) (v i)) (qc (bt mP)) S <;> simp)
      have hcut : cS m' (trS (fun i => la u v (bL (gi uG 12) L) (u i)) (fun i => la u v (bL (gi uG 12) L) (v i)) (qc (bt mP))) = cS m (fun S => !S i && trS (fun i => la u v (bL (gi uG 12) L) (u i)) (fun i => la u v (bL (gi uG 12) L) (v i)) (qc (bt mP)) S) := by
        unfold cS
        refine fb_ct_cong (fun t _ => ?_)
        rw [hsub, Bool.and_assoc]
        rfl
      simp only [ew1, ew2, e, Option.bind_some]
      rw [if_pos trivial, if_pos trivial, if_pos (by decide)]
      refine ⟨_, rfl, _, rfl, ?_, hI _ _ _ _ _⟩
      show nI _ - nI _ = nI _
      rw [hsum, hcut, nsub]
