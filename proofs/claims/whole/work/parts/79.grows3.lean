/-! ===== grows: all of it ===== -/
section
variable {N : Nat} {xA xE : sx_C} {K L A B : Nat} {u v u' v' : Nat → Nat} {f : Nat → Nat} {F : Bool → BS} {x : Nat}
/-- one forest, one line of the queue -/
theorem grows_f (hf : 20 ≤ N) (H : mFix xA xE K L A B u v u' v' f F) (hx : ∀ t, F t x = false) {k23 : Int32 → Int32 → Int32 → sx_C → sx_C → Option (Bool × sx_C × sx_C)} (n : Nat) (t : Bool) {X hd : Nat} (hXL : X < L) (seen : Int32) (size : Nat) (qe pr : Nat → Nat) (xF xG : sx_C) (hF : mfk xG = F) (hh : hd < size) (hq : qe hd = X) (hS : mSea u' v' F x xG qe pr size hd seen) :
    (∃ xF' xG', f_X12_grows_41 N k23 xA xE (n + 1) seen (nI size) (nI hd) (nI X) (nI (cdF t)) xF xG = some (true, xF', xG') ∧ qTwo (fun _ => rk u' v') (mfk xG') ∧ ∀ z, qUn (mfk xG') z = qI (qUn F) x z) ∨
    ∃ seen' size' qe' pr' xF' xG', f_X12_grows_41 N k23 xA xE (n + 1) seen (nI size) (nI hd) (nI X) (nI (cdF t)) xF xG = f_X12_grows_41 N k23 xA xE n seen' (nI size') (nI hd) (nI X) (nI (cdF t) + 1) xF' xG' ∧ mfk xG' = F ∧ hd < size' ∧ qe' hd = X ∧ mSea u' v' F x xG' qe' pr' size' hd seen' ∧ (∀ z, bt seen z = true → bt seen' z = true) ∧ (F t X = true ∨ (gs u' v' (F t) X = true ∧ ∀ z, qC (gs u' v') (F t) X z = true → bt seen' z = true)) := by
  obtain ⟨hN, hE, hfK, hk, hu, hTwo, hFL⟩ := id H
  obtain ⟨h1, h2, h3, h4, h5, ⟨h6, h7, h8⟩, h9, h10⟩ := id hN
  have M := gs_mat hk
  have hcl := cdF_lt t
  have hbt : bt (ga xG 39 (cdF t)) = F t := by rw [← hF]; rfl
  have r0 : sp_rd (ga xG 39) 2 (nI (cdF t)) = some (ga xG 39 (cdF t)) := rd_ok hcl (by decide)
  have eq1 : f_X12_grows_41 N k23 xA xE (n + 1) seen (nI size) (nI hd) (nI X) (nI (cdF t)) xF xG = (if ((sp_shr (ga xG 39 (cdF t)) (nI X)) &&& 1) = 1 then f_X12_grows_41 N k23 xA xE n seen (nI size) (nI hd) (nI X) (nI (cdF t) + 1) xF xG else Option.bind (f_X12_isForest N xA xE ((ga xG 39 (cdF t)) ||| (sp_shl 1 (nI X))) xF) (fun q7 => (if (q7.1) = true then Option.bind (f_X12_settles N (nI X) (nI (cdF t)) xG) (fun q9 => some (true, (q7.2), q9)) else f_X12_grows_98 N k23 (f_X12_grows_41 N k23 xA xE n) xA xE N seen (nI size) (nI hd) (nI X) (nI (cdF t)) 0 (q7.2) xG))) := by
    have e2 : (2 : Int32) = nI 2 := rfl
    rw [f_X12_grows_41, e2, if_neg (fun h => by have := (nle (by omega) (by omega)).mp h; omega), r0]
    rfl
  rw [eq1]
  by_cases hFX : F t X = true
  · right
    rw [if_pos ((shr_ok _ (by omega)).1.mpr (by rw [hbt]; exact hFX))]
    exact ⟨seen, size, qe, pr, xF, xG, rfl, hF, hh, hq, hS, fun _ h => h, Or.inl hFX⟩
  · have hFX' : F t X = false := by cases h : F t X <;> simp_all
    rw [if_neg (fun h => by rw [(shr_ok _ (by omega)).1, hbt, hFX'] at h; cases h)]
    obtain ⟨b, xF1, f1, f2⟩ := isForest_ok hf hN hE hfK hk hu (ga xG 39 (cdF t) ||| sp_shl 1 (nI X)) xF
    have hset : bL (ga xG 39 (cdF t) ||| sp_shl 1 (nI X)) L = qI (F t) X := by
      funext z
      show (bt _ z && decide (z < L)) = (F t z || decide (z = X))
      rw [b_or, bit_all (by omega : X < 17), hbt]
      by_cases hzL : z < L
      · simp [hzL]
      · have a : F t z = false := by
          cases h : F t z
          · rfl
          · exact absurd (hFL t z h) hzL
        have c : ¬ z = X := by omega
        simp [hzL, a, c]
    rw [hset] at f2
    have hiff : qInd (rk u' v') (qI (F t) X) ↔ gs u' v' (F t) X = false := ⟨fun h => q_ind_not M (by omega) h hFX', fun h => (q_ind_ins M (hTwo.1 t) (by omega) h).1⟩
    simp only [f1, Option.bind_some]
    by_cases hbb : b = true
    · left
      rw [if_pos hbb]
      have hgs := hiff.mp (f2.mp hbb)
      obtain ⟨k, pa, fo, w1, w2, w3, w4, w5, w6, w7, w8, w9, w10⟩ := msea_way hS hTwo.2 hx hh (t := t) (by rw [hq]; exact ⟨hFX', hgs⟩)
      obtain ⟨xG', s1, s2⟩ := settles_ok (xG := xG) hf w1 w5 w6 (fun t => by rw [hF, w4]; exact hx t) w7 w8 w9
      rw [w2, w3, hq] at s1
      rw [s1]
      have e : mfk xG' = qG F pa fo k (k + 1) := by
        funext t z
        rw [s2 t z, hF]
      have h9 := qG_two (fun _ => M) hTwo w10
      rw [w4] at h9
      refine ⟨xF1, xG', rfl, ?_, ?_⟩
      · rw [e]; exact h9.1
      · rw [e]; exact h9.2
    · right
      rw [if_neg hbb]
      have hgs : gs u' v' (F t) X = true := by
        cases h : gs u' v' (F t) X
        · exact absurd (f2.mpr (hiff.mpr h)) hbb
        · rfl
      obtain ⟨seen', size', qe', pr', xF', xG', c1, c2, c3, c4, c5, c6, c7⟩ := grows_y (k23 := k23) (k41 := f_X12_grows_41 N k23 xA xE n) hf H hXL hFX' hgs N 0 seen size qe pr xF1 xG (by omega) (by omega) hF hh hq hS (fun z hz => by omega)
      exact ⟨seen', size', qe', pr', xF', xG', c1, c2, c3, c4, c5, c6, Or.inr ⟨hgs, c7⟩⟩
theorem msea_next {xG : sx_C} {qe pr : Nat → Nat} {size hd : Nat} {seen : Int32} (h : mSea u' v' F x xG qe pr size hd seen) (hh : hd < size) (hn : ∀ t, F t (qe hd) = true ∨ (gs u' v' (F t) (qe hd) = true ∧ ∀ z, qC (gs u' v') (F t) (qe hd) z = true → bt seen z = true)) : mSea u' v' F x xG qe pr size (hd + 1) seen := by
  obtain ⟨⟨s1, s2, s3, s4⟩, h1, h2, h3, h4, h6, h7, h8⟩ := h
  refine ⟨⟨s1, by omega, s3, s4⟩, h1, h2, h3, h4, h6, h7, fun t ht f => ?_⟩
  by_cases e : t = hd
  · rw [e]; exact hn f
  · exact h8 t (by omega) f
theorem grows_loop (hf : 20 ≤ N) (H : mFix xA xE K L A B u v u' v' f F) (hxL : x < L) (hx : ∀ t, F t x = false) :
    ∀ n hd (seen : Int32) (size : Nat) (qe pr : Nat → Nat) (xF xG : sx_C), 17 - hd < n → mfk xG = F → mSea u' v' F x xG qe pr size hd seen →
      ∃ b xF' xG', f_X12_grows_23 N xA xE n seen (nI size) (nI hd) xF xG = some (b, xF', xG') ∧ ((b = false ∧ mfk xG' = F ∧ ∃ S : BS, qTight (fun _ => rk u' v') F S ∧ S x = true) ∨ (b = true ∧ qTwo (fun _ => rk u' v') (mfk xG') ∧ ∀ z, qUn (mfk xG') z = qI (qUn F) x z)) := by
  have M := gs_mat H.2.2.2.1
  have hTwo := H.2.2.2.2.2.1
  have hFL := H.2.2.2.2.2.2
  have hL17 : L ≤ 17 := H.1.2.2.2.2.2.1.2.2
  intro n
  induction n with
  | zero => intro hd seen size qe pr xF xG hn; omega
  | succ n ih =>
    intro hd seen size qe pr xF xG hn hF hS
    obtain ⟨⟨s1, s2, s3, s4⟩, g1, g2, g3, ⟨g4, g5⟩, g6, g7, g8⟩ := id hS
    unfold f_X12_grows_23
    by_cases hc : size ≤ hd
    · rw [if_pos ((nle (by omega) (by omega)).mpr hc)]
      refine ⟨false, xF, xG, rfl, Or.inl ⟨rfl, hF, bt seen, ?_, (g3 x).mpr ⟨0, s3, g4⟩⟩⟩
      refine q_closed (fun _ => M) hTwo (fun t y _ hy => ?_)
      obtain ⟨i, i1, i2⟩ := (g3 y).mp hy
      rw [← i2]
      exact g8 i (by omega) t
    · rw [if_neg (fun h => hc ((nle (by omega) (by omega)).mp h))]
      have hq := g1 hd (by omega)
      rw [rd_ok (by omega) (by decide), hq.2, Option.bind_some]
      have hXL : qe hd < L := by
        by_cases h0 : hd = 0
        · rw [h0, g4]; exact hxL
        · obtain ⟨-, -, f', -, a⟩ := g6 hd (by omega) (by omega)
          exact hFL f' _ a.1
      obtain ⟨m, hm⟩ : ∃ m, N = m + 3 := ⟨N - 3, by omega⟩
      have eN : f_X12_grows_41 N (f_X12_grows_23 N xA xE n) xA xE N seen (nI size) (nI hd) (nI (qe hd)) 0 xF xG = f_X12_grows_41 N (f_X12_grows_23 N xA xE n) xA xE (m + 2 + 1) seen (nI size) (nI hd) (nI (qe hd)) (nI (cdF true)) xF xG := by
        show _ = f_X12_grows_41 N (f_X12_grows_23 N xA xE n) xA xE (m + 3) seen (nI size) (nI hd) (nI (qe hd)) 0 xF xG
        rw [← hm]
      rw [eN]
      rcases grows_f (k23 := f_X12_grows_23 N xA xE n) hf H hx (m + 2) true hXL seen size qe pr xF xG hF (by omega) rfl hS with ⟨xF', xG', c1, c2, c3⟩ | ⟨seen1, size1, qe1, pr1, xF1, xG1, c1, c2, c3, c4, c5, c6, c7⟩
      · exact ⟨true, xF', xG', c1, Or.inr ⟨rfl, c2, c3⟩⟩
      · rw [c1]
        have e1 : nI (cdF true) + 1 = nI (cdF false) := rfl
        rw [e1]
        rcases grows_f (k23 := f_X12_grows_23 N xA xE n) hf H hx (m + 1) false hXL seen1 size1 qe1 pr1 xF1 xG1 c2 c3 c4 c5 with ⟨xF', xG', d1, d2, d3⟩ | ⟨seen2, size2, qe2, pr2, xF2, xG2, d1, d2, d3, d4, d5, d6, d7⟩
        · exact ⟨true, xF', xG', d1, Or.inr ⟨rfl, d2, d3⟩⟩
        · rw [d1]
          have e2 : nI (cdF false) + 1 = 2 := rfl
          rw [e2, f_X12_grows_41, if_pos (by decide)]
          have e3 : nI hd + 1 = nI (hd + 1) := nadd hd 1
          rw [e3]
          refine ih (hd + 1) seen2 size2 qe2 pr2 xF2 xG2 (by omega) d2 (msea_next d5 d3 (fun t => ?_))
          rw [d4]
          cases t
          · exact d7
          · rcases c7 with c7 | ⟨c7, c8⟩
            · exact Or.inl c7
            · exact Or.inr ⟨c7, fun z hz => d6 z (c8 z hz)⟩
theorem grows_ok (hf : 20 ≤ N) (xG : sx_C) (H : mFix xA xE K L A B u v u' v' f (mfk xG)) (hxL : x < L) (hx : ∀ t, mfk xG t x = false) (xF : sx_C) :
      ∃ b xF' xG', f_X12_grows N xA xE (nI x) xF xG = some (b, xF', xG') ∧ ((b = false ∧ mfk xG' = mfk xG ∧ ∃ S : BS, qTight (fun _ => rk u' v') (mfk xG) S ∧ S x = true) ∨ (b = true ∧ qTwo (fun _ => rk u' v') (mfk xG') ∧ ∀ z, qUn (mfk xG') z = qI (qUn (mfk xG)) x z)) := by
  have hL17 : L ≤ 17 := H.1.2.2.2.2.2.1.2.2
  have hx17 : x < 17 := by omega
  unfold f_X12_grows
  have e0 : (0 : Int32) = nI 0 := rfl
  have e1 : (1 : Int32) = nI 1 := rfl
  rw [if_pos (show sp_in 0 17 = true by decide), if_pos (in_ok hx17 (by decide)), nI_clamp (by omega)]
  obtain ⟨w, hw⟩ : ∃ w, w = sa (sa xG 40 (Int32.toNatClampNeg 0) (nI x)) 41 x (-1) := ⟨_, rfl⟩
  rw [← hw]
  have hz0 : Int32.toNatClampNeg 0 = 0 := rfl
  rw [hz0] at hw
  have hm : mfk w = mfk xG := by
    funext s z
    show bt (ga w 39 (cdF s)) z = bt (ga xG 39 (cdF s)) z
    rw [hw, ga_sa, if_neg (by decide), ga_sa, if_neg (by decide)]
  have h40 : ga w 40 0 = nI x := by rw [hw, ga_sa, if_neg (by decide), ga_up, if_pos rfl]
  have h41 : ga w 41 x = -1 := by rw [hw, ga_up, if_pos rfl]
  have hc1 : fb_ct (bt (sp_shl 1 (nI x))) 17 = 1 := by
    have h7 : ∀ c, c < 17 → fb_ct (fun k => decide (k = c)) 17 = 1 := by decide
    rw [← h7 x hx17]
    exact fb_ct_cong (fun k _ => bit_all hx17 k)
  have hS : mSea u' v' (mfk xG) x w (fun _ => x) (fun _ => 0) 1 0 (sp_shl 1 (nI x)) := by
    refine ⟨⟨by omega, by omega, by omega, hc1⟩, fun t ht => ?_, fun t t' h1 h2 => by omega, fun z => ?_, ⟨rfl, h41⟩, fun t h1 h2 => by omega, fun t h1 h2 => by omega, fun t h1 => by omega⟩
    · have : t = 0 := by omega
      subst this
      exact ⟨hx17, h40⟩
    · rw [bit_all hx17]
      constructor
      · intro h; exact ⟨0, by omega, (of_decide_eq_true h).symm⟩
      · rintro ⟨t, -, h⟩; simp [h]
  exact grows_loop hf H hxL hx N 0 (sp_shl 1 (nI x)) 1 (fun _ => x) (fun _ => 0) xF w (by omega) hm hS
/-- the model's two forests over the lines E -/
theorem twoForests_ok (hf : 20 ≤ N) (hN : mNet xA K L A B u v) (hE : ∀ k, k < K → ga xE 37 k = nI (f k)) (hfK : ∀ k, k < K → f k < K) (hk : ∀ i, u' i < 8 ∧ v' i < 8) (hu : ∀ i, i < L → u' i = f (u i) ∧ v' i = f (v i)) (y : Int32) (xF xG : sx_C) :
    ∃ m xF' xG', f_X12_twoForests N xA xE y xF xG = some (nI m, xF', xG') ∧ m ≤ 17 ∧ qMost (fun _ => rk u' v') (bL y L) m := by
  obtain ⟨h1, h2, h3, h4, h5, ⟨h6, h7, h8⟩, h9, h10⟩ := id hN
  have M := gs_mat hk
  have hc0 : qc q0 = 0 := fb_ct_zero.mpr (fun k _ => rfl)
  have loop : ∀ n i m xF xG, L - i < n → i ≤ L → m ≤ i → qDone (fun _ => rk u' v') (qR (bL y L) i) (mfk xG) → qSz (mfk xG) = m → ∃ m' xF' xG', f_X12_twoForests_18 N xA xE n y (nI m) (nI i) xF xG = some (nI m', xF', xG') ∧ m' ≤ 17 ∧ qMost (fun _ => rk u' v') (bL y L) m' := by
    intro n
    induction n with
    | zero => intro i m xF xG hn; omega
    | succ n ih =>
      intro i m xF xG hn hi hm hD hz
      unfold f_X12_twoForests_18
      rw [h4]
      have e1 : nI i + 1 = nI (i + 1) := nadd i 1
      by_cases hc : L ≤ i
      · rw [if_pos ((nle (by omega) (by omega)).mpr hc)]
        refine ⟨m, xF, xG, rfl, by omega, ?_⟩
        have e : qR (bL y L) i = bL y L := by
          funext z
          show ((bt y z && decide (z < L)) && decide (z < i)) = (bt y z && decide (z < L))
          by_cases hzL : z < L
          · have : z < i := by omega
            simp [hzL, this]
          · simp [hzL]
        rw [e] at hD
        rw [← hz]
        exact q_done_most (fun _ => M) hD
      · rw [if_neg (fun h => hc ((nle (by omega) (by omega)).mp h))]
        have hiL : i < L := by omega
        by_cases hb : bt y i = true
        · rw [if_pos ((shr_ok y (by omega)).1.mpr hb)]
          have hFE : ∀ t z, mfk xG t z = true → qR (bL y L) i z = true := fun t z h => hD.2.1 z (by
            show (mfk xG true z || mfk xG false z) = true
            cases t <;> simp [h])
          have hlt : ∀ t z, mfk xG t z = true → z < i := fun t z h => by
            have := hFE t z h
            unfold qR at this
            simp at this
            exact this.2
          have hxF : ∀ t, mfk xG t i = false := fun t => by
            cases h : mfk xG t i
            · rfl
            · have := hlt t i h; omega
          obtain ⟨b, xF', xG', g1, g2⟩ := grows_ok hf xG (x := i) ⟨hN, hE, hfK, hk, hu, hD.1, fun t z h => by have := hlt t z h; omega⟩ hiL hxF xF
          have hbL : bL y L i = true := by
            show (bt y i && decide (i < L)) = true
            simp [hb, hiL]
          rw [g1, Option.bind_some]
          unfold f_X12_twoForests_46
          dsimp only
          rw [e1]
          rcases g2 with ⟨rfl, g3, S, g4, g5⟩ | ⟨rfl, g3, g4⟩
          · rw [if_neg (by decide)]
            refine ih (i + 1) m xF' xG' (by omega) (by omega) (by omega) ?_ (by rw [g3]; exact hz)
            rw [← qR_I hbL, g3]
            exact q_done_no (fun _ => M) hD g4 g5
          · rw [if_pos rfl, show nI m + 1 = nI (m + 1) from nadd m 1]
            refine ih (i + 1) (m + 1) xF' xG' (by omega) (by omega) (by omega) ?_ ?_
            · rw [← qR_I hbL]
              exact q_done_yes (fun _ => M) hD g3 g4
            · rw [qSz_un g3.2, ← hz, qSz_un hD.1.2]
              have e : qUn (mfk xG') = qI (qUn (mfk xG)) i := funext g4
              rw [e]
              exact qc_ins (by omega) (by show (mfk xG true i || mfk xG false i) = false; rw [hxF, hxF]; rfl)
        · have hb' : bt y i = false := by cases h : bt y i <;> simp_all
          rw [if_neg (fun h => hb ((shr_ok y (by omega)).1.mp h))]
          unfold f_X12_twoForests_46
          rw [e1]
          refine ih (i + 1) m xF xG (by omega) (by omega) (by omega) ?_ hz
          rw [qR_N (by show (bt y i && decide (i < L)) = false; rw [hb']; rfl)]
          exact hD
  unfold f_X12_twoForests
  rw [if_pos (show sp_in 0 2 = true by decide), if_pos (show sp_in 1 2 = true by decide)]
  have hF : ∀ t, mfk (sa (sa xG 39 (Int32.toNatClampNeg 0) 0) 39 (Int32.toNatClampNeg 1) 0) t = q0 := fun t => by
    funext z
    show bt (ga (sa (sa xG 39 0 0) 39 1 0) 39 (cdF t)) z = false
    rw [ga_up]
    cases t
    · rw [if_pos (show cdF false = 1 from rfl)]; exact b_0 z
    · rw [if_neg (by decide), ga_up, if_pos (show cdF true = 0 from rfl)]; exact b_0 z
  have e : ∀ t, qN (mfk (sa (sa xG 39 (Int32.toNatClampNeg 0) 0) 39 (Int32.toNatClampNeg 1) 0) t) q0 = q0 := fun t => by rw [hF t]; rfl
  refine loop N 0 0 xF _ (by omega) (by omega) (by omega) ⟨⟨fun t => ?_, fun z hz => ?_⟩, fun i hi => ?_, q0, ?_, fun i _ hi => ?_⟩ ?_
  · unfold qInd
    rw [hF t]
    show rk u' v' q0 = qc q0
    rw [M.2.2.2, hc0]
  · rw [hF] at hz; cases hz.1
  · have hi : (mfk (sa (sa xG 39 (Int32.toNatClampNeg 0) 0) 39 (Int32.toNatClampNeg 1) 0) true i || mfk (sa (sa xG 39 (Int32.toNatClampNeg 0) 0) 39 (Int32.toNatClampNeg 1) 0) false i) = true := hi
    rw [hF, hF] at hi; cases hi
  · unfold qTight
    rw [e, e, hc0]
    show rk u' v' q0 + rk u' v' q0 = 0 + 0
    rw [M.2.2.2]
  · unfold qR at hi
    simp at hi
  · unfold qSz
    rw [hF, hF, hc0]
end
