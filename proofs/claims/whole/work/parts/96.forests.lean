/-! ===== forests ===== -/
theorem bringOpen2_ok {N : Nat} (hN20 : 20 ≤ N) {uN uF : sx_C} {K L A B : Nat} {u v : Nat → Nat} (hN : cNet uN K L A B u v) {p : Int32} {f : Nat → Nat} (hp : pk p f) (hf : ∀ k, k < 8 → f k < 8) {O : Int32} (hO : ∀ z, bt O z = true → z < L) {ut vt : Nat → Nat} (hk : ∀ i, ut i < 8 ∧ vt i < 8) (hut : ∀ i, i < L → ut i = f (u i) ∧ vt i = f (v i)) {u0 v0 : Nat → Nat} (hF : fNet uF u0 v0) : ∃ uF', f_X3_bringOpen N uN p O uF = some uF' ∧ jSt ut vt (bt O) uF' ∧ ∀ z, bt (gi uF' 7) z = bt O z := by
  obtain ⟨h1, h2, h3, h4, h5, ⟨h6, h7, h8⟩, h9, h10⟩ := id hN
  have loop : ∀ n i (w : sx_C), 14 - i < n → i ≤ 14 → jSt ut vt (qR (bt O) i) w → (∀ z, bt (gi w 7) z = qR (bt O) i z) → ∃ uF', f_X3_bringOpen_9 N uN n p O (nI i) w = some uF' ∧ jSt ut vt (bt O) uF' ∧ ∀ z, bt (gi uF' 7) z = bt O z := by
    intro n
    induction n with
    | zero => intro i w hn; omega
    | succ n ih =>
      intro i w hn hi hw hw7
      unfold f_X3_bringOpen_9
      have e14 : (14 : Int32) = nI 14 := rfl
      by_cases hc : 14 ≤ i
      · rw [e14, if_pos ((nle (by omega) (by omega)).mpr hc)]
        have : i = 14 := by omega
        subst this
        refine ⟨w, rfl, ?_⟩
        have e : qR (bt O) 14 = bt O := by
          funext z
          show (bt O z && decide (z < 14)) = bt O z
          cases hz : bt O z
          · rfl
          · have := hO z hz
            have : decide (z < 14) = true := by simp; omega
            rw [this]; rfl
        rw [e] at hw hw7
        exact ⟨hw, hw7⟩
      · rw [e14, if_neg (fun h => hc ((nle (by omega) (by omega)).mp h)), has_ok _ (by omega)]
        have e1 : nI i + 1 = nI (i + 1) := nadd i 1
        show ∃ uF', (if bt O i = true then _ else _) = some uF' ∧ _
        by_cases hb : bt O i = true
        · rw [if_pos hb]
          have hiL := hO i hb
          rcases cline_ok hN (nI i) with ⟨-, hno⟩ | ⟨i2, -, -, ht⟩
          · exact absurd rfl (hno i hiL)
          · rw [ht]
            have hu := (h10 i).1
            have hv := (h10 i).2
            have r0 : sp_rd (ga uN 0) 14 (nI i) = some (nI (u i)) := by rw [rd_ok (by omega) (by decide), (h5 i hiL).1]
            have r1 : sp_rd (ga uN 1) 14 (nI i) = some (nI (v i)) := by rw [rd_ok (by omega) (by decide), (h5 i hiL).2]
            have n0 : f_X8_numberOf p (nI (u i)) = some (nI (ut i)) := by rw [num_ok hp (by omega) (hf _ (by omega)), ← (hut i hiL).1]
            have n1 : f_X8_numberOf p (nI (v i)) = some (nI (vt i)) := by rw [num_ok hp (by omega) (hf _ (by omega)), ← (hut i hiL).2]
            obtain ⟨w1, b, w2, q1, q2, q3, q4, -⟩ := j_bring hN20 hk hw (x := i) (by omega) (fun z hz => by
              have hz : (bt O z && decide (z < i)) = true := hz
              simp at hz; omega) (by show (bt O i && decide (i < i)) = false; simp)
            simp only [Option.bind_some, if_true, r0, r1, n0, n1, q1, q2]
            show ∃ uF', f_X3_bringOpen_9 N uN n p O (nI i + 1) w2 = some uF' ∧ _
            rw [e1]
            rw [qR_I hb] at q3
            refine ih (i + 1) w2 (by omega) (by omega) q3 (fun z => ?_)
            rw [q4, b_or, bit_all (by omega), hw7 z, ← qR_I hb]
            rfl
        · rw [if_neg hb]
          have hb' : bt O i = false := by cases h : bt O i <;> simp_all
          show ∃ uF', f_X3_bringOpen_9 N uN n p O (nI i + 1) w = some uF' ∧ _
          rw [e1]
          exact ih (i + 1) w (by omega) (by omega) (by rw [qR_N hb']; exact hw) (fun z => by rw [hw7 z, qR_N hb'])
  unfold f_X3_bringOpen f_X0_begin
  show ∃ uF', f_X3_bringOpen_9 N uN N p O 0 (si (si (si (si uF 5 0) 6 0) 7 0) 8 0) = some uF' ∧ _
  have hq : qR (bt O) 0 = q0 := by
    funext z
    show (bt O z && decide (z < 0)) = false
    simp
  refine loop N 0 _ (by omega) (by omega) ?_ (fun z => ?_)
  rotate_left
  · rw [hq, gi_si, if_neg (by decide), gi_si, if_pos rfl]; exact b_0 z
  rw [hq]
  exact jSt_0 (u' := u0) (v' := v0) ⟨fun i hi => by rw [ga_si, ga_si, ga_si, ga_si]; exact hF.1 i hi, hF.2⟩ (by rw [gi_si, if_neg (by decide), gi_si, if_neg (by decide), gi_si, if_neg (by decide), gi_si, if_pos rfl]) (by rw [gi_si, if_neg (by decide), gi_si, if_neg (by decide), gi_si, if_pos rfl]) (by rw [gi_si, if_pos rfl])
section
variable {N : Nat}
theorem gs_cong2 {u1 v1 u2 v2 : Nat → Nat} {S : BS} {x : Nat} (h : ∀ i, i < 32 → S i = true → u1 i = u2 i ∧ v1 i = v2 i) (hx : u1 x = u2 x ∧ v1 x = v2 x) : gs u1 v1 S x = gs u2 v2 S x := by
  unfold gs
  rw [la_cong2 h, hx.1, hx.2]
theorem bas_cong2 {u1 v1 u2 v2 : Nat → Nat} {S : BS} (h : ∀ i, i < 32 → S i = true → u1 i = u2 i ∧ v1 i = v2 i) (hS : ∀ i, S i = true → i < 32) : bas (gs u1 v1) S = bas (gs u2 v2) S := by
  funext i
  unfold bas
  cases hi : S i
  · rfl
  · rw [gs_cong2 (fun j hj hj2 => h j hj (qR_s _ _ j hj2)) (h i (hS i hi) hi)]
/-- lower, over the places -/
theorem lower_j (hN20 : 20 ≤ N) {ut vt : Nat → Nat} (hk : ∀ i, ut i < 8 ∧ vt i < 8) {E : BS} {uF : sx_C} (h : jSt ut vt E uF) (h7 : ∀ z, bt (gi uF 7) z = E z) (hE17 : ∀ z, E z = true → z < 17) : ∃ uF', f_X0_lower N uF = some uF' ∧ (∃ u' v', fNet uF' u' v' ∧ ∀ i, i < 32 → E i = true → u' i = ut i ∧ v' i = vt i) ∧ isFst (rk ut vt) E (qSz (fmk uF)) (bt (gi uF' 5)) ∧ (∀ Y, isFst (rk ut vt) E (qSz (fmk uF)) Y → ∀ p, bt (gi uF' 5) p = true → Y p = false → (∀ q, p < q → Y q = bt (gi uF' 5) q) → False) ∧ ∀ z, bt (gi uF' 6) z = bas (gs ut vt) (qD E (bt (gi uF' 5))) z := by
  obtain ⟨h8, u', v', hN, hu, hD⟩ := h
  rw [rr_0] at hD
  have M := gs_mat hN.2
  have hE : E = bt (gi uF 7) := funext (fun z => (h7 z).symm)
  have hm := q_done_most (fun _ => M) hD
  obtain ⟨uF', l1, l2, l3, l4, l5, l6⟩ := lower_ok hN20 hN hE hE17 hm h8 hD.1 hD.2.1 rfl
  have hrk : ∀ S, qS S E → rk u' v' S = rk ut vt S := fun S hS => rk_cong2 (fun i hi hSi => hu i hi (hS i hSi))
  have hqD : ∀ X : BS, qS (qD E X) E := fun X i hi => by unfold qD at hi; simp at hi; exact hi.1
  have hiff : ∀ X k, isFst (rk u' v') E k X ↔ isFst (rk ut vt) E k X := fun X k => by
    unfold isFst qInd
    constructor
    · rintro ⟨a, b, c⟩
      rw [hrk X a] at b
      rw [hrk _ (hqD X)] at c
      exact ⟨a, b, c⟩
    · rintro ⟨a, b, c⟩
      rw [← hrk X a] at b
      rw [← hrk _ (hqD X)] at c
      exact ⟨a, b, c⟩
  refine ⟨uF', l1, ⟨u', v', l2, hu⟩, (hiff _ _).mp l4, fun Y hY => l5 Y ((hiff _ _).mpr hY), fun z => ?_⟩
  rw [l6 z, bas_cong2 (fun i hi hi2 => hu i hi (hqD _ i hi2)) (fun i hi => by have := hE17 i (hqD _ i hi); omega)]
theorem total_ok (uF : sx_C) : f_X0_total uF = some (nI (qSz (fmk uF))) := by
  unfold f_X0_total
  simp only [bitCount_ok, Option.bind_some, nadd]
  rfl
end
theorem int_02 (x : Int32) : x < 0 ∨ (¬ x < 0 ∧ ¬ x ≤ 2) ∨ (∃ m, m < 3 ∧ x = nI m ∧ ¬ x < 0 ∧ x ≤ 2) := by
  by_cases h : x < 0
  · exact Or.inl h
  · right
    obtain ⟨k, k1, k2⟩ := n_pos (fa_of_nlt h)
    by_cases h2 : x ≤ 2
    · right
      refine ⟨k, ?_, k2, h, h2⟩
      rw [k2] at h2
      have := (nle (b := 2) k1 (by omega)).mp h2
      omega
    · exact Or.inl ⟨h, h2⟩
theorem lo_forests {N : Nat} {LK : sLK} (hf : 200000 ≤ N) : LO_forests N (sI LK) := by
  rintro uG uN uD uR uF uP uL uT uA uM uH xA xB xC xD xE xF xG xH xI xJ xK xL x ⟨K, L, A, B, u, v, hC, hR⟩
  have hI : ∀ uF' xB' xD' xE' xF' xG', (∃ u' v', fNet uF' u' v') → sI LK uG uN uD uR uF' uP uL uT uA uM uH xA xB' xC xD' xE' xF' xG' xH xI xJ xK xL := fun _ _ _ _ _ _ h => ⟨K, L, A, B, u, v, sCore_F hC h, hR⟩
  obtain ⟨hN, hM, hF, ⟨e7, e8, e11⟩, -⟩ := id hC
  obtain ⟨c1, c2, c3, hL⟩ := cN_8 hN
  have h20 : 20 ≤ N := by omega
  unfold f_X11_forests f_X12_forests
  rcases int_02 x with h | ⟨h, h2⟩ | ⟨w, w1, rfl, h, h2⟩
  · rw [if_pos h, if_pos h]; exact ⟨_, rfl, _, rfl, rfl, hI _ _ _ _ _ _ hF⟩
  · rw [if_neg h, if_neg h, if_neg h2, if_neg h2]; exact ⟨_, rfl, _, rfl, rfl, hI _ _ _ _ _ _ hF⟩
  · rw [if_neg h, if_neg h, if_pos h2, if_pos h2]
    obtain ⟨J, hJ⟩ : ∃ J, J = gi uG 12 := ⟨_, rfl⟩
    obtain ⟨G, hG⟩ : ∃ G, G = gi uG 13 := ⟨_, rfl⟩
    obtain ⟨fl, hfl⟩ : ∃ fl, fl = la u v (bL J L) := ⟨_, rfl⟩
    have hf8 : ∀ k, k < 8 → fl k < 8 := fun k hk => by rw [hfl]; exact la_lt8 _ _ _ k hk
    obtain ⟨ut, hut⟩ : ∃ ut : Nat → Nat, ut = fun i => fl (u i) := ⟨_, rfl⟩
    obtain ⟨vt, hvt⟩ : ∃ vt : Nat → Nat, vt = fun i => fl (v i) := ⟨_, rfl⟩
    have hk : ∀ i, ut i < 8 ∧ vt i < 8 := fun i => by rw [hut, hvt]; exact ⟨hf8 _ (c1 i).1, hf8 _ (c1 i).2⟩
    have hul : ∀ i, i < L → ut i = fl (u i) ∧ vt i = fl (v i) := fun i _ => by rw [hut, hvt]; exact ⟨rfl, rfl⟩
    obtain ⟨O, hO⟩ : ∃ O, O = opn L J G := ⟨_, rfl⟩
    have hOL : ∀ z, bt O z = true → z < L := fun z hz => by rw [hO] at hz; exact opn_lt (by omega) hz
    obtain ⟨p, p1, p2⟩ := placesBy_ok hN h20 J
    rw [← hfl] at p2
    obtain ⟨u0, v0, hF0⟩ := hF
    obtain ⟨g1, b1, b2, b3⟩ := bringOpen2_ok h20 hN p2 hf8 hOL hk hul hF0
    obtain ⟨xD1, xE1, d1, d2⟩ := laysPlaces_ok hM h20 J xD xE
    rw [← hfl] at d2
    have hfK : ∀ k, k < K → fl k < K := fun k hk2 => by rw [hfl]; exact Nat.lt_of_le_of_lt ((lb_ok _ _ _ _).1 k) hk2
    have HP : mPl xA xE1 K L A B u v ut vt fl := ⟨hM, d2, hfK, hk, hul⟩
    obtain ⟨mm, xF1, xG1, t1, t2, t3⟩ := twoForests_ok h20 hM d2 hfK hk hul O xF xG
    rw [bL_sub hOL] at t3
    have M := gs_mat hk
    have hmm : qSz (fmk g1) = mm := q_most_one (fun _ => M) (j_most hk b2) t3
    have hfn : ∃ u' v', fNet g1 u' v' := by obtain ⟨-, u', v', h9, -⟩ := b2; exact ⟨u', v', h9⟩
    rw [e7, mOpenNow_ok hM, e7, e8, cOpen_ok hN, ← hJ, ← hG, ← hO]
    simp only [p1, d1, b1, t1, Option.bind_some]
    by_cases h0 : nI w = 0
    · rw [if_pos h0, if_pos h0, total_ok, hmm]
      exact ⟨_, rfl, _, rfl, rfl, hI _ _ _ _ _ _ hfn⟩
    · rw [if_neg h0, if_neg h0]
      have hE17 : ∀ z, bt O z = true → z < 17 := fun z hz => by have := hOL z hz; omega
      obtain ⟨g2, l1, ⟨u2, v2, l2, -⟩, l3, l4, l5⟩ := lower_j h20 hk b2 b3 hE17
      rw [hmm] at l3 l4
      simp only [l1, Option.bind_some]
      obtain ⟨m, m1, m2⟩ := wb_of32 O
      obtain ⟨a, a1, a2⟩ := wb_of32 (gi g2 5)
      obtain ⟨a', a1', a2'⟩ := wb_of32 (gi g2 6)
      rw [a2] at l3 l4 l5
      rw [a2'] at l5
      have tb : ∀ x z, x < 2 ^ 32 → x.testBit z = bt (nI x) z := fun x z hx => by
        by_cases h : z < 32
        · rw [h_nI z h]
        · rw [b_big (by omega), tb_small hx (by omega)]
      have hmL : ∀ z, m.testBit z = true → z < L := fun z hz => hOL z (by rw [m2, ← tb m z m1]; exact hz)
      have hm17 : m < 2 ^ 17 := Nat.lt_pow_two_of_testBit m (fun i hi => by
        cases h9 : m.testBit i
        · rfl
        · have := hmL i h9; omega)
      obtain ⟨s1, s2⟩ := first_scan m1 a1 (by rw [← m2]) l3 l4
      have hale := sbs_le s1
      have hbit : ∀ t, sbs t m → bL (nI t) L = bt (nI t) := fun t ht => bL_sub (fun z hz => by
        rw [← tb t z (by have := sbs_le ht; omega)] at hz
        exact hmL z (sbs_iff.mp ht z hz))
      have hrest : ∀ t, sbs t m → (∀ z, bt (O &&& (nI t ^^^ (-1))) z = qD (bt O) (bt (nI t)) z) := fun t ht z => by
        show _ = (bt O z && !bt (nI t) z)
        by_cases h32 : z < 32
        · rw [b_and, h_not _ h32]
        · rw [b_big (by omega), b_big (by omega)]; rfl
      have hrestL : ∀ t, sbs t m → bL (O &&& (nI t ^^^ (-1))) L = qD (bt O) (bt (nI t)) := fun t ht => by
        rw [bL_sub (fun z hz => ?_)]
        · exact funext (hrest t ht)
        · rw [b_and] at hz
          simp at hz
          exact hOL z hz.1
      -- the second
      obtain ⟨m', q1', q2'⟩ := wb_of32 (O &&& (nI a ^^^ (-1)))
      have hm'b : bt (nI m') = qD (bt O) (bt (nI a)) := by rw [← q2']; exact funext (hrest a s1)
      obtain ⟨z1, z2, z3, z4⟩ := second_scan hk q1' (a := a') (by rw [hm'b]; exact l5) a1'
      rw [hm'b] at z2 z4
      have hm'm : m' ≤ m := sbs_le (sbs_iff.mpr (fun z hz => by
        rw [tb m' z q1', hm'b] at hz
        unfold qD at hz
        simp at hz
        rw [tb m z m1, ← m2]; exact hz.1))
      have hbit' : ∀ t, sbs t m' → bL (nI t) L = bt (nI t) := fun t ht => bL_sub (fun z hz => by
        rw [← tb t z (by have := sbs_le ht; omega)] at hz
        have := sbs_iff.mp ht z hz
        rw [tb m' z q1', hm'b] at this
        unfold qD at this
        simp at this
        exact hOL z this.1)
      have hca := qc_le32 (bt (nI a))
      have hsecond : ∀ n s xF, a' - s < n → sbs s m' → s ≤ a' → ∃ xF', f_X12_forests_103 N xA n (nI mm) (nI a) (nI m') (nI s) (si xB 0 0) xD1 xE1 xF xG1 = some (nI a', si xB 0 0, xD1, xE1, xF', xG1) := by
        intro n
        induction n with
        | zero => intro s xF hn; omega
        | succ n ih =>
          intro s xF hn hs hsa
          unfold f_X12_forests_103
          obtain ⟨b, w2, f1, f2⟩ := isF_ok h20 HP (nI s) xF
          rw [hbit' s hs] at f2
          have hcs := qc_le32 (bt (nI s))
          have hsum := l3.2.2
          simp only [f1, bits_ok, Option.bind_some, nadd]
          by_cases e : s = a'
          · rw [e] at f2 ⊢
            have hq : qc (bt (nI a)) + qc (bt (nI a')) = mm := by rw [z2]; exact hsum
            rw [if_pos (f2.mpr z3), if_pos (by rw [hq])]
            exact ⟨w2, rfl⟩
          · have hlt : s < a' := by omega
            have next : ∀ w, ∃ xF', f_X12_forests_127 N (f_X12_forests_103 N xA n) xA (nI mm) (nI a) (nI m') (nI s) (si xB 0 0) xD1 xE1 w xG1 = some (nI a', si xB 0 0, xD1, xE1, xF', xG1) := by
              intro w
              unfold f_X12_forests_127
              rw [int_up (by omega)]
              obtain ⟨up1, up2⟩ := sub_up 32 s m' a' (by omega) hs z1 hlt
              exact ih _ w (by omega) (sbs_and _ _) up2
            by_cases hb : b = true
            · rw [if_pos hb, if_neg (fun h9 => ?_)]
              · exact next _
              · have h10 := (neq (by omega) (by omega)).mp h9
                refine z4 s hs hlt ?_ (f2.mp hb)
                omega
            · rw [if_neg hb]; exact next _
      have hfirst : ∀ n s xF, a - s < n → sbs s m → s ≤ a → ∃ xF', f_X12_forests_44 N xA n (nI w) O (nI mm) (nI s) (si xB 0 0) xD1 xE1 xF xG1 = some (if nI w = 1 then nI a else nI a', si xB 0 0, xD1, xE1, xF', xG1) := by
        intro n
        induction n with
        | zero => intro s xF hn; omega
        | succ n ih =>
          intro s xF hn hs hsa
          unfold f_X12_forests_44
          obtain ⟨b, w2, f1, f2⟩ := isF_ok h20 HP (nI s) xF
          rw [hbit s hs] at f2
          obtain ⟨w3, r1⟩ := rank_ok h20 HP (O &&& (nI s ^^^ (-1))) w2
          rw [hrestL s hs] at r1
          have hcs := qc_le32 (bt (nI s))
          have hrk := rk_le8 ut vt (qD (bt O) (bt (nI s)))
          simp only [f1, bits_ok, r1, Option.bind_some, nadd]
          by_cases e : s = a
          · subst e
            rw [if_pos (f2.mpr l3.2.1), if_pos (by rw [l3.2.2])]
            by_cases hw1 : nI w = 1
            · rw [if_pos hw1, if_pos hw1]; exact ⟨w3, rfl⟩
            · rw [if_neg hw1, if_neg hw1, q2']
              exact hsecond N 0 w3 (by have := sbs_le z1; omega) (by unfold sbs; simp) (Nat.zero_le _)
          · have hlt : s < a := by omega
            have next : ∀ w9, ∃ xF', f_X12_forests_73 N (f_X12_forests_44 N xA n) xA (nI w) O (nI mm) (nI s) (si xB 0 0) xD1 xE1 w9 xG1 = some (if nI w = 1 then nI a else nI a', si xB 0 0, xD1, xE1, xF', xG1) := by
              intro w9
              unfold f_X12_forests_73
              obtain ⟨up1, up2⟩ := sub_up 32 s m a (by omega) hs s1 hlt
              have := ih ((s + 2 ^ 32 - m) &&& m) w9 (by omega) (sbs_and _ _) up2
              rw [← int_up (by omega), ← m2] at this
              exact this
            by_cases hb : b = true
            · rw [if_pos hb, if_neg (fun h9 => ?_)]
              · exact next _
              · have h10 := (neq (by omega) (by omega)).mp h9
                exact s2 s hs hlt ⟨fun z hz => by
                  rw [← tb s z (by omega)] at hz
                  rw [m2, ← tb m z m1]
                  exact sbs_iff.mp hs z hz, f2.mp hb, h10⟩
            · rw [if_neg hb]; exact next _
      obtain ⟨xF2, k1⟩ := hfirst N 0 xF1 (by omega) (by unfold sbs; simp) (Nat.zero_le _)
      have k1 : f_X12_forests_44 N xA N (nI w) O (nI mm) 0 (si xB 0 0) xD1 xE1 xF1 xG1 = _ := k1
      rw [k1]
      by_cases hw1 : nI w = 1
      · rw [if_pos hw1, if_pos hw1]
        exact ⟨_, rfl, _, rfl, a2, hI _ _ _ _ _ _ ⟨u2, v2, l2⟩⟩
      · rw [if_neg hw1, if_neg hw1]
        exact ⟨_, rfl, _, rfl, a2', hI _ _ _ _ _ _ ⟨u2, v2, l2⟩⟩
