/-! ===== bring: all of it ===== -/
def g234 (a b : sx_C) : Prop := (∀ k, gi a k = gi b k) ∧ ∀ k, k ≠ 2 → k ≠ 3 → k ≠ 4 → ga a k = ga b k
theorem g234_r (a : sx_C) : g234 a a := ⟨fun _ => rfl, fun _ _ _ _ => rfl⟩
theorem g234_t {a b c : sx_C} (h : g234 a b) (h2 : g234 b c) : g234 a c := ⟨fun k => (h.1 k).trans (h2.1 k), fun k x y z => (h.2 k x y z).trans (h2.2 k x y z)⟩
theorem g234_4 {a b : sx_C} (h : f4 a b) : g234 a b := ⟨h.1, fun k _ _ h4 => h.2 k h4⟩
theorem g234_net {a b : sx_C} {u' v' : Nat → Nat} (h : g234 a b) (hn : fNet b u' v') : fNet a u' v' := ⟨fun i hi => by rw [h.2 0 (by decide) (by decide) (by decide), h.2 1 (by decide) (by decide) (by decide)]; exact hn.1 i hi, hn.2⟩
theorem g234_mk {a b : sx_C} (h : g234 a b) : fmk a = fmk b := by
  funext t
  cases t
  · show bt (gi a 6) = bt (gi b 6); rw [h.1]
  · show bt (gi a 5) = bt (gi b 5); rw [h.1]
theorem rB_free {r : BS → Nat} {sp : BS → Nat → Bool} (M : qM r sp) {B S : BS} (h : qInd (rB r B) S) {z : Nat} (hz : z < 32) (hS : S z = true) : B z = false := by
  have h1 := q_ind_era (rB_mat M B) hz h hS
  unfold sB at h1
  cases hb : B z
  · rfl
  · rw [hb] at h1; simp at h1
section
variable {u' v' : Nat → Nat} {N : Nat} {Bq : BS} {F : Bool → BS}
/-- what one ring gives -/
def qRg (u' v' : Nat → Nat) (Bq : BS) (F : Bool → BS) (t : Bool) (y : Nat) (r : Int32) : Prop := r ≠ -1 ∧ (∀ z, bt r z = true → z < 17 ∧ qArc u' v' Bq F t y z) ∧ (F t y = true ∨ (ss u' v' Bq t (F t) y = true ∧ ∀ z, qC (ss u' v' Bq t) (F t) y z = true → bt r z = true))
theorem rg_zero {t : Bool} {y : Nat} (h : F t y = true ∨ (t = true ∧ Bq y = true)) : qRg u' v' Bq F t y 0 := by
  refine ⟨by decide, fun z hz => (by rw [b_0] at hz; cases hz), ?_⟩
  rcases h with h | ⟨h1, h2⟩
  · exact Or.inl h
  · subst h1
    right
    refine ⟨?_, fun z hz => ?_⟩
    · show (Bq y || _) = true
      rw [h2]; rfl
    · unfold qC at hz
      have : ss u' v' Bq true (qE (F true) z) y = true := by show (Bq y || _) = true; rw [h2]; rfl
      rw [this] at hz
      simp at hz
theorem rg_ring (hk : ∀ i, u' i < 8 ∧ v' i < 8) (hB : ∀ z, F true z = true → Bq z = false) (h17 : ∀ t z, F t z = true → z < 17) {t : Bool} {y : Nat} {res : Int32} (hy : F t y = false) (hyb : t = true → Bq y = false) (hr : (gs u' v' (F t) y = false ∧ res = -1) ∨ (gs u' v' (F t) y = true ∧ res ≠ -1 ∧ ∀ z, bt res z = qC (gs u' v') (F t) y z)) :
    (res = -1 ∧ F t y = false ∧ ss u' v' Bq t (F t) y = false) ∨ qRg u' v' Bq F t y res := by
  have hss : ∀ S : BS, qS S (F t) → ss u' v' Bq t S y = gs u' v' S y := fun S hS => by
    cases t
    · rfl
    · show (Bq y || gs u' v' (qD S Bq) y) = _
      rw [hyb rfl]
      have e : qD S Bq = S := by
        funext z
        show (S z && !Bq z) = S z
        cases hz : S z
        · rfl
        · rw [hB z (hS z hz)]; rfl
      rw [e]; rfl
  have hC : ∀ z, qC (ss u' v' Bq t) (F t) y z = qC (gs u' v') (F t) y z := fun z => by
    unfold qC
    rw [hss _ (qE_s _ _)]
  rcases hr with ⟨h1, h2⟩ | ⟨h1, h2, h3⟩
  · exact Or.inl ⟨h2, hy, by rw [hss _ (qS_r _)]; exact h1⟩
  · right
    refine ⟨h2, fun z hz => ?_, Or.inr ⟨by rw [hss _ (qS_r _)]; exact h1, fun z hz => by rw [h3, ← hC]; exact hz⟩⟩
    rw [h3] at hz
    unfold qC at hz
    simp at hz
    exact ⟨h17 t z hz.1, hz.1, hy, by rw [hss _ (qS_r _)]; exact h1, by rw [hss _ (qE_s _ _)]; exact hz.2⟩
/-- what bring ends with -/
def qEnd (u' v' : Nat → Nat) (Bq : BS) (F : Bool → BS) (x : Nat) (uF0 : sx_C) (o : Option (Bool × sx_C)) : Prop :=
  (∃ uF', o = some (false, uF') ∧ g234 uF' uF0 ∧ ∃ S : BS, qTight (rr u' v' Bq) F S ∧ S x = true) ∨
  (∃ uF', o = some (true, uF') ∧ (∀ k, k ≠ 5 → k ≠ 6 → gi uF' k = gi uF0 k) ∧ (∀ k, k ≠ 2 → k ≠ 3 → k ≠ 4 → ga uF' k = ga uF0 k) ∧ qTwo (rr u' v' Bq) (fmk uF') ∧ ∀ z, qUn (fmk uF') z = qI (qUn F) x z)
theorem bring_loop (hN20 : 20 ≤ N) {x : Nat} {uF0 : sx_C} (hN0 : fNet uF0 u' v') (hF0 : fmk uF0 = F) (hB0 : bt (gi uF0 8) = Bq) (hTwo : qTwo (rr u' v' Bq) F) (h17 : ∀ t z, F t z = true → z < 17) (hx : ∀ t, F t x = false) :
    ∀ n size head (seen : Int32) (uF : sx_C) (qe pr : Nat → Nat), 17 - head < n → g234 uF uF0 → qSea u' v' Bq F x uF qe pr size head seen → qEnd u' v' Bq F x uF0 (f_X0_bring_47 N n seen (nI size) (nI head) uF) := by
  have M := rr_mat hN0.2 Bq
  have hB : ∀ z, F true z = true → Bq z = false := fun z hz => rB_free (gs_mat hN0.2) (hTwo.1 true) (by have := h17 true z hz; omega) hz
  have hI : ∀ t, qInd (rk u' v') (F t) := fun t => by
    cases t
    · exact hTwo.1 false
    · have h := hTwo.1 true
      unfold qInd at *
      have h : rk u' v' (qD (F true) Bq) = qc (F true) := h
      have e : qD (F true) Bq = F true := by
        funext z
        show (F true z && !Bq z) = F true z
        cases hz : F true z
        · rfl
        · rw [hB z hz]; rfl
      rwa [e] at h
  intro n
  induction n with
  | zero => intro size head seen uF qe pr hn; omega
  | succ n ih =>
    intro size head seen uF qe pr hn hg hS
    obtain ⟨⟨s1, s2, s3, s4⟩, h1, h2, h3, ⟨h4, h5⟩, h6, h7, h8⟩ := id hS
    unfold f_X0_bring_47
    by_cases hc : size ≤ head
    · rw [if_pos ((nle (by omega) (by omega)).mpr hc)]
      left
      refine ⟨uF, rfl, hg, bt seen, q_closed M hTwo (fun t y hy hs => ?_), (h3 x).mpr ⟨0, s3, h4⟩⟩
      obtain ⟨t', ht', e⟩ := (h3 y).mp hs
      rcases h8 t' (by omega) t with h9 | ⟨h9, h10⟩
      · left; rw [← e]; exact h9
      · right; rw [← e]; exact ⟨h9, h10⟩
    · have hh : head < size := by omega
      have e17 : (17 : Int32) = nI 17 := rfl
      rw [if_neg (fun h => hc ((nle (by omega) (by omega)).mp h)), e17, if_neg (fun h => by have := (nle (by omega) (by omega)).mp h; omega), rd_ok (by omega) (by decide), (h1 head hh).2]
      obtain ⟨y, hyd⟩ : ∃ y, y = qe head := ⟨_, rfl⟩
      have hy17 : y < 17 := by rw [hyd]; exact (h1 head hh).1
      rw [← hyd]
      have hmk : ∀ w : sx_C, g234 w uF0 → fmk w = F := fun w hw => by rw [g234_mk hw, hF0]
      have hg5 : ∀ w : sx_C, g234 w uF0 → bt (gi w 5) = F true := fun w hw => by rw [← hmk w hw]; rfl
      have hg6 : ∀ w : sx_C, g234 w uF0 → bt (gi w 6) = F false := fun w hw => by rw [← hmk w hw]; rfl
      -- the way is found
      have found : ∀ (w : sx_C) (t : Bool) (en : Int32), en = (if t = true then 1 else 0) → g234 w uF0 → (∀ k, k ≠ 4 → ga w k = ga uF k) → F t y = false → ss u' v' Bq t (F t) y = false → qEnd u' v' Bq F x uF0 (Option.bind (f_X0_shift N (nI y) en w) (fun q => some (true, q))) := by
        intro w t en hen hw hga hy1 hy2
        have hS' : qSea u' v' Bq F x w qe pr size head seen := by
          have e2 : ga w 2 = ga uF 2 := hga 2 (by decide)
          have e3 : ga w 3 = ga uF 3 := hga 3 (by decide)
          unfold qSea
          rw [e2, e3]
          exact hS
        obtain ⟨k, pa, fo, w1, w2, w3, w4, w5, w6, w7, w8, w9, w10⟩ := sea_way hS' hTwo.2 hx hh (t := t) ⟨by rw [← hyd]; exact hy1, by rw [← hyd]; exact hy2⟩
        have hFw := hmk w hw
        obtain ⟨uF', q1, q2, q3⟩ := shift_ok hN20 (uF := w) w1 w5 w6 (by rw [hFw]; exact hTwo.2) w7 w8 (by rw [hFw]; exact w9)
        rw [hen, ← w3, hyd, ← w2, q1]
        right
        have hG : fmk uF' = qG F pa fo k (k + 1) := by
          funext t z
          rw [q3 t z, hFw]
        obtain ⟨g1, g2⟩ := qG_two M hTwo w10
        refine ⟨uF', rfl, fun q h5 h6 => by rw [q2.1 q h5 h6]; exact hw.1 q, fun q a b c => by rw [q2.2 q]; exact hw.2 q a b c, by rw [hG]; exact g1, fun z => by rw [hG, g2 z, w4]⟩
      -- both rings are there
      have both : ∀ (w : sx_C) (r1 r2 : Int32), g234 w uF0 → (∀ k, k ≠ 4 → ga w k = ga uF k) → qRg u' v' Bq F true y r1 → qRg u' v' Bq F false y r2 → qEnd u' v' Bq F x uF0 (Option.bind (f_X0_driven N ((r1 ||| r2) &&& (seen ^^^ (-1))) (nI y) (nI size) w) (fun q13 => f_X0_bring_47 N n (seen ||| ((r1 ||| r2) &&& (seen ^^^ (-1)))) q13.1 (nI head + 1) q13.2)) := by
        intro w r1 r2 hw hga hr1 hr2
        obtain ⟨fr, hfrd⟩ : ∃ fr, fr = (r1 ||| r2) &&& (seen ^^^ (-1)) := ⟨_, rfl⟩
        rw [← hfrd]
        have hfb : ∀ z, bt fr z = true ↔ (bt r1 z = true ∨ bt r2 z = true) ∧ bt seen z = false := fun z => by
          by_cases hz : z < 32
          · rw [hfrd, b_and, b_or, h_not _ hz]
            cases bt r1 z <;> cases bt r2 z <;> cases bt seen z <;> simp
          · rw [b_big (by omega), b_big (by omega), b_big (by omega)]; simp
        have hfr17 : ∀ z, bt fr z = true → z < 17 := fun z hz => by
          rcases ((hfb z).mp hz).1 with h | h
          · exact (hr1.2.1 z h).1
          · exact (hr2.2.1 z h).1
        have harc : ∀ z, bt fr z = true → ∃ f, qArc u' v' Bq F f (qe head) z := fun z hz => by
          rcases ((hfb z).mp hz).1 with h | h
          · exact ⟨true, by rw [← hyd]; exact (hr1.2.1 z h).2⟩
          · exact ⟨false, by rw [← hyd]; exact (hr2.2.1 z h).2⟩
        have hin : ∀ z, (bt r1 z = true ∨ bt r2 z = true) → bt (seen ||| fr) z = true := fun z hz => by
          rw [b_or]
          cases hs : bt seen z
          · rw [(hfb z).mpr ⟨hz, hs⟩]; rfl
          · rfl
        have hproc : ∀ f, F f (qe head) = true ∨ (ss u' v' Bq f (F f) (qe head) = true ∧ ∀ z, qC (ss u' v' Bq f) (F f) (qe head) z = true → bt (seen ||| fr) z = true) := fun f => by
          rw [← hyd]
          cases f
          · rcases hr2.2.2 with h | ⟨h, h'⟩
            · exact Or.inl h
            · exact Or.inr ⟨h, fun z hz => hin z (Or.inr (h' z hz))⟩
          · rcases hr1.2.2 with h | ⟨h, h'⟩
            · exact Or.inl h
            · exact Or.inr ⟨h, fun z hz => hin z (Or.inl (h' z hz))⟩
        have hcnt : size + fb_ct (bt fr) 17 ≤ 17 := by
          have hcu : fb_ct (fun k => bt seen k || bt fr k) 17 = fb_ct (bt seen) 17 + fb_ct (bt fr) 17 := fb_ct_or (fun k _ hk => by
            have := ((hfb k).mp hk.2).2
            rw [this] at hk; exact absurd hk.1 (by decide))
          have := fb_ct_le (fun k => bt seen k || bt fr k) 17
          omega
        obtain ⟨uF', d1, d2, d3, d4, d5, d6⟩ := driven_ok hN20 fr (nI y) hcnt w
        rw [d1]
        have e2 : ga w 2 = ga uF 2 := hga 2 (by decide)
        have e3 : ga w 3 = ga uF 3 := hga 3 (by decide)
        obtain ⟨-, qe', pr', hS2⟩ := sea_more (uF' := uF') hS hh hfr17 (fun z hz => ((hfb z).mp hz).2) harc hproc (fun z hz => by rw [d4 z hz, e2, ← hyd]) (fun t ht => by rw [d5 t ht, e3]) d6
        have e1 : nI head + 1 = nI (head + 1) := nadd head 1
        show qEnd u' v' Bq F x uF0 (f_X0_bring_47 N n (seen ||| fr) (nI (size + fb_ct (bt fr) 17)) (nI head + 1) uF')
        rw [e1]
        exact ih _ _ _ _ qe' pr' (by omega) (g234_t ⟨d2, fun k a b _ => d3 k a b⟩ hw) hS2
      -- the second ring
      have second : ∀ (w : sx_C) (r1 : Int32), g234 w uF0 → (∀ k, k ≠ 4 → ga w k = ga uF k) → qRg u' v' Bq F true y r1 → qEnd u' v' Bq F x uF0 (f_X0_bring_100 N (f_X0_bring_47 N n) seen (nI size) (nI head) (nI y) r1 w) := by
        intro w r1 hw hga hr1
        unfold f_X0_bring_100
        rw [if_neg hr1.1, has_ok _ (by omega), hg6 w hw]
        show qEnd u' v' Bq F x uF0 (if F false y = true then _ else _)
        by_cases hy2 : F false y = true
        · rw [if_pos hy2]
          unfold f_X0_bring_143
          rw [if_neg (by decide)]
          exact both w r1 0 hw hga hr1 (rg_zero (Or.inl hy2))
        · rw [if_neg hy2]
          have hy2' : F false y = false := by cases h : F false y <;> simp_all
          obtain ⟨res, w', q1, q2, q3⟩ := ring_ok hN20 (FF := gi w 6) (g234_net hw hN0) (fun i hi => by
            rw [hg6 w hw]
            cases h : F false i
            · rfl
            · have := h17 false i h; omega) hy17 (by rw [hg6 w hw]; exact hI false)
          rw [q1]
          rw [hg6 w hw] at q3
          show qEnd u' v' Bq F x uF0 (f_X0_bring_143 N (f_X0_bring_47 N n) seen (nI size) (nI head) (nI y) r1 res w')
          unfold f_X0_bring_143
          have hw' : g234 w' uF0 := g234_t (g234_4 q2) hw
          have hga' : ∀ k, k ≠ 4 → ga w' k = ga uF k := fun k hk => (q2.2 k hk).trans (hga k hk)
          rcases rg_ring hN0.2 hB h17 (t := false) hy2' (fun h => by cases h) q3 with ⟨a, b, c⟩ | a
          · rw [if_pos a]
            exact found w' false 0 rfl hw' hga' b c
          · rw [if_neg a.1]
            exact both w' r1 res hw' hga' hr1 a
      -- the first ring
      show qEnd u' v' Bq F x uF0 (Option.bind (f_X11_has (gi uF 5 ||| gi uF 8) (nI y)) _)
      rw [has_ok _ (by omega), b_or, hg5 uF hg, show bt (gi uF 8) y = Bq y by rw [hg.1, hB0]]
      show qEnd u' v' Bq F x uF0 (if (F true y || Bq y) = true then _ else _)
      by_cases hy1 : (F true y || Bq y) = true
      · rw [if_pos hy1]
        refine second uF 0 hg (fun _ _ => rfl) (rg_zero ?_)
        cases h : F true y
        · rw [h] at hy1; exact Or.inr ⟨rfl, by simpa using hy1⟩
        · exact Or.inl rfl
      · rw [if_neg hy1]
        have hy1' : F true y = false ∧ Bq y = false := by
          cases h : F true y <;> cases h' : Bq y <;> simp_all
        obtain ⟨res, w', q1, q2, q3⟩ := ring_ok hN20 (FF := gi uF 5) (g234_net hg hN0) (fun i hi => by
          rw [hg5 uF hg]
          cases h : F true i
          · rfl
          · have := h17 true i h; omega) hy17 (by rw [hg5 uF hg]; exact hI true)
        rw [q1]
        rw [hg5 uF hg] at q3
        show qEnd u' v' Bq F x uF0 (f_X0_bring_100 N (f_X0_bring_47 N n) seen (nI size) (nI head) (nI y) res w')
        have hw' : g234 w' uF0 := g234_t (g234_4 q2) hg
        rcases rg_ring hN0.2 hB h17 (t := true) hy1'.1 (fun _ => hy1'.2) q3 with ⟨a, b, c⟩ | a
        · unfold f_X0_bring_100
          rw [if_pos a]
          exact found w' true 1 rfl hw' (fun k hk => q2.2 k hk) b c
        · exact second w' res hw' (fun k hk => q2.2 k hk) a
end
