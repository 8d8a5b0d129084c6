/-! ===== grows: one line of the queue, one forest ===== -/
section
variable {N : Nat} {xA xE : sx_C} {K L A B : Nat} {u v u' v' : Nat → Nat} {f : Nat → Nat} {F : Bool → BS} {x : Nat}
/-- all that stays over the search -/
def mFix (xA xE : sx_C) (K L A B : Nat) (u v u' v' f : Nat → Nat) (F : Bool → BS) : Prop :=
  mNet xA K L A B u v ∧ (∀ k, k < K → ga xE 37 k = nI (f k)) ∧ (∀ k, k < K → f k < K) ∧ (∀ i, u' i < 8 ∧ v' i < 8) ∧ (∀ i, i < L → u' i = f (u i) ∧ v' i = f (v i)) ∧ qTwo (fun _ => rk u' v') F ∧ ∀ t z, F t z = true → z < L
theorem grows_y (hf : 20 ≤ N) (H : mFix xA xE K L A B u v u' v' f F) {k23 : Int32 → Int32 → Int32 → sx_C → sx_C → Option (Bool × sx_C × sx_C)} {k41 : Int32 → Int32 → Int32 → Int32 → Int32 → sx_C → sx_C → Option (Bool × sx_C × sx_C)} {t : Bool} {X hd : Nat} (hXL : X < L) (hX : F t X = false) (hXs : gs u' v' (F t) X = true) :
    ∀ n y (seen : Int32) (size : Nat) (qe pr : Nat → Nat) (xF xG : sx_C), L - y < n → y ≤ L → mfk xG = F → hd < size → qe hd = X → mSea u' v' F x xG qe pr size hd seen → (∀ z, z < y → qC (gs u' v') (F t) X z = true → bt seen z = true) →
      ∃ seen' size' qe' pr' xF' xG', f_X12_grows_98 N k23 k41 xA xE n seen (nI size) (nI hd) (nI X) (nI (cdF t)) (nI y) xF xG = k41 seen' (nI size') (nI hd) (nI X) (nI (cdF t) + 1) xF' xG' ∧ mfk xG' = F ∧ hd < size' ∧ qe' hd = X ∧ mSea u' v' F x xG' qe' pr' size' hd seen' ∧ (∀ z, bt seen z = true → bt seen' z = true) ∧ (∀ z, qC (gs u' v') (F t) X z = true → bt seen' z = true) := by
  obtain ⟨hN, hE, hfK, hk, hu, hTwo, hFL⟩ := H
  obtain ⟨h1, h2, h3, h4, h5, ⟨h6, h7, h8⟩, h9, h10⟩ := id hN
  have M := gs_mat hk
  intro n
  induction n with
  | zero => intro y seen size qe pr xF xG hn; omega
  | succ n ih =>
    intro y seen size qe pr xF xG hn hy hF hh hq hS hC
    unfold f_X12_grows_98
    rw [h4]
    by_cases hc : L ≤ y
    · rw [if_pos ((nle (by omega) (by omega)).mpr hc)]
      refine ⟨seen, size, qe, pr, xF, xG, rfl, hF, hh, hq, hS, fun _ h => h, fun z hz => ?_⟩
      have hzF : F t z = true := by unfold qC at hz; simp at hz; exact hz.1
      exact hC z (by have := hFL t z hzF; omega) hz
    · rw [if_neg (fun h => hc ((nle (by omega) (by omega)).mp h))]
      have hcl := cdF_lt t
      have e1 : nI y + 1 = nI (y + 1) := nadd y 1
      have r0 : sp_rd (ga xG 39) 2 (nI (cdF t)) = some (ga xG 39 (cdF t)) := rd_ok hcl (by decide)
      have hbt : bt (ga xG 39 (cdF t)) = F t := by rw [← hF]; rfl
      simp only [r0, Option.bind_some]
      -- nothing new at y
      have skip : ∀ xF1, (qC (gs u' v') (F t) X y = true → bt seen y = true) → ∃ seen' size' qe' pr' xF' xG', f_X12_grows_162 N k23 k41 (f_X12_grows_98 N k23 k41 xA xE n) xA xE seen (nI size) (nI hd) (nI X) (nI (cdF t)) (nI y) xF1 xG = k41 seen' (nI size') (nI hd) (nI X) (nI (cdF t) + 1) xF' xG' ∧ mfk xG' = F ∧ hd < size' ∧ qe' hd = X ∧ mSea u' v' F x xG' qe' pr' size' hd seen' ∧ (∀ z, bt seen z = true → bt seen' z = true) ∧ (∀ z, qC (gs u' v') (F t) X z = true → bt seen' z = true) := by
        intro xF1 hyC
        unfold f_X12_grows_162 f_X12_grows_163 f_X12_grows_209
        rw [if_pos rfl, e1]
        refine ih (y + 1) seen size qe pr xF1 xG (by omega) (by omega) hF hh hq hS (fun z hz hzC => ?_)
        by_cases e : z = y
        · rw [e] at hzC ⊢; exact hyC hzC
        · exact hC z (by omega) hzC
      by_cases hb : bt (ga xG 39 (cdF t)) y = true
      · rw [if_pos ((shr_ok _ (by omega)).1.mpr hb)]
        have hFy : F t y = true := by rw [← hbt]; exact hb
        by_cases hs : bt seen y = true
        · rw [if_neg (fun h => by rw [(shr_ok _ (by omega)).2, hs] at h; cases h)]
          exact skip xF (fun _ => hs)
        · have hs' : bt seen y = false := by cases h : bt seen y <;> simp_all
          rw [if_pos ((shr_ok _ (by omega)).2.mpr hs')]
          obtain ⟨b, xF1, f1, f2⟩ := isForest_ok hf hN hE hfK hk hu ((ga xG 39 (cdF t) &&& (sp_shl 1 (nI y) ^^^ (-1))) ||| sp_shl 1 (nI X)) xF
          have hset : bL ((ga xG 39 (cdF t) &&& (sp_shl 1 (nI y) ^^^ (-1))) ||| sp_shl 1 (nI X)) L = qI (qE (F t) y) X := by
            funext z
            show (bt _ z && decide (z < L)) = ((F t z && !decide (z = y)) || decide (z = X))
            by_cases hz : z < 32
            · rw [b_or, b_and, h_not _ hz, bit_all (by omega : y < 17), bit_all (by omega : X < 17), hbt]
              by_cases hzL : z < L
              · simp [hzL]
              · have a : F t z = false := by
                  cases h : F t z
                  · rfl
                  · exact absurd (hFL t z h) hzL
                have c : ¬ z = X := by omega
                simp [hzL, a, c]
            · rw [b_big (by omega)]
              have a : F t z = false := by
                cases h : F t z
                · rfl
                · have := hFL t z h; omega
              have c : ¬ z = X := by omega
              simp [a, c]
          rw [hset] at f2
          have hiE : qInd (rk u' v') (qE (F t) y) := q_ind_sub M (hTwo.1 t) (qE_s _ _)
          have hXE : qE (F t) y X = false := by show (F t X && _) = false; rw [hX]; rfl
          have hiff : qInd (rk u' v') (qI (qE (F t) y) X) ↔ gs u' v' (qE (F t) y) X = false := ⟨fun h => q_ind_not M (by omega) h hXE, fun h => (q_ind_ins M hiE (by omega) h).1⟩
          simp only [f1, Option.bind_some]
          by_cases hbb : b = true
          · rw [if_pos hbb]
            have harc : mArc u' v' F t (qe hd) y := by rw [hq]; exact ⟨hFy, hX, hXs, hiff.mp (f2.mp hbb)⟩
            obtain ⟨a1, a2⟩ := msea_add hS hh (by omega : y < 17) hs' harc
            unfold f_X12_grows_163 f_X12_grows_209
            rw [if_neg (by decide), if_pos (in_ok (by omega) (by decide)), if_pos (in_ok (by omega) (by decide)), if_pos (in_ok a1 (by decide)), nI_clamp (by omega), nI_clamp (by omega), e1, show nI size + 1 = nI (size + 1) from nadd size 1]
            rw [hq] at a2
            have hmk : mfk (sa (sa (sa xG 41 y (nI X)) 42 y (nI (cdF t))) 40 size (nI y)) = F := by
              rw [← hF]
              funext s z
              show bt (ga (sa (sa (sa xG 41 y (nI X)) 42 y (nI (cdF t))) 40 size (nI y)) 39 (cdF s)) z = bt (ga xG 39 (cdF s)) z
              rw [ga_sa, if_neg (by decide), ga_sa, if_neg (by decide), ga_sa, if_neg (by decide)]
            have hb2 : ∀ z, bt (seen ||| sp_shl 1 (nI y)) z = (bt seen z || decide (z = y)) := fun z => by rw [b_or, bit_all (by omega : y < 17)]
            obtain ⟨seen', size', qe', pr', xF', xG', c1, c2, c3, c4, c5, c6, c7⟩ := ih (y + 1) _ (size + 1) (fun t => if t = size then y else qe t) _ xF1 _ (by omega) (by omega) hmk (by omega) (by show (if hd = size then y else qe hd) = X; rw [if_neg (by omega)]; exact hq) a2 (fun z hz hzC => by
              rw [hb2]
              by_cases e : z = y
              · simp [e]
              · rw [hC z (by omega) hzC]; rfl)
            exact ⟨seen', size', qe', pr', xF', xG', c1, c2, c3, c4, c5, fun z hz => c6 z (by rw [hb2, hz]; rfl), c7⟩
          · rw [if_neg hbb]
            refine skip xF1 (fun hyC => ?_)
            exfalso
            unfold qC at hyC
            simp at hyC
            exact hbb (f2.mpr (hiff.mpr hyC.2))
      · rw [if_neg (fun h => hb ((shr_ok _ (by omega)).1.mp h))]
        refine skip xF (fun hyC => ?_)
        exfalso
        unfold qC at hyC
        simp at hyC
        rw [hbt] at hb
        exact hb hyC.1
end
