/-! ===== the history ===== -/
def hent (L : Nat) (a b : Int32) : Prop := (∃ i, i < L ∧ a = nI i ∧ b = nI i) ∨ (a = -1 ∧ b = -2)
def sHist (L : Nat) (uH xA : sx_C) : Prop := ∃ s e, s ≤ 40 ∧ e < 40 ∧ gi uH 2 = nI s ∧ gi xA 14 = nI s ∧ gi uH 1 = nI e ∧ ∀ k, k < s → hent L (ga uH 0 ((e + k) % 40)) (ga xA 13 k)
theorem slot_dec : ∀ n, n < 81 → f_J9_floorMod_7cf53 (nI n) 40 = some (nI (n % 40)) := by decide +kernel
theorem slot_ok {uH : sx_C} {e k : Nat} (he : gi uH 1 = nI e) (h : e + k < 81) : f_X2_slotOf uH (nI k) = some (nI ((e + k) % 40)) := by
  unfold f_X2_slotOf
  rw [he, nadd, slot_dec _ h]
  rfl
theorem hist_add {N L : Nat} (hf : 300 ≤ N) {uH xA : sx_C} (h : sHist L uH xA) {a b : Int32} (hab : hent L a b) : ∃ uH' xA', f_X2_add a uH = some uH' ∧ f_X12_writes N b xA = some xA' ∧ sHist L uH' xA' ∧ gi xA' 11 = 1 - gi xA 11 ∧ (∀ k, k ≠ 14 → k ≠ 11 → gi xA' k = gi xA k) ∧ ∀ k, k ≠ 13 → ga xA' k = ga xA k := by
  obtain ⟨s, e, h1, h2, h3, h4, h5, h6⟩ := h
  unfold f_X2_add f_X12_writes
  rw [h3, slot_ok h5 (by omega), Option.bind_some, if_pos (in_ok (by omega) (by decide)), nI_clamp (by omega), h4]
  have q2 : gi (sa uH 0 ((e + s) % 40) a) 2 = nI s := h3
  have q1 : gi (sa uH 0 ((e + s) % 40) a) 1 = nI e := h5
  rw [q2]
  have g0 : ∀ z, ga (sa uH 0 ((e + s) % 40) a) 0 z = if z = (e + s) % 40 then a else ga uH 0 z := fun z => ga_up _ _ _ _ _
  have e40 : (40 : Int32) = nI 40 := rfl
  rw [e40]
  by_cases hs : s = 40
  · subst hs
    rw [if_pos ((nle (by omega) (by omega)).mpr (Nat.le_refl 40)), if_pos rfl]
    have q3 := slot_ok (k := 1) q1 (by omega)
    have q3 : f_X2_slotOf (sa uH 0 ((e + 40) % 40) a) 1 = some (nI ((e + 1) % 40)) := q3
    rw [q3, Option.bind_some]
    -- the model's shift
    have loop : ∀ n i (w : sx_C), 39 - i < n → i ≤ 39 → (∀ k, gi w k = gi xA k) → (∀ k, k ≠ 13 → ga w k = ga xA k) → (∀ k, k < 40 → ga w 13 k = if k < i then ga xA 13 (k + 1) else ga xA 13 k) → ∃ xA', f_X12_writes_11 N n b (nI i) w = some xA' ∧ gi xA' 14 = nI 40 ∧ (∀ k, k < 40 → ga xA' 13 k = if k = 39 then b else ga xA 13 (k + 1)) ∧ gi xA' 11 = 1 - gi xA 11 ∧ (∀ k, k ≠ 14 → k ≠ 11 → gi xA' k = gi xA k) ∧ ∀ k, k ≠ 13 → ga xA' k = ga xA k := by
      intro n
      induction n with
      | zero => intro i w hn; omega
      | succ n ih =>
        intro i w hn hi hg ha hr
        unfold f_X12_writes_11
        rw [show nI i + 1 = nI (i + 1) from nadd i 1, e40]
        by_cases hc : 40 ≤ i + 1
        · rw [if_pos ((nle (by omega) (by omega)).mpr hc)]
          have hi39 : i = 39 := by omega
          unfold f_X12_writes_49
          have w14 : gi (si w 14 (gi w 14 - 1)) 14 = nI 39 := by
            rw [gi_si, if_pos rfl, hg, h4]; rfl
          rw [w14, if_pos (in_ok (by omega) (by decide)), nI_clamp (by omega)]
          have w14' : gi (sa (si w 14 (gi w 14 - 1)) 13 39 b) 14 = nI 39 := w14
          rw [w14', show nI 39 + 1 = nI 40 from rfl]
          refine ⟨_, rfl, rfl, fun k hk => ?_, ?_, fun k k1 k2 => ?_, fun k k1 => ?_⟩
          · rw [ga_si, ga_si, ga_up, ga_si, hr k hk, hi39]
            by_cases e1 : k = 39
            · rw [if_pos e1, if_pos e1]
            · rw [if_neg e1, if_neg e1, if_pos (by omega)]
          · rw [gi_si, if_pos rfl, gi_si, if_neg (by decide), gi_sa, gi_si, if_neg (by decide), hg]
          · rw [gi_si, if_neg k2, gi_si, if_neg k1, gi_sa, gi_si, if_neg k1, hg]
          · rw [ga_si, ga_si, ga_sa, if_neg k1, ga_si, ha k k1]
        · rw [if_neg (fun h => hc ((nle (by omega) (by omega)).mp h)), rd_ok (by omega) (by decide), Option.bind_some, if_pos (in_ok (by omega) (by decide)), nI_clamp (by omega)]
          refine ih (i + 1) _ (by omega) (by omega) (fun k => hg k) (fun k hk => by rw [ga_sa, if_neg hk]; exact ha k hk) (fun k hk => ?_)
          rw [ga_up]
          by_cases e1 : k = i
          · rw [if_pos e1, if_pos (by omega), hr (i + 1) (by omega), if_neg (by omega), e1]
          · rw [if_neg e1, hr k hk]
            by_cases e2 : k < i
            · rw [if_pos e2, if_pos (by omega)]
            · rw [if_neg e2, if_neg (by omega)]
    obtain ⟨xA', l1, l2, l3, l4, l5, l6⟩ := loop N 0 xA (by omega) (by omega) (fun _ => rfl) (fun _ _ => rfl) (fun k hk => by rw [if_neg (by omega)])
    refine ⟨_, xA', rfl, l1, ⟨40, (e + 1) % 40, by omega, by omega, ?_, l2, rfl, fun k hk => ?_⟩, l4, l5, l6⟩
    · rw [gi_si, if_neg (by decide)]; exact h3
    · rw [ga_si, g0, l3 k hk]
      by_cases e1 : k = 39
      · rw [if_pos (by omega), if_pos e1]; exact hab
      · rw [if_neg (by omega), if_neg e1, show ((e + 1) % 40 + k) % 40 = (e + (k + 1)) % 40 by omega]
        exact h6 (k + 1) (by omega)
  · rw [if_neg (fun h => by have := (nle (by omega) (by omega)).mp h; omega), if_neg (fun h => hs ((neq (by omega) (by omega)).mp h))]
    unfold f_X12_writes_49
    rw [h4, if_pos (in_ok (by omega) (by decide)), nI_clamp (by omega)]
    have w14 : gi (sa xA 13 s b) 14 = nI s := h4
    rw [w14, show nI s + 1 = nI (s + 1) from nadd s 1]
    refine ⟨_, _, rfl, rfl, ⟨s + 1, e, by omega, h2, rfl, rfl, ?_, fun k hk => ?_⟩, ?_, fun k k1 k2 => ?_, fun k k1 => ?_⟩
    · rw [gi_si, if_neg (by decide)]; exact h5
    · rw [ga_si, g0, ga_si, ga_si, ga_up]
      by_cases e1 : k = s
      · rw [if_pos (by rw [e1]), if_pos e1]; exact hab
      · rw [if_neg (by omega), if_neg e1]; exact h6 k (by omega)
    · rw [gi_si, if_pos rfl, gi_si, if_neg (by decide), gi_sa]
    · rw [gi_si, if_neg k2, gi_si, if_neg k1, gi_sa]
    · rw [ga_si, ga_si, ga_sa, if_neg k1]
/-! ===== the invariant ===== -/
def sTape (uG xA : sx_C) : Prop := ∃ t, t ≤ 600 ∧ gi uG 11 = nI t ∧ gi xA 2 = nI t ∧ ∀ i, i < t → ga xA 1 i = ga uG 0 i &&& 255
abbrev sLK : Type := Nat → Nat → Nat → (Nat → Nat) → (Nat → Nat) → sx_C → Prop
def sRest (LK : sLK) (L A B : Nat) (u v : Nat → Nat) (uG uN uL uH xA : sx_C) : Prop := sHist L uH xA ∧ sTape uG xA ∧ (gi xA 34 = gi uG 15 ∧ gi xA 35 = gi uG 16 ∧ gi xA 12 = gi uN 6) ∧ LK L A B u v uL
def sI (LK : sLK) : sx_I := fun uG uN _ _ uF _ uL _ _ _ uH xA _ _ _ _ _ _ _ _ _ _ _ => ∃ K L A B u v, sCore K L A B u v uG uN uF xA ∧ sRest LK L A B u v uG uN uL uH xA
theorem sCore_F {K L A B : Nat} {u v : Nat → Nat} {uG uN uF uF' xA : sx_C} (h : sCore K L A B u v uG uN uF xA) (h2 : ∃ u' v', fNet uF' u' v') : sCore K L A B u v uG uN uF' xA := ⟨h.1, h.2.1, h2, h.2.2.2⟩
theorem mEq_net {K L A B : Nat} {u v : Nat → Nat} {xA xA' : sx_C} (h : mEq L xA' xA) (hM : mNet xA K L A B u v) : mNet xA' K L A B u v := by
  obtain ⟨h1, h2, h3, h4, h5, h6, h9, h10⟩ := hM
  refine ⟨by rw [h.1]; exact h1, by rw [h.1]; exact h2, by rw [h.1]; exact h3, by rw [h.1]; exact h4, fun i hi => ?_, h6, h9, h10⟩
  rw [(h.2.2 i hi).1, (h.2.2 i hi).2]; exact h5 i hi
theorem sCore_m {K L A B : Nat} {u v : Nat → Nat} {uG uN uF xA xA' : sx_C} (h : sCore K L A B u v uG uN uF xA) (h2 : mEq L xA' xA) : sCore K L A B u v uG uN uF xA' := by
  refine ⟨h.1, mEq_net h2 h.2.1, h.2.2.1, ?_, h.2.2.2.2⟩
  rw [h2.1, h2.1, h2.1]; exact h.2.2.2.1
theorem sRest_m {LK : sLK} {L A B : Nat} {u v : Nat → Nat} {uG uN uL uH xA xA' : sx_C} (h : sRest LK L A B u v uG uN uL uH xA) (h2 : mEq L xA' xA) : sRest LK L A B u v uG uN uL uH xA' := by
  obtain ⟨⟨s, e, a1, a2, a3, a4, a5, a6⟩, ⟨t, b1, b2, b3, b4⟩, c, d⟩ := h
  refine ⟨⟨s, e, a1, a2, a3, by rw [h2.1]; exact a4, a5, by rw [h2.2.1 13 (by decide) (by decide)]; exact a6⟩, ⟨t, b1, b2, by rw [h2.1]; exact b3, by rw [h2.2.1 1 (by decide) (by decide)]; exact b4⟩, ?_, d⟩
  rw [h2.1, h2.1, h2.1]; exact c
section
variable {N : Nat} {LK : sLK}
theorem lo_fault : LO_fault N (sI LK) := by
  rintro uG uN uD uR uF uP uL uT uA uM uH xA xB xC xD xE xF xG xH xI xJ xK xL x ⟨K, L, A, B, u, v, hC, hR⟩
  obtain ⟨e1, e2, e3⟩ := id hR.2.2.1
  unfold f_X11_fault f_X12_fault
  rw [e1, e2]
  by_cases h0 : x = 0
  · rw [if_pos h0, if_pos h0]; exact ⟨_, rfl, _, rfl, rfl, K, L, A, B, u, v, hC, hR⟩
  · by_cases h1 : x = 1
    · rw [if_neg h0, if_neg h0, if_pos h1, if_pos h1]; exact ⟨_, rfl, _, rfl, rfl, K, L, A, B, u, v, hC, hR⟩
    · rw [if_neg h0, if_neg h0, if_neg h1, if_neg h1]; exact ⟨_, rfl, _, rfl, rfl, K, L, A, B, u, v, hC, hR⟩
theorem lo_count : LO_count N (sI LK) := by
  rintro uG uN uD uR uF uP uL uT uA uM uH xA xB xC xD xE xF xG xH xI xJ xK xL x ⟨K, L, A, B, u, v, hC, hR⟩
  obtain ⟨e1, e2, e3⟩ := id hR.2.2.1
  obtain ⟨t, b1, b2, b3, b4⟩ := id hR.2.1
  obtain ⟨n1, n2, n3, n4, -⟩ := id hC.1
  obtain ⟨m1, m2, m3, m4, -⟩ := id hC.2.1
  unfold f_X11_count f_X12_count
  rw [n1, n2, n3, n4, m1, m2, m3, m4, e3, b2, b3]
  have hI : ∀ xB', sI LK uG uN uD uR uF uP uL uT uA uM uH xA xB' xC xD xE xF xG xH xI xJ xK xL := fun _ => ⟨K, L, A, B, u, v, hC, hR⟩
  by_cases h0 : x = 0
  · rw [if_pos h0, if_pos h0]; exact ⟨_, rfl, _, rfl, rfl, hI _⟩
  · rw [if_neg h0, if_neg h0]
    by_cases h1 : x = 1
    · rw [if_pos h1, if_pos h1]; exact ⟨_, rfl, _, rfl, rfl, hI _⟩
    · rw [if_neg h1, if_neg h1]
      by_cases h2 : x = 2
      · rw [if_pos h2, if_pos h2]; exact ⟨_, rfl, _, rfl, rfl, hI _⟩
      · rw [if_neg h2, if_neg h2]
        by_cases h3 : x = 3
        · rw [if_pos h3, if_pos h3]; exact ⟨_, rfl, _, rfl, rfl, hI _⟩
        · rw [if_neg h3, if_neg h3]
          by_cases h4 : x = 4
          · rw [if_pos h4, if_pos h4]; exact ⟨_, rfl, _, rfl, rfl, hI _⟩
          · rw [if_neg h4, if_neg h4]
            by_cases h5 : x = 5
            · rw [if_pos h5, if_pos h5]; exact ⟨_, rfl, _, rfl, rfl, hI _⟩
            · rw [if_neg h5, if_neg h5]; exact ⟨_, rfl, _, rfl, rfl, hI _⟩
theorem lo_outcome (hf : 300 ≤ N) : LO_outcome N (sI LK) := by
  rintro uG uN uD uR uF uP uL uT uA uM uH xA xB xC xD xE xF xG xH xI xJ xK xL ⟨K, L, A, B, u, v, hC, hR⟩
  obtain ⟨r1, h1, r2, h2, h3, h4⟩ := o_outcome hf hC xB xD xE xF xG
  exact ⟨r1, h1, r2, h2, h3, K, L, A, B, u, v, sCore_F hC h4, hR⟩
theorem lo_idle (hf : 300 ≤ N) : LO_idle N (sI LK) := by
  rintro uG uN uD uR uF uP uL uT uA uM uH xA xB xC xD xE xF xG xH xI xJ xK xL x ⟨K, L, A, B, u, v, hC, hR⟩
  obtain ⟨r1, h1, r2, h2, h3, h4⟩ := o_idle hf hC x xB xD xE xF xG
  exact ⟨r1, h1, r2, h2, h3, K, L, A, B, u, v, sCore_F hC h4, hR⟩
theorem lo_ifLine (hf : 300 ≤ N) : LO_ifLine N (sI LK) := by
  rintro uG uN uD uR uF uP uL uT uA uM uH xA xB xC xD xE xF xG xH xI xJ xK xL x y ⟨K, L, A, B, u, v, hC, hR⟩
  obtain ⟨r1, h1, r2, h2, h3, h4⟩ := o_ifLine hf hC x y xB xD xE xF xG
  exact ⟨r1, h1, r2, h2, h3, K, L, A, B, u, v, sCore_F hC h4, hR⟩
theorem lo_wins (hf : 300 ≤ N) : LO_wins N (sI LK) := by
  rintro uG uN uD uR uF uP uL uT uA uM uH xA xB xC xD xE xF xG xH xI xJ xK xL x y ⟨K, L, A, B, u, v, hC, hR⟩
  obtain ⟨r1, h1, r2, h2, h3, h4⟩ := o_wins hf hC x y xB xD xE xF xG
  exact ⟨r1, h1, r2, h2, h3, K, L, A, B, u, v, sCore_F hC h4, hR⟩
theorem lo_cutAnswer (hf : 300 ≤ N) : LO_cutAnswer N (sI LK) := by
  rintro uG uN uD uR uF uP uL uT uA uM uH xA xB xC xD xE xF xG xH xI xJ xK xL x ⟨K, L, A, B, u, v, hC, hR⟩
  obtain ⟨r1, h1, r2, h2, h3, h4⟩ := o_cutAnswer hf hC x xB xD xE xF xG
  exact ⟨r1, h1, r2, h2, h3, K, L, A, B, u, v, sCore_F hC h4, hR⟩
theorem lo_played (hf : 300 ≤ N) : LO_played N (sI LK) := by
  rintro uG uN uD uR uF uP uL uT uA uM uH xA xB xC xD xE xF xG xH xI xJ xK xL x ⟨K, L, A, B, u, v, hC, hR⟩
  obtain ⟨r1, h1, r2, h2, h3, h4⟩ := o_played hf hC x xB xD xE xF xG xI
  exact ⟨r1, h1, r2, h2, h3, K, L, A, B, u, v, sCore_F hC h4, hR⟩
theorem lo_ifEnds (hf : 300 ≤ N) : LO_ifEnds N (sI LK) := by
  rintro uG uN uD uR uF uP uL uT uA uM uH xA xB xC xD xE xF xG xH xI xJ xK xL x y ⟨K, L, A, B, u, v, hC, hR⟩
  obtain ⟨r1, h1, r2, h2, h3, h4, h5⟩ := o_ifEnds hf hC x y xB xD xE xF xG
  exact ⟨r1, h1, r2, h2, h3, K, L, A, B, u, v, sCore_m (sCore_F hC h4) h5, sRest_m hR h5⟩
theorem lo_ifMore (hf : 300 ≤ N) : LO_ifMore N (sI LK) := by
  rintro uG uN uD uR uF uP uL uT uA uM uH xA xB xC xD xE xF xG xH xI xJ xK xL x y ⟨K, L, A, B, u, v, hC, hR⟩
  obtain ⟨r1, h1, r2, h2, h3, h4, h5⟩ := o_ifMore hf hC x y xB xD xE xF xG
  exact ⟨r1, h1, r2, h2, h3, K, L, A, B, u, v, sCore_m (sCore_F hC h4) h5, sRest_m hR h5⟩
theorem lo_lacks (hf : 300 ≤ N) : LO_lacks N (sI LK) := by
  rintro uG uN uD uR uF uP uL uT uA uM uH xA xB xC xD xE xF xG xH xI xJ xK xL ⟨K, L, A, B, u, v, hC, hR⟩
  obtain ⟨r1, h1, r2, h2, h3, h4, h5⟩ := o_lacks hf hC xB xD xE xF xG
  exact ⟨r1, h1, r2, h2, h3, K, L, A, B, u, v, sCore_m (sCore_F hC h4) h5, sRest_m hR h5⟩
end
