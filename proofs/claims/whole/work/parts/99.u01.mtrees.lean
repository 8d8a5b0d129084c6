/-! ===== trees: the model's count ===== -/
/-- a tree over the places: one line less than places, and no ring -/
def trS (u' v' : Nat → Nat) (c : Nat) (S : BS) : Bool := (qc S + 1 == c) && decide (rk u' v' S = qc S)
section
variable {N : Nat} {xA : sx_C} {K L A B : Nat} {u v : Nat → Nat}
theorem so2_ok (hf : 20 ≤ N) {xE : sx_C} {u' v' f : Nat → Nat} (H : mPl xA xE K L A B u v u' v' f) (hL : L ≤ 14) {m t : Nat} (hm14 : m < 16384) (hm : ∀ z, m.testBit z = bt (opn L (gi xA 7) (gi xA 8)) z) {mP : Int32} (hp : f_X12_placeBits N xA xE = some mP) (hc : 1 ≤ qc (bt mP)) (ht : sbs t m) (xD xF : sx_C) : ∃ xD' xF', f_X12_isSo N xA xE 2 (nI t) xD xF = some (trS u' v' (qc (bt mP)) (tB t), xD', xF') := by
  have htl := sbs_le ht
  obtain ⟨b, xF1, i1, i2⟩ := isF_ok hf H (nI t) xF
  have hbL : bL (nI t) L = tB t := by
    rw [bL_sub, bt_nI (by omega)]
    intro z hz
    rw [bt_nI (by omega)] at hz
    have := sbs_iff.mp ht z hz
    rw [hm] at this
    exact opn_lt (by omega : L < 31) this
  rw [hbL] at i2
  have q1 := qc_le32 (tB t)
  have q2 := qc_le32 (bt mP)
  unfold f_X12_isSo
  rw [if_neg (by decide), if_neg (by decide)]
  simp only [bits_ok, hp, i1, Option.bind_some]
  have hsub : nI (qc (bt mP)) - 1 = nI (qc (bt mP) - 1) := by
    have := nsub (qc (bt mP) - 1) 1
    rw [show qc (bt mP) - 1 + 1 = qc (bt mP) by omega] at this
    exact this
  rw [hsub, bt_nI (by omega)]
  unfold trS
  by_cases h : qc (tB t) + 1 = qc (bt mP)
  · rw [if_pos (by rw [show qc (tB t) = qc (bt mP) - 1 by omega]), beq_iff_eq.mpr h, Bool.true_and]
    by_cases hb : b = true
    · rw [if_pos hb, decide_eq_true (show rk u' v' (tB t) = qc (tB t) from i2.mp hb)]
      exact ⟨xD, xF1, rfl⟩
    · rw [if_neg hb, decide_eq_false (show ¬ rk u' v' (tB t) = qc (tB t) from fun h9 => hb (i2.mpr h9))]
      exact ⟨xD, xF1, rfl⟩
  · rw [if_neg (fun h9 => h (by have := (neq (by omega) (by omega)).mp h9; omega)), beq_eq_false_iff_ne.mpr h]
    exact ⟨xD, xF, rfl⟩
theorem mtrees_ok (hf : 200000 ≤ N) (hM : mNet xA K L A B u v) (hL : L ≤ 14) {m : Nat} (hm14 : m < 16384) (hO : opn L (gi xA 7) (gi xA 8) = nI m) (hm : ∀ z, m.testBit z = bt (opn L (gi xA 7) (gi xA 8)) z) (xD xE xF : sx_C) : ∃ mP : Int32, (∀ z, bt mP z = true ↔ ∃ k, k < K ∧ la u v (bL (gi xA 7) L) k = z) ∧ ∀ {li : Int32} {q : BS → Bool}, (∀ t, sbs t m → q (tB t) = (decide (li = -1) || decide (((sp_shr (nI t) li) &&& 1) = 1))) → ∃ xD' xE' xF', f_X12_manySo N xA 2 (-1) li xD xE xF = some (nI (cS m (fun S => q S && trS (fun i => la u v (bL (gi xA 7) L) (u i)) (fun i => la u v (bL (gi xA 7) L) (v i)) (qc (bt mP)) S)), xD', xE', xF') := by
  obtain ⟨h1, h2, h3, h4, h5, ⟨h6, h7, h8⟩, h9, h10⟩ := id hM
  obtain ⟨xD1, xE1, p1, p2⟩ := laysPlaces_ok hM (by omega : 20 ≤ N) (gi xA 7) xD xE
  have hl8 : ∀ k, k < K → la u v (bL (gi xA 7) L) k < 8 := fun k hk => la_lt8 u v _ k (by omega)
  obtain ⟨mP, b1, b2⟩ := placeBits_ok hM (by omega : 20 ≤ N) (xE := xE1) (f := la u v (bL (gi xA 7) L)) (fun k hk => ⟨p2 k hk, hl8 k hk⟩)
  have hlK : ∀ k, k < K → la u v (bL (gi xA 7) L) k < K := fun k hk => Nat.lt_of_le_of_lt ((lb_ok u v (bL (gi xA 7) L) 32).1 k) hk
  have H : mPl xA xE1 K L A B u v (fun i => la u v (bL (gi xA 7) L) (u i)) (fun i => la u v (bL (gi xA 7) L) (v i)) (la u v (bL (gi xA 7) L)) := ⟨hM, p2, hlK, fun i => ⟨hl8 _ (h10 i).1, hl8 _ (h10 i).2⟩, fun i _ => ⟨rfl, rfl⟩⟩
  have hc : 1 ≤ qc (bt mP) := by
    have hb : bt mP (la u v (bL (gi xA 7) L) 0) = true := (b2 _).mpr ⟨0, by omega, rfl⟩
    have := rank_lt hb
    omega
  refine ⟨mP, b2, fun {li} {q} hq => ?_⟩
  unfold f_X12_manySo
  simp only [p1, Option.bind_some, mOpenNow_ok hM]
  have := manySo_ok hf hM hm14 hO (how := 2) (P := fun t => trS (fun i => la u v (bL (gi xA 7) L) (u i)) (fun i => la u v (bL (gi xA 7) L) (v i)) (qc (bt mP)) (tB t)) (xE := xE1) (fun t ht xD xF => so2_ok (by omega) H hL hm14 hm b1 hc ht xD xF) (kk := -1) (li := li) (q := fun t => q (tB t)) (fun t ht => by rw [hq t ht]; simp) N m 0 xD1 xF (by omega) (by unfold sbs; exact Nat.and_self m)
  obtain ⟨xD', xF', e⟩ := this
  rw [← hO] at e
  refine ⟨xD', xE1, xF', ?_⟩
  have e0 : f_X12_manySo_21 N xA N 2 (-1) li (opn L (gi xA 7) (gi xA 8)) 0 (opn L (gi xA 7) (gi xA 8)) xD1 xE1 xF = f_X12_manySo_21 N xA N 2 (-1) li (opn L (gi xA 7) (gi xA 8)) (nI 0) (opn L (gi xA 7) (gi xA 8)) xD1 xE1 xF := rfl
  rw [e0, e, Nat.zero_add]
  have : fb_ct (fun t => (t &&& m == t) && (q (tB t) && trS (fun i => la u v (bL (gi xA 7) L) (u i)) (fun i => la u v (bL (gi xA 7) L) (v i)) (qc (bt mP)) (tB t))) (m + 1) = cS m (fun S => q S && trS (fun i => la u v (bL (gi xA 7) L) (u i)) (fun i => la u v (bL (gi xA 7) L) (v i)) (qc (bt mP)) S) := (ct_gap (by omega) (fun t t1 t2 => by
    cases h : (t &&& m == t)
    · rfl
    · have := sbs_le (sB_t.mp h); omega)).symm
  rw [this]
end
