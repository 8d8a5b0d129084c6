/-! ===== the model's hasTwo, isSafe ===== -/
theorem nmul (a b : Nat) : nI a * nI b = nI (a * b) := by
  unfold nI
  exact (Int32.ofNat_mul a b).symm
theorem bits_ok (x : Int32) : f_X12_bits x = some (nI (qc (bt x))) := by
  unfold f_X12_bits
  rw [bitCount_ok]
  rfl
theorem qc_le32 (S : BS) : qc S ≤ 32 := fb_ct_le S 32
theorem q_most_le {r : Bool → BS → Nat} {E : BS} {m : Nat} (h : qMost r E m) : m ≤ qc E := by
  obtain ⟨⟨F, f1, f2, f3⟩, -⟩ := h
  rw [← f3, qSz_un f1.2]
  exact qc_mono f2 32
theorem opn_lt {L : Nat} (hL : L < 31) {J G : Int32} {z : Nat} (hz : bt (opn L J G) z = true) : z < L := by
  by_cases hz32 : z < 32
  · rw [opn_bit hL J G hz32] at hz
    simp at hz
    exact hz.1
  · rw [b_big (by omega)] at hz; cases hz
theorem bL_sub {x : Int32} {L : Nat} (h : ∀ z, bt x z = true → z < L) : bL x L = bt x := by
  funext z
  show (bt x z && decide (z < L)) = bt x z
  cases hz : bt x z
  · rfl
  · have := h z hz; simp [this]
section
variable {N : Nat} {xA xE : sx_C} {K L A B : Nat} {u v u' v' : Nat → Nat} {f : Nat → Nat}
theorem hasTwo_ok (hf : 20 ≤ N) (hN : mNet xA K L A B u v) (hE : ∀ k, k < K → ga xE 37 k = nI (f k)) (hfK : ∀ k, k < K → f k < K) (hk : ∀ i, u' i < 8 ∧ v' i < 8) (hu : ∀ i, i < L → u' i = f (u i) ∧ v' i = f (v i)) (O P : Int32) (hc1 : 1 ≤ qc (bt P)) (xF xG : sx_C) :
    ∃ b xF' xG', f_X12_hasTwo N xA xE O P xF xG = some (b, xF', xG') ∧ (b = true ↔ qMost (fun _ => rk u' v') (qW u' v' (bL O L) (bt P)) (2 * (qc (bt P) - 1))) := by
  obtain ⟨h1, h2, h3, h4, h5, ⟨h6, h7, h8⟩, h9, h10⟩ := id hN
  have M := gs_mat hk
  obtain ⟨m, w1, w2⟩ := within_ok hf hN hE (fun k hk2 => by have := hfK k hk2; omega) hu O P
  have hmL : bL m L = qW u' v' (bL O L) (bt P) := by
    rw [bL_sub (fun z hz => ?_)]
    · exact funext w2
    · rw [w2] at hz
      unfold qW at hz
      simp at hz
      exact bL_lt hz.1
  have hmb : bt m = qW u' v' (bL O L) (bt P) := funext w2
  have hcP := qc_le32 (bt P)
  have hcm := qc_le32 (bt m)
  have e1 : 2 * (nI (qc (bt P)) - 1) = nI (2 * (qc (bt P) - 1)) := by
    have := nsub (qc (bt P) - 1) 1
    rw [show qc (bt P) - 1 + 1 = qc (bt P) by omega] at this
    rw [show (1 : Int32) = nI 1 from rfl, this, show (2 : Int32) = nI 2 from rfl, nmul]
  unfold f_X12_hasTwo
  simp only [w1, bits_ok, Option.bind_some]
  rw [e1]
  by_cases hlt : qc (bt m) < 2 * (qc (bt P) - 1)
  · rw [if_pos ((nlt (by omega) (by omega)).mpr hlt)]
    refine ⟨false, xF, xG, rfl, fun h => (by cases h), fun h => ?_⟩
    have h11 := q_most_le h
    rw [← hmb] at h11
    exact absurd hlt (Nat.not_lt.mpr h11)
  · rw [if_neg (fun h => hlt ((nlt (by omega) (by omega)).mp h))]
    obtain ⟨n, xF', xG', t1, t2, t3⟩ := twoForests_ok hf hN hE hfK hk hu m xF xG
    rw [hmL] at t3
    simp only [t1, Option.bind_some]
    by_cases e : n = 2 * (qc (bt P) - 1)
    · rw [if_pos (by rw [e])]
      exact ⟨true, xF', xG', rfl, fun _ => (by rw [← e]; exact t3), fun _ => rfl⟩
    · rw [if_neg (fun h => e ((neq (by omega) (by omega)).mp h))]
      exact ⟨false, xF', xG', rfl, fun h => (by cases h), fun h => absurd (q_most_one (fun _ => M) t3 h) e⟩
end
def u31 (u : Nat → Nat) (a : Nat) : Nat → Nat := fun i => if i = 31 then a else u i
theorem u31_lt {u : Nat → Nat} {K a : Nat} (hu : ∀ i, u i < K) (ha : a < K) (i : Nat) : u31 u a i < K := by
  unfold u31
  split
  · exact ha
  · exact hu i
theorem u31_low (u : Nat → Nat) (a : Nat) {i : Nat} (h : i < 31) : u31 u a i = u i := if_neg (by omega)
theorem u31_la {u v : Nat → Nat} {a b : Nat} {S : BS} (h : ∀ i, S i = true → i < 31) : la (u31 u a) (u31 v b) S = la u v S :=
  la_cong2 (fun i _ hi => ⟨u31_low u a (h i hi), u31_low v b (h i hi)⟩)
/-- what JOIN lacks, by the model's lines -/
def mlk (u v : Nat → Nat) (L A B : Nat) (J G : Int32) (k : Nat) : Prop := qL (rk (u31 u A) (u31 v B)) 31 (bL J L) (bt (opn L J G)) k
theorem qL_zero {r : BS → Nat} {sp : BS → Nat → Bool} (M : qM r sp) {e : Nat} (he : e < 32) {j E : BS} (h : sp j e = true) : qL r e j E 0 := by
  obtain ⟨m, hm⟩ := q_min_ex (fJ r j E)
  refine ⟨m, hm, ?_⟩
  have e1 : fJ r (qI j e) E = fJ r j E := by
    funext T
    rw [fJ_e M _ _ _ he, if_pos (M.2.1 _ _ _ (qU_l _ _) h), Nat.add_zero]
  rw [e1]; exact hm
/-- no line open, the ends apart: it lacks all -/
theorem qL_open {r : BS → Nat} {sp : BS → Nat → Bool} (M : qM r sp) {e : Nat} (he : e < 32) {j E : BS} (h : sp j e = false) {k : Nat} (hk : k < 2) (hL : qL r e j E k) : ∃ i, i < 32 ∧ E i = true := by
  refine Classical.byContradiction (fun hn => ?_)
  have hE : ∀ i, i < 32 → E i = false := fun i hi => by
    cases hx : E i
    · rfl
    · exact absurd ⟨i, hi, hx⟩ hn
  obtain ⟨m, ⟨-, m2⟩, ⟨T, m3⟩, -⟩ := hL
  have h0 := m2 q0
  have c0 : qc (qD E q0) = 0 := fb_ct_zero.mpr (fun i hi => by show (E i && _) = false; rw [hE i hi]; rfl)
  have e0 : qU j q0 = j := by funext i; show (j i || false) = j i; simp
  have f0 : fJ r j E q0 = 2 * r j := by
    unfold fJ
    rw [c0, e0]; rfl
  have h3 : r (qI j e) ≤ r (qU (qI j e) T) := q_mono M (qU_l _ _)
  have h4 := M.1 j e he
  rw [h] at h4
  simp at h4
  have h5 : fJ r (qI j e) E T = 2 * r (qU (qI j e) T) + qc (qD E T) := rfl
  omega
section
variable {N : Nat} {xA : sx_C} {K L A B : Nat} {u v : Nat → Nat}
theorem mlk_one {J G : Int32} {k l : Nat} (h1 : mlk u v L A B J G k) (h2 : mlk u v L A B J G l) : k = l := qL_one h1 h2
theorem isSafe_ok (hf : 300 ≤ N) (hN : mNet xA K L A B u v) (J G : Int32) (xD xE xF xG : sx_C) :
    ∃ b xD' xE' xF' xG', f_X12_isSafe N xA J G xD xE xF xG = some (b, xD', xE', xF', xG') ∧ (b = true ↔ mlk u v L A B J G 0) := by
  obtain ⟨h1, h2, h3, h4, h5, ⟨h6, h7, h8⟩, ⟨h9, h9'⟩, h10⟩ := id hN
  obtain ⟨f, hfd⟩ : ∃ f, f = la u v (bL J L) := ⟨_, rfl⟩
  have hf8 : ∀ k, k < 8 → f k < 8 := fun k hk => by rw [hfd]; exact la_lt8 _ _ _ k hk
  have hfle : ∀ k, f k ≤ k := fun k => by rw [hfd]; exact (lb_ok _ _ _ _).1 k
  have hfK : ∀ k, k < K → f k < K := fun k hk => by have := hfle k; omega
  have h20 : 20 ≤ N := by omega
  obtain ⟨xD1, xE1, p1, p2⟩ := laysPlaces_ok hN h20 J xD xE
  rw [← hfd] at p2
  have hU : ∀ i, u31 u A i < K ∧ u31 v B i < K := fun i => ⟨u31_lt (fun i => (h10 i).1) h9 i, u31_lt (fun i => (h10 i).2) h9' i⟩
  have hU8 : ∀ i, u31 u A i < 8 ∧ u31 v B i < 8 := fun i => by have := hU i; omega
  have hla : la (u31 u A) (u31 v B) (bL J L) = f := by rw [hfd]; exact u31_la (fun i hi => by have := bL_lt hi; omega)
  have MU := gs_mat hU8
  obtain ⟨u', hu'⟩ : ∃ u' : Nat → Nat, u' = fun i => f (u31 u A i) := ⟨_, rfl⟩
  obtain ⟨v', hv'⟩ : ∃ v' : Nat → Nat, v' = fun i => f (u31 v B i) := ⟨_, rfl⟩
  have hk' : ∀ i, u' i < 8 ∧ v' i < 8 := fun i => by rw [hu', hv']; exact ⟨hf8 _ (hU8 i).1, hf8 _ (hU8 i).2⟩
  have huL : ∀ i, i < L → u' i = f (u i) ∧ v' i = f (v i) := fun i hi => by
    rw [hu', hv']; dsimp only
    rw [u31_low u A (by omega), u31_low v B (by omega)]; exact ⟨rfl, rfl⟩
  have ea : u' 31 = f A := by rw [hu']; rfl
  have eb : v' 31 = f B := by rw [hv']; rfl
  have rA : sp_rd (ga xE1 37) 8 (nI A) = some (nI (f A)) := by rw [rd_ok (by omega) (by decide), p2 A h9]
  have rB' : sp_rd (ga xE1 37) 8 (nI B) = some (nI (f B)) := by rw [rd_ok (by omega) (by decide), p2 B h9']
  have fA8 := hf8 A (by omega)
  have fB8 := hf8 B (by omega)
  unfold f_X12_isSafe
  simp only [p1, h2, h3, rA, rB', Option.bind_some]
  by_cases hab : f A = f B
  · rw [if_pos (by rw [hab])]
    refine ⟨true, xD1, xE1, xF, xG, rfl, fun _ => ?_, fun _ => rfl⟩
    refine qL_zero MU (by decide) ?_
    unfold gs
    rw [hla]
    show (f A == f B) = true
    simp [hab]
  · rw [if_neg (fun h => hab ((neq (by omega) (by omega)).mp h))]
    obtain ⟨PB, q1, q2⟩ := placeBits_ok hN h20 (xE := xE1) (f := f) (fun k hk => ⟨p2 k hk, hf8 k (by omega)⟩)
    obtain ⟨EB, hEB⟩ : ∃ EB, EB = sp_shl 1 (nI (f A)) ||| sp_shl 1 (nI (f B)) := ⟨_, rfl⟩
    have hEbt : ∀ z, bt EB z = (decide (z = f A) || decide (z = f B)) := fun z => by
      rw [hEB, b_or, bit_all (by omega), bit_all (by omega)]
    have e1 : f_X12_endBits xA xE1 = some EB := by
      unfold f_X12_endBits
      simp only [h2, h3, rA, rB', Option.bind_some]
      rw [hEB]
    obtain ⟨O, hO⟩ : ∃ O, O = opn L J G := ⟨_, rfl⟩
    have hOL : ∀ z, bt O z = true → z < L := fun z hz => by rw [hO] at hz; exact opn_lt (by omega) hz
    simp only [q1, e1, mopen_ok hN, Option.bind_some]
    rw [← hO]
    obtain ⟨m, m1, m2⟩ := wb_of32 (PB &&& (EB ^^^ (-1)))
    rw [m2]
    have hmb : ∀ z, z < 32 → m.testBit z = (bt PB z && !bt EB z) := fun z hz => by rw [← h_nI z hz, ← m2, b_and, h_not _ hz]
    have hPB8 : ∀ z, bt PB z = true → z < 8 := fun z hz => by
      obtain ⟨k, a, b⟩ := (q2 z).mp hz
      have := hfK k a; omega
    have hm8 : ∀ z, 8 ≤ z → m.testBit z = false := fun z hz => by
      by_cases h32 : z < 32
      · rw [hmb z h32]
        cases hp : bt PB z
        · rfl
        · have := hPB8 z hp; omega
      · exact tb_small m1 (by omega)
    have hm256 : m < 2 ^ 8 := Nat.lt_pow_two_of_testBit m (fun i hi => hm8 i hi)
    have hset : ∀ t, sbs t m → ∀ z, bt (nI t ||| EB) z = (t.testBit z || bt EB z) := fun t ht z => by
      by_cases h32 : z < 32
      · rw [b_or, h_nI z h32]
      · rw [b_big (by omega), b_big (by omega)]
        have : t.testBit z = false := by
          cases hx : t.testBit z
          · rfl
          · have := sbs_iff.mp ht z hx
            rw [hm8 z (by omega)] at this; cases this
        rw [this]; rfl
    have hset8 : ∀ t, sbs t m → ∀ z, bt (nI t ||| EB) z = true → z < 8 := fun t ht z hz => by
      rw [hset t ht] at hz
      cases hx : t.testBit z
      · rw [hx, hEbt] at hz
        simp at hz
        omega
      · by_cases h8 : z < 8
        · exact h8
        · have := sbs_iff.mp ht z hx
          rw [hm8 z (by omega)] at this; cases this
    have hpos : ∀ t, sbs t m → 1 ≤ qc (bt (nI t ||| EB)) := fun t ht => fb_ct_pos.mpr ⟨f A, by omega, by rw [hset t ht, hEbt]; simp⟩
    have hct : ∀ P : BS, (∀ z, P z = true → z < 8) → fb_ct P 8 = qc P := fun P hP => (ct_gap (by omega) (fun t h8 _ => by
      cases hx : P t
      · rfl
      · have := hP t hx; omega)).symm
    -- the loop
    have loop : ∀ n a xF xG, a < n → sbs a m → (∀ t, sbs t m → a < t → ¬ qMost (fun _ => rk u' v') (qW u' v' (bt O) (bt (nI t ||| EB))) (2 * (qc (bt (nI t ||| EB)) - 1))) → ∃ b xF' xG', f_X12_isSafe_51 N xA n (nI m) O (nI a) xD1 xE1 xF xG = some (b, xD1, xE1, xF', xG') ∧ (b = true ↔ ∃ t, sbs t m ∧ qMost (fun _ => rk u' v') (qW u' v' (bt O) (bt (nI t ||| EB))) (2 * (qc (bt (nI t ||| EB)) - 1))) := by
      intro n
      induction n with
      | zero => intro a xF xG hn; omega
      | succ n ih =>
        intro a xF xG hn ha hno
        unfold f_X12_isSafe_51
        obtain ⟨b, xF1, xG1, t1, t2⟩ := hasTwo_ok h20 hN p2 hfK hk' huL O (nI a ||| EB) (hpos a ha) xF xG
        rw [bL_sub hOL] at t2
        simp only [e1, t1, Option.bind_some]
        have hale := sbs_le ha
        by_cases hb : b = true
        · rw [if_pos hb]
          exact ⟨true, xF1, xG1, rfl, fun _ => ⟨a, ha, t2.mp hb⟩, fun _ => rfl⟩
        · rw [if_neg hb]
          by_cases h0 : a = 0
          · rw [h0, if_pos (show nI 0 = 0 from rfl)]
            refine ⟨false, xF1, xG1, rfl, fun h => (by cases h), ?_⟩
            rintro ⟨t, s1, s2⟩
            by_cases ht : t = 0
            · rw [ht, ← h0] at s2; exact absurd (t2.mpr s2) hb
            · exact absurd s2 (hno t s1 (by omega))
          · rw [if_neg (fun h => h0 ((nz (by omega)).mp h)), int_down (by omega)]
            have hp := sub_pred (a := a) (m := m) (by omega)
            refine ih _ xF1 xG1 (by omega) (sbs_and _ _) (fun t s1 s2 => ?_)
            by_cases ht : t < a
            · have := sub_down 8 a m t (by omega) ha s1 ht
              omega
            · by_cases hta : t = a
              · rw [hta]; exact fun h => hb (t2.mpr h)
              · exact hno t s1 (by omega)
    obtain ⟨b, xF', xG', l1, l2⟩ := loop N m xF xG (by omega) (by unfold sbs; exact Nat.and_self m) (fun t s1 s2 => by have := sbs_le s1; omega)
    refine ⟨b, xD1, xE1, xF', xG', l1, l2.trans ?_⟩
    have hu : ∀ i, i < 32 → qI (bt O) 31 i = true → u' i = la (u31 u A) (u31 v B) (bL J L) (u31 u A i) ∧ v' i = la (u31 u A) (u31 v B) (bL J L) (u31 v B i) := fun i _ _ => by
      rw [hla, hu', hv']; exact ⟨rfl, rfl⟩
    unfold mlk
    rw [← hO]
    constructor
    · rintro ⟨t, s1, s2⟩
      have h8 := hset8 t s1
      rw [← hct _ h8] at s2
      exact safe_of_two hU8 hk' (by decide) hu (P := bt (nI t ||| EB)) h8 (by rw [ea, hset t s1, hEbt]; simp) (by rw [eb, hset t s1, hEbt]; simp) s2
    · intro hq
      obtain ⟨n, xF2, xG2, -, -, hmost⟩ := twoForests_ok h20 hN p2 hfK hk' huL O xF xG
      rw [bL_sub hOL] at hmost
      obtain ⟨P, c1, c2, c3, c4, c5⟩ := two_of_safe hU8 hk' (by decide) hu (Q := bt PB) (fun i _ _ => by
        rw [hu', hv']
        exact ⟨(q2 _).mpr ⟨_, (hU i).1, rfl⟩, (q2 _).mpr ⟨_, (hU i).2, rfl⟩⟩) (fun i hi => by have := hOL i hi; omega) hmost hq
      rw [ea] at c3
      rw [eb] at c4
      obtain ⟨t, ht⟩ : ∃ t, t = dV 1 (fun z => if P z = true ∧ z ≠ f A ∧ z ≠ f B then 1 else 0) 8 := ⟨_, rfl⟩
      have htb : ∀ z, t.testBit z = decide (P z = true ∧ z ≠ f A ∧ z ≠ f B) := fun z => by
        rw [ht, dV_bit (by decide) (fun j => by split <;> decide), Nat.div_one, Nat.mod_one]
        by_cases h : P z = true ∧ z ≠ f A ∧ z ≠ f B
        · rw [if_pos h]
          have := c1 z h.1
          simp [h, this]
        · rw [if_neg h]; simp [h]
      have hts : sbs t m := sbs_iff.mpr (fun z hz => by
        rw [htb] at hz
        obtain ⟨a1, a2, a3⟩ := of_decide_eq_true hz
        have := c1 z a1
        rw [hmb z (by omega), c2 z a1, hEbt]
        simp [a2, a3])
      have hPe : bt (nI t ||| EB) = P := by
        funext z
        rw [hset t hts, htb, hEbt]
        by_cases z1 : z = f A
        · rw [z1, c3]; simp
        · by_cases z2 : z = f B
          · rw [z2, c4]; simp
          · cases hz : P z <;> simp [z1, z2]
      refine ⟨t, hts, ?_⟩
      rw [hPe, ← hct P c1]
      exact c5
end
