/-! ===== fields, rows, new cells ===== -/
section
variable {D : va_G} {b : Nat} {K : State → Heap → Prop} {Y : sx_Y} {R : Room} {Q : Option Value → sx_H → Prop} {Z : List Frame → Array Value → State → State → Prop} {pc : Nat} {lv : List (Nat × Value)} {st : List Value} {σ : sx_H} {k n : Nat}
theorem at_getf {ci j N i idx : Nat} {C : String} {T : u_T} {ty : Nat → FieldType} {fs : List Value} {v : Value} (hc : sx_CL ci C T N ty) (hk : j < N) (hfl : sx_FL Y.1 idx (T j).1 (T j).2.1 (T j).2.2.1) (hi : σ[i]? = some (.inr (ci, fs))) (hv : fs[j]? = some v) (hd : decode Y.2.1 pc = .ok (.getfield idx, 3))
    (kk : sx_AtZ D b K Y R Z (pc + 3) lv (v :: st) σ k n) : sx_AtZ D b K Y R Z pc lv (.ref (b + i) :: st) σ k n := by
  intro p l e s m args below meth c H locs ls C0 V S hl
  obtain ⟨hz, cA, hP, hT⟩ := id V
  rcases hfl with h | ⟨host, h⟩
  · exact va_get (D := D) C0.1 C0.2.1 C0.2.2.2.2.1 hc.2.1 C0.2.2.2.1 C0.2.2.2.2.2.2.2.2.1 (sx_P1 (hP.obj hi)) 0 rfl hc.1 j hk (C0.2.2.2.2.1 _ h) (fun _ h9 => h9) hv hd (kk _ _ _ _ _ _ _ _ _ _ _ _ C0 V S hl)
  · exact va_getN (D := D) C0.1 C0.2.1 C0.2.2.2.2.1 hc.2.1 C0.2.2.2.1 C0.2.2.2.2.2.2.2.2.1 (sx_P1 (hP.obj hi)) 0 rfl hc.1 j hk (C0.2.2.2.2.1 _ h) (fun _ h9 => h9) hv hd (kk _ _ _ _ _ _ _ _ _ _ _ _ C0 V S hl)
/-- what is written into an object: the list with that cell set -/
theorem sx_V.obj {s : State} {H H1 : Heap} {cA : Nat → ClassId} {i ci : Nat} {fs fs1 : List Value} (hz : H.size = b + σ.length) (hP : sx_P D b cA σ H) (hT : sx_T s b cA σ) (hi : σ[i]? = some (.inr (ci, fs))) (he : va_at D vwCl (b + i, .inr (ci, fs1)) H1) (e2 : H1.size = H.size) (e3 : ∀ q : Nat, q ≠ b + i → H1[q]? = H[q]?) : sx_V D b (σ.set i (.inr (ci, fs1))) s H1 :=
  ⟨by rw [e2, hz, List.length_set], cA, hP.set he e3, hT.set (fun ty a h => by cases h)⟩
theorem at_putf {ci j N i idx : Nat} {C : String} {T : u_T} {ty : Nat → FieldType} {fs : List Value} {v : Value} {σ1 : sx_H} (hc : sx_CL ci C T N ty) (hk : j < N) (hfl : sx_FL Y.1 idx (T j).1 (T j).2.1 (T j).2.2.1) (hfin : (T j).2.2.2 = false) (hi : σ[i]? = some (.inr (ci, fs))) (hn : narrow (ty j) v = v) (hfit : fits (ty j) v = true) (hl : j < fs.length) (hs : σ.set i (.inr (ci, fs.set j v)) = σ1) (hd : decode Y.2.1 pc = .ok (.putfield idx, 3))
    (kk : sx_AtZ D b K Y R Z (pc + 3) lv st σ1 k n) : sx_AtZ D b K Y R Z pc lv (v :: .ref (b + i) :: st) σ k n := by
  intro p l e s m args below meth c H locs ls C0 V S hls
  obtain ⟨hz, cA, hP, hT⟩ := id V
  obtain ⟨hc1, hin, hty, hnm, -⟩ := hc
  have hts := C0.2.2.2.2.1
  have hK := C0.2.2.2.2.2.2.2.2.1
  have hap := va_apart (own := Y.1) hts hin ty hty hnm hK hc1
  obtain ⟨r, h1, cell, q1, q2, q3, q4⟩ := hP.obj hi
  have hr : r = (C, T, N) := Option.some.inj (h1.symm.trans hc1)
  subst hr
  obtain ⟨hS, hfc, kC, hkC, hkind⟩ := hK.1 ci _ hc1
  obtain ⟨cf, kf, fi, f, hif, hsl⟩ := hS j hk
  have hlay := hts _ (hin _ (u_in_lay hk))
  unfold u_lay at hlay
  rw [if_neg (by rw [hfin]; decide)] at hlay
  have hst := (u_facts hfc hkC (u_lays hts hin hk) hif).1
  have h6 := u_store hfc hkC hkind hlay hif (hty j hk) hn hfit
  have fin : ∀ H' : Heap, H'[b + i]? = some (cell.setSlot f.slot v) → H'.size = H.size → (∀ q : Nat, q ≠ b + i → H'[q]? = H[q]?) → W p l e R s m args below meth c H' (locs ++ [⟨b + i, f.slot⟩]) k n (Z below args s) (F0 m (pc + 3) ls st) := by
    intro H' e1 e2 e3
    rw [hsl] at e1
    refine kk _ _ _ _ _ _ _ _ _ _ _ _ C0 ?_ (S.put e2 e3 (Nat.le_add_right b i)) hls
    rw [← hs]
    exact sx_V.obj hz hP hT hi ⟨_, hc1, t_OB.to (V := updV (vp_V fs) j v) ⟨_, e1, q2, q3, t_set q4 hap hk v⟩ (fun j' _ => vp_updV_set hl v j')⟩ e2 e3
  rcases hfl with h | ⟨host, h⟩
  · exact W.putK C0.1 C0.2.1 (f := f) ⟨C0.2.2.2.1, hts _ h, ⟨_, _, _, hif⟩, hst⟩ (by rw [q2]; exact h6) q1 q3 (by rw [hsl]; exact k2_hasslot (q4 j hk)) rfl rfl hd fin
  · exact va_WputK C0.1 C0.2.1 (f := f) C0.2.2.2.1 (hts _ h) hif hst (by rw [q2]; exact h6) q1 q3 (by rw [hsl]; exact k2_hasslot (q4 j hk)) rfl rfl hd fin
theorem at_putF {ci j N i idx : Nat} {C : String} {T : u_T} {ty : Nat → FieldType} {fs : List Value} {v : Value} {σ1 : sx_H} (hc : sx_CL ci C T N ty) (hk : j < N) (hfl : Cond.fieldLink Y.1 idx (T j).1 (T j).2.1 (T j).2.2.1 ∈ sx_tb) (hfin : (T j).2.2.2 = true) (hnmI : Y.2.2.2.2 = "<init>") (hdecl : C = Y.1) (hi : σ[i]? = some (.inr (ci, fs))) (hn : narrow (ty j) v = v) (hfit : fits (ty j) v = true) (hl : j < fs.length) (hs : σ.set i (.inr (ci, fs.set j v)) = σ1) (hd : decode Y.2.1 pc = .ok (.putfield idx, 3))
    (kk : sx_AtZ D b K Y R Z (pc + 3) lv st σ1 k n) : sx_AtZ D b K Y R Z pc lv (v :: .ref (b + i) :: st) σ k n := by
  intro p l e s m args below meth c H locs ls C0 V S hls
  obtain ⟨hz, cA, hP, hT⟩ := id V
  obtain ⟨hc1, hin, hty, hnm, hdc⟩ := hc
  have hts := C0.2.2.2.2.1
  have hK := C0.2.2.2.2.2.2.2.2.1
  have hap := va_apart (own := Y.1) hts hin ty hty hnm hK hc1
  obtain ⟨r, h1, cell, q1, q2, q3, q4⟩ := hP.obj hi
  have hr : r = (C, T, N) := Option.some.inj (h1.symm.trans hc1)
  subst hr
  obtain ⟨hS, hfc, kC, hkC, hkind⟩ := hK.1 ci _ hc1
  obtain ⟨cf, kf, fi, f, hif, hsl⟩ := hS j hk
  have hlay := hts _ (hin _ (u_in_lay hk))
  unfold u_lay at hlay
  rw [if_pos hfin] at hlay
  have hst := (u_facts hfc hkC (u_lays hts hin hk) hif).1
  have hcf : m.cls = cf := by
    obtain ⟨_, _, c', _, _, _, -, -, hf', -, -, -, hown2, -⟩ := Cond.laysFinal_spec hlay
    have e1 : c' = cf := by have := hif.symm.trans hf'; simp at this; exact this.1.symm
    rw [hdc j hk, hdecl] at hown2
    rw [← e1]; exact Option.some.inj (C0.2.2.2.1.symm.trans hown2)
  have h6 := u_fits hfc hkC hkind (Or.inr hlay) hif (hty j hk) hn hfit
  refine W.putFinK C0.1 C0.2.1 C0.2.2.2.1 (hts _ hfl) hif hst hcf (C0.2.2.2.2.2.2.2.1.trans hnmI) (by rw [q2]; exact h6) q1 q3 (by rw [hsl]; exact k2_hasslot (q4 j hk)) rfl rfl hd fun H' e1 e2 e3 => ?_
  rw [hsl] at e1
  refine kk _ _ _ _ _ _ _ _ _ _ _ _ C0 ?_ (S.put e2 e3 (Nat.le_add_right b i)) hls
  rw [← hs]
  exact sx_V.obj hz hP hT hi ⟨_, hc1, t_OB.to (V := updV (vp_V fs) j v) ⟨_, e1, q2, q3, t_set q4 hap hk v⟩ (fun j' _ => vp_updV_set hl v j')⟩ e2 e3
def sp_in (x : Int32) (N : Nat) : Bool := decide (¬ (x < 0 ∨ N ≤ x.toNatClampNeg))
theorem sp_in_vp {x : Int32} {N : Nat} (h : sp_in x N = true) : vp_in x N := by
  unfold sp_in at h
  have h2 := of_decide_eq_true h
  exact h2
/-- a row read at a place -/
def sp_rd {α : Type} (f : Nat → α) (N : Nat) (x : Int32) : Option α := if sp_in x N = true then some (f x.toNatClampNeg) else none
theorem sp_rd_some {α : Type} {f : Nat → α} {N : Nat} {x : Int32} {v : α} (h : sp_rd f N x = some v) : sp_in x N = true ∧ f x.toNatClampNeg = v := by
  unfold sp_rd at h
  by_cases c : sp_in x N = true
  · rw [if_pos c] at h; exact ⟨c, Option.some.inj h⟩
  · rw [if_neg c] at h; cases h
theorem at_iald {i N : Nat} {f : Nat → Int32} {x v : Int32} (hi : σ[i]? = some (.inl (.int, N, .inl f))) (hr : sp_rd f N x = some v) (hd : decode Y.2.1 pc = .ok (.iaload, 1)) (kk : sx_AtZ D b K Y R Z (pc + 1) lv (.int v :: st) σ k n) : sx_AtZ D b K Y R Z pc lv (.int x :: .ref (b + i) :: st) σ k n := by
  intro p l e s m args below meth c H locs ls C0 V S hl
  obtain ⟨hz, cA, hP, hT⟩ := id V
  obtain ⟨h1, rfl⟩ := sp_rd_some hr
  exact va_iald (D := D) C0.1 C0.2.1 (sx_K1 C0.2.2.2.2.2.2.2.2.1 (hT i _ _ hi (by decide))) (sx_P1 (q := (b + i, .inl (cA (b + i), _))) (hP.arr hi (by decide))) 0 0 rfl rfl (sp_in_vp h1) hd (kk _ _ _ _ _ _ _ _ _ _ _ _ C0 V S hl)
theorem at_bald {i N : Nat} {f : Nat → Int32} {x v : Int32} (hi : σ[i]? = some (.inl (.byte, N, .inl f))) (hr : sp_rd f N x = some v) (hd : decode Y.2.1 pc = .ok (.baload, 1)) (kk : sx_AtZ D b K Y R Z (pc + 1) lv (.int v :: st) σ k n) : sx_AtZ D b K Y R Z pc lv (.int x :: .ref (b + i) :: st) σ k n := by
  intro p l e s m args below meth c H locs ls C0 V S hl
  obtain ⟨hz, cA, hP, hT⟩ := id V
  obtain ⟨h1, rfl⟩ := sp_rd_some hr
  exact va_bald (D := D) C0.1 C0.2.1 (sx_K1 C0.2.2.2.2.2.2.2.2.1 (hT i _ _ hi (by decide))) (sx_P1 (q := (b + i, .inl (cA (b + i), _))) (hP.arr hi (by decide))) 0 0 rfl rfl (sp_in_vp h1) hd (kk _ _ _ _ _ _ _ _ _ _ _ _ C0 V S hl)
theorem at_lald {i N : Nat} {f : Nat → Int64} {x : Int32} {v : Int64} (hi : σ[i]? = some (.inl (.long, N, .inr (.inl f)))) (hr : sp_rd f N x = some v) (hd : decode Y.2.1 pc = .ok (.laload, 1)) (kk : sx_AtZ D b K Y R Z (pc + 1) lv (.long v :: st) σ k n) : sx_AtZ D b K Y R Z pc lv (.int x :: .ref (b + i) :: st) σ k n := by
  intro p l e s m args below meth c H locs ls C0 V S hl
  obtain ⟨hz, cA, hP, hT⟩ := id V
  obtain ⟨h1, rfl⟩ := sp_rd_some hr
  exact va_lald (D := D) C0.1 C0.2.1 (sx_K1 C0.2.2.2.2.2.2.2.2.1 (hT i _ _ hi (by decide))) (sx_P1 (q := (b + i, .inl (cA (b + i), _))) (hP.arr hi (by decide))) 0 0 rfl rfl (sp_in_vp h1) hd (kk _ _ _ _ _ _ _ _ _ _ _ _ C0 V S hl)
theorem at_alen {i N : Nat} {ty : FieldType} {q} {v : Int32} (hi : σ[i]? = some (.inl (ty, N, q))) (hv : Int32.ofNat N = v) (hd : decode Y.2.1 pc = .ok (.arraylength, 1)) (kk : sx_AtZ D b K Y R Z (pc + 1) lv (.int v :: st) σ k n) (hty : ¬ ty = .short := by decide) : sx_AtZ D b K Y R Z pc lv (.ref (b + i) :: st) σ k n := by
  intro p l e s m args below meth c H locs ls C0 V S hl
  obtain ⟨hz, cA, hP, hT⟩ := id V
  exact va_alen (D := D) C0.1 C0.2.1 (sx_K1 C0.2.2.2.2.2.2.2.2.1 (hT i _ _ hi hty)) (sx_P1 (q := (b + i, .inl (cA (b + i), _))) (hP.arr hi hty)) 0 0 rfl rfl hv hd (kk _ _ _ _ _ _ _ _ _ _ _ _ C0 V S hl)
/-- what is written into a row -/
theorem sx_V.arr {s : State} {H H1 : Heap} {cA : Nat → ClassId} {i : Nat} {ty : FieldType} {q0 q1 : vp_A} (hz : H.size = b + σ.length) (hP : sx_P D b cA σ H) (hT : sx_T s b cA σ) (hi : σ[i]? = some (.inl (ty, q0))) (hty : ¬ ty = .short) (he : H1[b + i]? = some (vp_cell (cA (b + i)) q1)) (e2 : H1.size = H.size) (e3 : ∀ q : Nat, q ≠ b + i → H1[q]? = H[q]?) : sx_V D b (σ.set i (.inl (ty, q1))) s H1 :=
  ⟨by rw [e2, hz, List.length_set], cA, hP.set (Or.inr ⟨hty, he⟩) e3, hT.set (fun ty' a h hs => by cases h; exact hT i _ _ hi hs)⟩
theorem at_iast {i N : Nat} {f : Nat → Int32} {x v : Int32} {σ1 : sx_H} (hi : σ[i]? = some (.inl (.int, N, .inl f))) (hr : sp_in x N = true) (hs : σ.set i (.inl (.int, N, .inl (upd f x.toNatClampNeg v))) = σ1) (hd : decode Y.2.1 pc = .ok (.iastore, 1)) (kk : sx_AtZ D b K Y R Z (pc + 1) lv st σ1 k n) : sx_AtZ D b K Y R Z pc lv (.int v :: .int x :: .ref (b + i) :: st) σ k n := by
  intro p l e s m args below meth c H locs ls C0 V S hl
  obtain ⟨hz, cA, hP, hT⟩ := id V
  refine W.iast C0.1 C0.2.1 (hP.arr hi (by decide)) ((hT i _ _ hi (by decide)).1 N (fun j => .int (f j))) (fun q => by cases q) (by show ¬ (x < 0 ∨ (arrV _ _ _).slots.size ≤ _); rw [arrV_size]; exact sp_in_vp hr) rfl rfl hd fun H1 e z oq => ?_
  refine kk _ _ _ _ _ _ _ _ _ _ _ _ C0 ?_ (S.put z oq (Nat.le_add_right b i)) hl
  rw [← hs]
  refine sx_V.arr hz hP hT hi (by decide) ?_ z oq
  rw [e, vp_cell_i, vp_cell_i, arrV_store]
  congr 2
  funext q
  by_cases hq : q = x.toNatClampNeg
  · subst hq
    simp [updV, upd]
  · simp [updV, upd, hq]
theorem at_bast {i N : Nat} {f : Nat → Int32} {x v : Int32} {σ1 : sx_H} (hi : σ[i]? = some (.inl (.byte, N, .inl f))) (hr : sp_in x N = true) (hs : σ.set i (.inl (.byte, N, .inl (upd f x.toNatClampNeg (sp_i2b v)))) = σ1) (hd : decode Y.2.1 pc = .ok (.bastore, 1)) (kk : sx_AtZ D b K Y R Z (pc + 1) lv st σ1 k n) : sx_AtZ D b K Y R Z pc lv (.int v :: .int x :: .ref (b + i) :: st) σ k n := by
  intro p l e s m args below meth c H locs ls C0 V S hl
  obtain ⟨hz, cA, hP, hT⟩ := id V
  refine W.bast C0.1 C0.2.1 (hP.arr hi (by decide)) ((hT i _ _ hi (by decide)).1 N (fun j => .int (f j))) (fun q => by cases q) (by show ¬ (x < 0 ∨ (arrV _ _ _).slots.size ≤ _); rw [arrV_size]; exact sp_in_vp hr) rfl rfl hd fun H1 e z oq => ?_
  refine kk _ _ _ _ _ _ _ _ _ _ _ _ C0 ?_ (S.put z oq (Nat.le_add_right b i)) hl
  rw [← hs]
  refine sx_V.arr hz hP hT hi (by decide) ?_ z oq
  rw [e, vp_cell_i, vp_cell_i, arrV_store]
  congr 2
  funext q
  by_cases hq : q = x.toNatClampNeg
  · subst hq
    simp [updV, upd, sp_i2b, narrow]
  · simp [updV, upd, hq]
theorem at_last {i N : Nat} {f : Nat → Int64} {x : Int32} {v : Int64} {σ1 : sx_H} (hi : σ[i]? = some (.inl (.long, N, .inr (.inl f)))) (hr : sp_in x N = true) (hs : σ.set i (.inl (.long, N, .inr (.inl (vp_updL f x.toNatClampNeg v)))) = σ1) (hd : decode Y.2.1 pc = .ok (.lastore, 1)) (kk : sx_AtZ D b K Y R Z (pc + 1) lv st σ1 k n) : sx_AtZ D b K Y R Z pc lv (.long v :: .int x :: .ref (b + i) :: st) σ k n := by
  intro p l e s m args below meth c H locs ls C0 V S hl
  obtain ⟨hz, cA, hP, hT⟩ := id V
  refine W.last C0.1 C0.2.1 (hP.arr hi (by decide)) ((hT i _ _ hi (by decide)).1 N (fun j => .long (f j))) (fun q => by cases q) (by show ¬ (x < 0 ∨ (arrV _ _ _).slots.size ≤ _); rw [arrV_size]; exact sp_in_vp hr) rfl rfl hd fun H1 e z oq => ?_
  refine kk _ _ _ _ _ _ _ _ _ _ _ _ C0 ?_ (S.put z oq (Nat.le_add_right b i)) hl
  rw [← hs]
  refine sx_V.arr hz hP hT hi (by decide) ?_ z oq
  rw [e, vp_cell_l, vp_cell_l, arrV_store]
  congr 2
  funext q
  by_cases hq : q = x.toNatClampNeg
  · subst hq
    simp [updV, vp_updL]
  · simp [updV, vp_updL, hq]
end
