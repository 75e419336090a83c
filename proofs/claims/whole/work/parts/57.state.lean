/-- the best pairing, by side and node -/
noncomputable def bst (sz : Nat → Nat) (E : Nat → Nat → Bool) : Nat → Nat → Option Nat := Classical.epsilon (fun mt : Nat → Nat → Option Nat => Best (sz 0) E (mt 0) (mt 1) (sz 0))
theorem bst_eq {sz : Nat → Nat} {E : Nat → Nat → Bool} {f f' : Nat → Option Nat} (hE : Rg (sz 0) (sz 1) E) (h : Best (sz 0) E f f' (sz 0)) : f = bst sz E 0 ∧ f' = bst sz E 1 := by
  have hs := Classical.epsilon_spec (p := fun mt : Nat → Nat → Option Nat => Best (sz 0) E (mt 0) (mt 1) (sz 0)) ⟨fun s => if s = 0 then f else f', h⟩
  exact best_full hE h hs
theorem bst_best {sz : Nat → Nat} {E : Nat → Nat → Bool} {f f' : Nat → Option Nat} (h : Best (sz 0) E f f' (sz 0)) : Best (sz 0) E (bst sz E 0) (bst sz E 1) (sz 0) :=
  Classical.epsilon_spec (p := fun mt : Nat → Nat → Option Nat => Best (sz 0) E (mt 0) (mt 1) (sz 0)) ⟨fun s => if s = 0 then f else f', h⟩
def XL (h : PH) (x B : Nat) : Prop := hK h x = 15 ∧ hR h x 0 = x + 1 ∧ hR h x 1 = x + 6 ∧ hR h x 2 = x + 17 ∧ hR h x 3 = x + 22 ∧ hR h x 4 = x + 26 ∧ hR h x 5 = x + 31 ∧ hR h x 6 = x + 42 ∧ 0 < x ∧ x + 45 ≤ B ∧ B ≤ hN h
def KN (v : Int32) (c : Nat) : Prop := v = -1 ∨ ∃ k, k ≤ c ∧ v = nI k
def CG (h : PH) (x B L c : Nat) (sz : Nat → Nat) (E : Nat → Nat → Bool) : Prop :=
  GS h (x + 1) 50 sz E ∧ PL h (x + 6) (x + 1) 50 ∧ BL h (x + 17) (x + 6) (x + 1) ∧ TL h (x + 22) (x + 17) (x + 1) B ∧ TW h (x + 22) B L ∧ hI h (x + 1) 3 = nI c ∧
  (KN (hI h (x + 6) 8) c ∧ (hI h (x + 6) 8 = nI c → PF h (x + 6) 50 sz E)) ∧ (KN (hI h (x + 17) 7) c ∧ (hI h (x + 17) 7 = nI c → BF h (x + 17) sz E)) ∧ (KN (hI h (x + 22) 6) c ∧ (hI h (x + 22) 6 = nI c → TF h (x + 22) sz E))
def CU (h : PH) (x c n : Nat) (U : Nat → Nat → Bool) : Prop :=
  GS h (x + 26) 40 (fun _ => n) U ∧ PL h (x + 31) (x + 26) 40 ∧ OL h (x + 42) (x + 31) (x + 26) ∧ SPO U ∧ hI h (x + 26) 3 = nI c ∧
  (KN (hI h (x + 31) 8) c ∧ (hI h (x + 31) 8 = nI c → PF h (x + 31) 40 (fun _ => n) U)) ∧ (KN (hI h (x + 42) 5) c ∧ (hI h (x + 42) 5 = nI c → OF h (x + 42) (fun _ => n) U))
variable {G : GG} {h h' : PH} {x B L c n : Nat} {sz : Nat → Nat} {E U : Nat → Nat → Bool}
theorem XL.so {lo hi : Nat} (hx : XL h x B) (so : SO lo hi h h') : XL h' x B := by
  obtain ⟨a1, a2, a3, a4, -⟩ := so
  unfold XL at *
  rw [a1, a3, a4]
  exact hx
theorem XL.to (hx : XL h x B) (to : TO (x + 22) B h h') : XL h' x B := by
  obtain ⟨q1, q2, q3, q4, q5, q6, q7, q8, q9, q10, q11⟩ := hx
  obtain ⟨t1, t2, t3, t4⟩ := to
  have r := fun j => t3 x (by omega) j (by omega)
  exact ⟨(t2 x (by omega)).1.trans q1, (r 0).trans q2, (r 1).trans q3, (r 2).trans q4, (r 3).trans q5, (r 4).trans q6, (r 5).trans q7, (r 6).trans q8, q9, q10, by omega⟩
theorem CG.so {lo hi : Nat} (hc : CG h x B L c sz E) (so : SO lo hi h h') (hd : hi ≤ x + 1 ∨ x + 26 ≤ lo) : CG h' x B L c sz E := by
  obtain ⟨q1, q2, q3, q4, q5, q6, ⟨q7, q8⟩, ⟨q9, q10⟩, q11, q12⟩ := hc
  have o6 := so.2.2.2.2.2
  have i1 : hI h' (x + 1) 3 = hI h (x + 1) 3 := (o6 (x + 1) (by omega)).1 3
  have i6 : hI h' (x + 6) 8 = hI h (x + 6) 8 := (o6 (x + 6) (by omega)).1 8
  have i17 : hI h' (x + 17) 7 = hI h (x + 17) 7 := (o6 (x + 17) (by omega)).1 7
  have i21 : hI h' (x + 22) 6 = hI h (x + 22) 6 := (o6 (x + 22) (by omega)).1 6
  refine ⟨q1.so so (by omega), q2.so so, q3.so so, q4.so so, q5.so so, i1.trans q6, ⟨by rw [i6]; exact q7, fun z => (q8 (i6 ▸ z)).ag (so.ag (by omega))⟩, ⟨by rw [i17]; exact q9, fun z => (q10 (i17 ▸ z)).ag (so.ag (by omega))⟩, by rw [i21]; exact q11, fun z => ?_⟩
  obtain ⟨a, z1, z2⟩ := q12 (i21 ▸ z)
  exact ⟨a, z1, ((o6 (x + 22) (by omega)).2 5).trans z2⟩
theorem CU.ag (hc : CU h x c n U) (a : AG (x + 26) (x + 45) h h') : CU h' x c n U := by
  obtain ⟨q1, q2, q3, q4, q5, ⟨q6, q7⟩, q8, q9⟩ := hc
  have i1 : hI h' (x + 26) 3 = hI h (x + 26) 3 := (a (x + 26) (by omega) (by omega)).2.2.2.1 3
  have i6 : hI h' (x + 31) 8 = hI h (x + 31) 8 := (a (x + 31) (by omega) (by omega)).2.2.2.1 8
  have i7 : hI h' (x + 42) 5 = hI h (x + 42) 5 := (a (x + 42) (by omega) (by omega)).2.2.2.1 5
  exact ⟨q1.ag (a.sub (by omega) (by omega)), q2.ag (a.sub (by omega) (by omega)), q3.ag (a.sub (by omega) (by omega)), q4, i1.trans q5, ⟨by rw [i6]; exact q6, fun z => (q7 (i6 ▸ z)).ag (a.sub (by omega) (by omega))⟩, by rw [i7]; exact q8, fun z => (q9 (i7 ▸ z)).ag (a.sub (by omega) (by omega))⟩
theorem CU.so {lo hi : Nat} (hc : CU h x c n U) (so : SO lo hi h h') (hd : hi ≤ x + 26 ∨ x + 45 ≤ lo) : CU h' x c n U := hc.ag (so.ag (by omega))
theorem KN.self {c : Nat} : KN (nI c) c := Or.inr ⟨c, Nat.le_refl _, rfl⟩
theorem KN.old {v : Int32} {c : Nat} (hv : KN v c) (hc : c + 1 < 2 ^ 31) : KN v (c + 1) ∧ v ≠ nI (c + 1) := by
  rcases hv with e | ⟨k, h1, h2⟩
  · refine ⟨Or.inl e, fun z => ?_⟩
    rw [e] at z
    have := nI_pos (n := c + 1) hc
    rw [← z] at this
    exact this (by decide)
  · refine ⟨Or.inr ⟨k, by omega, h2⟩, fun z => ?_⟩
    rw [h2] at z
    have := (nI_eq (by omega) hc).1 z
    omega
/-- the graph changed: what was worked out before is old -/
theorem CG.chg {sz' : Nat → Nat} {E' : Nat → Nat → Bool} (hc : CG h x B L c sz E) (so : SO (x + 1) (x + 6) h h') (ch : chg h h' (x + 1)) (hg : GS h' (x + 1) 50 sz' E') (hb : c + 1 < 2 ^ 31) : CG h' x B L (c + 1) sz' E' := by
  obtain ⟨q1, q2, q3, q4, q5, q6, ⟨q7, q8⟩, ⟨q9, q10⟩, q11, q12⟩ := hc
  have o6 := so.2.2.2.2.2
  have i6 : hI h' (x + 6) 8 = hI h (x + 6) 8 := (o6 (x + 6) (by omega)).1 8
  have i17 : hI h' (x + 17) 7 = hI h (x + 17) 7 := (o6 (x + 17) (by omega)).1 7
  have i21 : hI h' (x + 22) 6 = hI h (x + 22) 6 := (o6 (x + 22) (by omega)).1 6
  have i1 : hI h' (x + 1) 3 = nI (c + 1) := by rw [ch 3, if_pos rfl, q6, nI_1]
  refine ⟨hg, q2.so so, q3.so so, q4.so so, q5.so so, i1, ⟨by rw [i6]; exact (q7.old hb).1, fun z => ((q7.old hb).2 (i6 ▸ z)).elim⟩, ⟨by rw [i17]; exact (q9.old hb).1, fun z => ((q9.old hb).2 (i17 ▸ z)).elim⟩, by rw [i21]; exact (q11.old hb).1, fun z => ((q11.old hb).2 (i21 ▸ z)).elim⟩
theorem CU.chg {n' : Nat} {U' : Nat → Nat → Bool} (hc : CU h x c n U) (so : SO (x + 26) (x + 31) h h') (ch : hI h' (x + 26) 3 = nI (c + 1) ∨ hI h' (x + 26) 3 = nI (c + 2)) (hg : GS h' (x + 26) 40 (fun _ => n') U') (hU : SPO U') (hb : c + 2 < 2 ^ 31) : ∃ c', c' ≤ c + 2 ∧ CU h' x c' n' U' := by
  obtain ⟨q1, q2, q3, q4, q5, ⟨q6, q7⟩, q8, q9⟩ := hc
  have o6 := so.2.2.2.2.2
  have i6 : hI h' (x + 31) 8 = hI h (x + 31) 8 := (o6 (x + 31) (by omega)).1 8
  have i7 : hI h' (x + 42) 5 = hI h (x + 42) 5 := (o6 (x + 42) (by omega)).1 5
  have a1 := q6.old (c := c) (by omega)
  have a2 := a1.1.old (c := c + 1) hb
  have b1 := q8.old (c := c) (by omega)
  have b2 := b1.1.old (c := c + 1) hb
  rcases ch with ch | ch
  · exact ⟨c + 1, by omega, hg, q2.so so, q3.so so, hU, ch, ⟨by rw [i6]; exact a1.1, fun z => (a1.2 (i6 ▸ z)).elim⟩, by rw [i7]; exact b1.1, fun z => (b1.2 (i7 ▸ z)).elim⟩
  · exact ⟨c + 2, by omega, hg, q2.so so, q3.so so, hU, ch, ⟨by rw [i6]; exact a2.1, fun z => (a2.2 (i6 ▸ z)).elim⟩, by rw [i7]; exact b2.1, fun z => (b2.2 (i7 ▸ z)).elim⟩
theorem rf_P (hc : CG h x B L c sz E) : Ev G m_X3_refresh [.ref (x + 6)] h 0 0 (RV (fun h1 => SO (x + 6) (x + 17) h h1 ∧ CG h1 x B L c sz E ∧ PF h1 (x + 6) 50 sz E)) := by
  obtain ⟨q1, q2, q3, q4, q5, q6, ⟨q7, q8⟩, ⟨q9, q10⟩, q11, q12⟩ := hc
  refine (ev_refreshP q1 q2 (fun z => q8 (by rw [z, q6]))).mono ?_
  rintro v h1 ⟨e, so, k1, pf⟩
  have o6 := so.2.2.2.2.2
  have i17 : hI h1 (x + 17) 7 = hI h (x + 17) 7 := (o6 (x + 17) (by omega)).1 7
  have i21 : hI h1 (x + 22) 6 = hI h (x + 22) 6 := (o6 (x + 22) (by omega)).1 6
  refine ⟨e, so, ⟨q1.so so (by omega), q2.so so, q3.so so, q4.so so, q5.so so, ((o6 (x + 1) (by omega)).1 3).trans q6, ⟨by rw [k1, q6]; exact KN.self, fun _ => pf⟩, ⟨by rw [i17]; exact q9, fun z => (q10 (i17 ▸ z)).ag (so.ag (by omega))⟩, by rw [i21]; exact q11, fun z => ?_⟩, pf⟩
  obtain ⟨a, z1, z2⟩ := q12 (i21 ▸ z)
  exact ⟨a, z1, ((o6 (x + 22) (by omega)).2 5).trans z2⟩
theorem rf_B (hc : CG h x B L c sz E) (hp : PF h (x + 6) 50 sz E) : Ev G m_X0_refresh [.ref (x + 17)] h 0 0 (RV (fun h1 => SO (x + 17) (x + 22) h h1 ∧ CG h1 x B L c sz E ∧ PF h1 (x + 6) 50 sz E ∧ BF h1 (x + 17) sz E)) := by
  obtain ⟨q1, q2, q3, q4, q5, q6, ⟨q7, q8⟩, ⟨q9, q10⟩, q11, q12⟩ := hc
  refine (ev_refreshB q1 q2 hp q3 (fun z => q10 (by rw [z, q6]))).mono ?_
  rintro v h1 ⟨e, so, k1, bf⟩
  have o6 := so.2.2.2.2.2
  have i6 : hI h1 (x + 6) 8 = hI h (x + 6) 8 := (o6 (x + 6) (by omega)).1 8
  have i21 : hI h1 (x + 22) 6 = hI h (x + 22) 6 := (o6 (x + 22) (by omega)).1 6
  have pf := hp.ag (so.ag (x := x + 6) (z := x + 6 + 11) (by omega))
  refine ⟨e, so, ⟨q1.so so (by omega), q2.so so, q3.so so, q4.so so, q5.so so, ((o6 (x + 1) (by omega)).1 3).trans q6, ⟨by rw [i6]; exact q7, fun _ => pf⟩, ⟨by rw [k1, q6]; exact KN.self, fun _ => bf⟩, by rw [i21]; exact q11, fun z => ?_⟩, pf, bf⟩
  obtain ⟨a, z1, z2⟩ := q12 (i21 ▸ z)
  exact ⟨a, z1, ((o6 (x + 22) (by omega)).2 5).trans z2⟩
theorem rf_U (hc : CU h x c n U) : Ev G m_X3_refresh [.ref (x + 31)] h 0 0 (RV (fun h1 => SO (x + 31) (x + 42) h h1 ∧ CU h1 x c n U ∧ PF h1 (x + 31) 40 (fun _ => n) U)) := by
  obtain ⟨q1, q2, q3, q4, q5, ⟨q6, q7⟩, q8, q9⟩ := hc
  refine (ev_refreshP q1 q2 (fun z => q7 (by rw [z, q5]))).mono ?_
  rintro v h1 ⟨e, so, k1, pf⟩
  have o6 := so.2.2.2.2.2
  have i7 : hI h1 (x + 42) 5 = hI h (x + 42) 5 := (o6 (x + 42) (by omega)).1 5
  exact ⟨e, so, ⟨q1.so so (by omega), q2.so so, q3.so so, q4, ((o6 (x + 26) (by omega)).1 3).trans q5, ⟨by rw [k1, q5]; exact KN.self, fun _ => pf⟩, by rw [i7]; exact q8, fun z => (q9 (i7 ▸ z)).ag (so.ag (by omega))⟩, pf⟩
theorem rf_O (hc : CU h x c n U) (hp : PF h (x + 31) 40 (fun _ => n) U) : Ev G m_X2_refresh [.ref (x + 42)] h 0 0 (RV (fun h1 => SO (x + 42) (x + 45) h h1 ∧ CU h1 x c n U ∧ PF h1 (x + 31) 40 (fun _ => n) U ∧ OF h1 (x + 42) (fun _ => n) U)) := by
  obtain ⟨q1, q2, q3, q4, q5, ⟨q6, q7⟩, q8, q9⟩ := hc
  refine (ev_refreshO q1 rfl (q1.2.1 0 (by decide)).2 q4 q2 hp q3 (fun z => q9 (by rw [z, q5]))).mono ?_
  rintro v h1 ⟨e, so, k1, of⟩
  have o6 := so.2.2.2.2.2
  have i6 : hI h1 (x + 31) 8 = hI h (x + 31) 8 := (o6 (x + 31) (by omega)).1 8
  have pf := hp.ag (so.ag (x := x + 31) (z := x + 31 + 11) (by omega))
  exact ⟨e, so, ⟨q1.so so (by omega), q2.so so, q3.so so, q4, ((o6 (x + 26) (by omega)).1 3).trans q5, ⟨by rw [i6]; exact q6, fun _ => pf⟩, by rw [k1, q5]; exact KN.self, fun _ => of⟩, pf, of⟩
