section READ
noncomputable def dc (P : Prop) : Bool := @decide P (Classical.propDecidable P)
theorem dc_iff {P : Prop} : dc P = true ↔ P := by
  unfold dc
  exact @decide_eq_true_iff P (Classical.propDecidable P)
theorem dc_no {P : Prop} : dc P = false ↔ ¬ P := by
  rw [← Bool.not_eq_true, dc_iff]
theorem dc_congr {P Q : Prop} (h : P ↔ Q) : dc P = dc Q := by
  cases e : dc Q with
  | true => exact dc_iff.mpr (h.mpr (dc_iff.mp e))
  | false => exact dc_no.mpr (fun z => dc_no.mp e (h.mp z))
theorem dc_eq {b : Bool} {P : Prop} (h : b = true ↔ P) : b = dc P := by
  cases e : dc P with
  | true => exact h.mpr (dc_iff.mp e)
  | false =>
    cases b with
    | false => rfl
    | true => exact absurd (h.mp rfl) (dc_no.mp e)
theorem cnt_cut {n m : Nat} {p : Nat → Bool} (h : m ≤ n) (hp : ∀ i, m ≤ i → i < n → p i = false) : cnt n p = cnt m p := by
  induction n with
  | zero => have : m = 0 := by omega
            subst this; rfl
  | succ n ih =>
    rcases Nat.lt_or_ge n m with q | q
    · have : m = n + 1 := by omega
      subst this; rfl
    · rw [cnt, hp n q (by omega), ih q (fun i h1 h2 => hp i h1 (by omega))]; simp
/-- the part of a node -/
noncomputable def prt (sz : Nat → Nat) (E : Nat → Nat → Bool) (s i : Nat) : Nat := if dc (mis sz E s i) then 2 * s else if dc (ptA sz E s i) then 2 * (1 - s) else 1
variable {G : GG} {h : PH} {p g m : Nat} {sz : Nat → Nat} {E : Nat → Nat → Bool} {mt : Nat → Nat → Option Nat} {op : Nat → Nat → Bool}
theorem prt_mis {s i : Nat} (h : mis sz E s i) : prt sz E s i = 2 * s := by
  unfold prt; rw [dc_iff.mpr h]; rfl
theorem prt_adj {s i : Nat} (h0 : ¬ mis sz E s i) (h : ptA sz E s i) : prt sz E s i = 2 * (1 - s) := by
  unfold prt; rw [dc_no.mpr h0, dc_iff.mpr h]; rfl
theorem prt_in {s i : Nat} (h0 : ¬ mis sz E s i) (h : ¬ ptA sz E s i) : prt sz E s i = 1 := by
  unfold prt; rw [dc_no.mpr h0, dc_no.mpr h]; rfl
theorem prt_cases (sz : Nat → Nat) (E : Nat → Nat → Bool) (s i : Nat) : (mis sz E s i ∧ prt sz E s i = 2 * s) ∨ (¬ mis sz E s i ∧ ptA sz E s i ∧ prt sz E s i = 2 * (1 - s)) ∨ (¬ mis sz E s i ∧ ¬ ptA sz E s i ∧ prt sz E s i = 1) := by
  by_cases h0 : mis sz E s i
  · exact Or.inl ⟨h0, prt_mis h0⟩
  · by_cases h1 : ptA sz E s i
    · exact Or.inr (Or.inl ⟨h0, h1, prt_adj h0 h1⟩)
    · exact Or.inr (Or.inr ⟨h0, h1, prt_in h0 h1⟩)
theorem ptA_lt (hE : Rg (sz 0) (sz 1) E) {s i : Nat} (hs : s < 2) (h : ptA sz E s i) : i < sz s := by
  obtain ⟨j, -, z⟩ := h
  match s, hs with
  | 0, _ => exact (hE i j z).1
  | 1, _ => exact (hE j i z).2
theorem prt_bt (hE : Rg (sz 0) (sz 1) E) (hP : PP h p sz E) {s q : Nat} (hs : s < 2) (hq : q < 3) (i : Nat) : bt (hJ h (p + 7 + s) q) i = true ↔ i < sz s ∧ prt sz E s i = q := by
  obtain ⟨p1, p2, p3⟩ := hP s hs
  have hq' : q = 2 * s ∨ q = 2 * (1 - s) ∨ q = 1 := by omega
  rcases hq' with e | e | e
  · rw [e, p1 i]
    constructor
    · intro z; exact ⟨z.1, prt_mis z⟩
    · rintro ⟨z1, z2⟩
      rcases prt_cases sz E s i with w | w | w
      · exact w.1
      · omega
      · omega
  · rw [e, p2 i]
    constructor
    · intro z
      refine ⟨ptA_lt hE hs z, prt_adj (fun w => mis_not hE hs w z) z⟩
    · rintro ⟨z1, z2⟩
      rcases prt_cases sz E s i with w | w | w
      · omega
      · exact w.2.1
      · omega
  · rw [e, p3 i]
    constructor
    · intro z; exact ⟨z.1, prt_in z.2.1 z.2.2⟩
    · rintro ⟨z1, z2⟩
      rcases prt_cases sz E s i with w | w | w
      · omega
      · omega
      · exact ⟨z1, w.1, w.2.1⟩
theorem ev_pairs (hl : PL h p g m) : Ev G m_X3_pairs [.ref p] h 0 0 (Ret (some (.int (hI h p 7))) h) := by
  refine Ev.of pn_X3_pairs (Nat.le_of_ble_eq_true rfl) ?_
  exact s_X3_pairs_0 hl.1 Zok
theorem ev_nodesOfPart (hl : PL h p g m) {s q : Nat} (hs : s < 2) (hq : q < 3) : Ev G m_X3_nodesOfPart [.ref p, .int (nI s), .int (nI q)] h 0 0 (Ret (some (.long (hJ h (p + 7 + s) q))) h) := by
  obtain ⟨k0, r0, r1, r2, r3, r4, r5, r6, k1, n1, ks, kp, ko, kt, kts, kq, kc, hm, g0, gp⟩ := hl
  obtain ⟨a1, a2, a3⟩ := kts s hs
  have cs : Int32.toNatClampNeg (nI s) = s := nI_clamp (by omega)
  have cq : Int32.toNatClampNeg (nI q) = q := nI_clamp (by omega)
  refine Ev.of pn_X3_nodesOfPart (Nat.le_of_ble_eq_true rfl) ?_
  refine s_X3_nodesOfPart_0 k0 (by rw [r4]; omega) (Or.inr (by rw [r4]; exact kt.1)) (by rw [r4, kt.2]; exact vp_in_nI hs (by decide)) (by rw [r4, cs, a3]; omega) (by rw [r4, cs, a3]; exact a1) (by rw [r4, cs, a3, a2]; exact vp_in_nI hq (by decide)) ?_
  rw [r4, cs, a3, cq]
  exact Zok
theorem ev_partOf (hl : PL h p g m) (hE : Rg (sz 0) (sz 1) E) (hP : PP h p sz E) {s i : Nat} (hs : s < 2) (hi : i < sz s) (hi2 : i < 64) : Ev G m_X3_partOf [.ref p, .int (nI s), .int (nI i)] h 0 0 (Ret (some (.int (nI (prt sz E s i)))) h) := by
  obtain ⟨k0, r0, r1, r2, r3, r4, r5, r6, k1, n1, ks, kp, ko, kt, kts, kq, kc, hm, g0, gp⟩ := hl
  obtain ⟨a1, a2, a3⟩ := kts s hs
  have cs : Int32.toNatClampNeg (nI s) = s := nI_clamp (by omega)
  have rr : hR h (hR h p 4) (Int32.toNatClampNeg (nI s)) = p + 7 + s := by rw [r4, cs, a3]
  have b0 := prt_bt hE hP hs (q := 0) (by decide) i
  have b2 := prt_bt hE hP hs (q := 2) (by decide) i
  refine Ev.of pn_X3_partOf (Nat.le_of_ble_eq_true rfl) ?_
  refine s_X3_partOf_0 (x1 := b2i (bt (hJ h (p + 7 + s) 0) i)) (x2 := b2i (bt (hJ h (p + 7 + s) 2) i)) k0 (by rw [r4]; omega) (Or.inr (by rw [r4]; exact kt.1)) (by rw [r4, kt.2]; exact vp_in_nI hs (by decide)) (by rw [rr]; omega) (by rw [rr]; exact a1) (by rw [rr, a2]; exact vp_in_nI (n := 0) (by decide) (by decide)) (by rw [rr]; exact ev_contains _ hi2) (fun _ => by rw [rr, a2]; exact vp_in_nI (n := 2) (by decide) (by decide)) (fun _ => by rw [rr]; exact ev_contains _ hi2) (fun z1 z2 => ?_) (fun z1 z2 => ?_) (fun z1 => ?_)
  · have z1 := b2i_0.mp z1
    have z2 := b2i_0.mp z2
    have : prt sz E s i = 1 := by
      have w0 : ¬ prt sz E s i = 0 := fun e => by rw [b0.mpr ⟨hi, e⟩] at z1; cases z1
      have w2 : ¬ prt sz E s i = 2 := fun e => by rw [b2.mpr ⟨hi, e⟩] at z2; cases z2
      rcases prt_cases sz E s i with w | w | w <;> omega
    rw [this]; exact Zok
  · rw [(b2.mp (b2i_n.mp z2)).2]; exact Zok
  · rw [(b0.mp (b2i_n.mp z1)).2]; exact Zok
/-- in cover w -/
noncomputable def cov (sz : Nat → Nat) (E : Nat → Nat → Bool) (w s i : Nat) : Bool := dc (if w = s then ¬ mis sz E s i else ptA sz E s i)
theorem ev_isInCover (hl : PL h p g m) (hE : Rg (sz 0) (sz 1) E) (hP : PP h p sz E) {w s i : Nat} (hw : w < 2) (hs : s < 2) (hi : i < sz s) (hi2 : i < 64) : Ev G m_X3_isInCover [.ref p, .int (nI w), .int (nI s), .int (nI i)] h 0 0 (Ret (some (.int (b2i (cov sz E w s i)))) h) := by
  have hp := ev_partOf (G := G) hl hE hP hs hi hi2
  refine Ev.of pn_X3_isInCover (Nat.le_of_ble_eq_true rfl) ?_
  have e0 : nI s = 0 ↔ s = 0 := by rw [← nI_0]; exact nI_eq (by omega) (by omega)
  have hlt : prt sz E s i < 3 := by rcases prt_cases sz E s i with w | w | w <;> omega
  have ep : ∀ q, q < 3 → (nI (prt sz E s i) = nI q ↔ prt sz E s i = q) := fun q hq => nI_eq (by omega) (by omega)
  have ep0 := ep 0 (by decide)
  have ep1 := ep 1 (by decide)
  have ep2 := ep 2 (by decide)
  have ews : nI s = nI w ↔ s = w := nI_eq (by omega) (by omega)
  have cT : (if w = s then ¬ mis sz E s i else ptA sz E s i) → b2i (cov sz E w s i) = 1 := fun z => by
    unfold cov; rw [dc_iff.mpr z]; rfl
  have cF : ¬ (if w = s then ¬ mis sz E s i else ptA sz E s i) → b2i (cov sz E w s i) = 0 := fun z => by
    unfold cov; rw [dc_no.mpr z]; rfl
  have hx : ¬ (mis sz E s i ∧ ptA sz E s i) := fun z => mis_not hE hs z.1 z.2
  refine s_X3_isInCover_0 hp hl.1 (fun z1 z2 z3 => ?_) (fun z1 z2 z3 => ?_) (fun z1 z2 z3 => ?_) (fun z1 z2 z3 => ?_) (fun z1 z2 => ?_) (fun z1 z2 => ?_)
  · have z1 : ¬ prt sz E s i = 1 := fun e => z1 (ep1.mpr e)
    have z2 : ¬ s = 0 := fun e => z2 (e0.mpr e)
    have z3 : ¬ prt sz E s i = 0 := fun e => z3 (ep0.mpr e)
    have hm : mis sz E s i := by
      rcases prt_cases sz E s i with w | w | w
      · exact w.1
      · omega
      · omega
    rw [cF (by split; exact fun z => z hm; exact fun z => hx ⟨hm, z⟩)]
    exact Zok
  · have z2 : ¬ s = 0 := fun e => z2 (e0.mpr e)
    have z3 : prt sz E s i = 0 := ep0.mp z3
    have hm : ¬ mis sz E s i ∧ ptA sz E s i := by
      rcases prt_cases sz E s i with w | w | w
      · omega
      · exact ⟨w.1, w.2.1⟩
      · omega
    rw [cT (by split; exact hm.1; exact hm.2)]
    exact Zok
  · have z1 : ¬ prt sz E s i = 1 := fun e => z1 (ep1.mpr e)
    have z2 : s = 0 := e0.mp z2
    have z3 : ¬ prt sz E s i = 2 := fun e => z3 (ep2.mpr e)
    have hm : mis sz E s i := by
      rcases prt_cases sz E s i with w | w | w
      · exact w.1
      · omega
      · omega
    rw [cF (by split; exact fun z => z hm; exact fun z => hx ⟨hm, z⟩)]
    exact Zok
  · have z2 : s = 0 := e0.mp z2
    have z3 : prt sz E s i = 2 := ep2.mp z3
    have hm : ¬ mis sz E s i ∧ ptA sz E s i := by
      rcases prt_cases sz E s i with w | w | w
      · omega
      · exact ⟨w.1, w.2.1⟩
      · omega
    rw [cT (by split; exact hm.1; exact hm.2)]
    exact Zok
  · have z1 : prt sz E s i = 1 := ep1.mp z1
    have z2 : ¬ s = w := fun e => z2 (ews.mpr e)
    have hm : ¬ mis sz E s i ∧ ¬ ptA sz E s i := by
      rcases prt_cases sz E s i with w | w | w
      · omega
      · omega
      · exact ⟨w.1, w.2.1⟩
    rw [cF (by rw [if_neg (fun e => z2 e.symm)]; exact hm.2)]
    exact Zok
  · have z1 : prt sz E s i = 1 := ep1.mp z1
    have z2 : s = w := ews.mp z2
    have hm : ¬ mis sz E s i ∧ ¬ ptA sz E s i := by
      rcases prt_cases sz E s i with w | w | w
      · omega
      · omega
      · exact ⟨w.1, w.2.1⟩
    rw [cT (by rw [if_pos z2.symm]; exact hm.1)]
    exact Zok
/-- how many nodes of both sides are in a part -/
noncomputable def inPrt (sz : Nat → Nat) (E : Nat → Nat → Bool) (q : Nat) : Nat := cnt (sz 0) (fun i => decide (prt sz E 0 i = q)) + cnt (sz 1) (fun i => decide (prt sz E 1 i = q))
theorem ev_nodesInPart (hl : PL h p g m) (hE : Rg (sz 0) (sz 1) E) (hP : PP h p sz E) (hsz : ∀ s, s < 2 → sz s ≤ 50) {q : Nat} (hq : q < 3) : Ev G m_X3_nodesInPart [.ref p, .int (nI q)] h 0 0 (Ret (some (.int (nI (inPrt sz E q)))) h) := by
  obtain ⟨k0, r0, r1, r2, r3, r4, r5, r6, k1, n1, ks, kp, ko, kt, kts, kq, kc, hm, g0, gp⟩ := hl
  obtain ⟨a1, a2, a3⟩ := kts 0 (by decide)
  obtain ⟨b1, b2, b3⟩ := kts 1 (by decide)
  have cq : Int32.toNatClampNeg (nI q) = q := nI_clamp (by omega)
  have hc : ∀ s, s < 2 → cnt 64 (bt (hJ h (p + 7 + s) q)) = cnt (sz s) (fun i => decide (prt sz E s i = q)) := fun s hs => by
    rw [cnt_cut (m := sz s) (by have := hsz s hs; omega) (fun i h1 h2 => ?_)]
    · refine cnt_congr (fun i hi => ?_)
      have := prt_bt hE hP hs hq i
      cases e : bt (hJ h (p + 7 + s) q) i with
      | true => exact (decide_eq_true (this.mp e).2).symm
      | false =>
        symm
        apply decide_eq_false
        intro w
        rw [this.mpr ⟨hi, w⟩] at e; cases e
    · cases e : bt (hJ h (p + 7 + s) q) i with
      | false => rfl
      | true => have := ((prt_bt hE hP hs hq i).mp e).1; omega
  refine Ev.of pn_X3_nodesInPart (Nat.le_of_ble_eq_true rfl) ?_
  refine s_X3_nodesInPart_0 k0 (by rw [r4]; omega) (Or.inr (by rw [r4]; exact kt.1)) (by rw [r4, kt.2]; exact vp_in_nI (n := 0) (by decide) (by decide)) (by rw [r4, a3]; omega) (by rw [r4, a3]; exact a1) (by rw [r4, a3, a2]; exact vp_in_nI hq (by decide)) (by rw [r4, a3, cq]; exact ev_bc64 _) (by rw [r4, kt.2]; exact vp_in_nI (n := 1) (by decide) (by decide)) (by rw [r4, b3]; omega) (by rw [r4, b3]; exact b1) (by rw [r4, b3, b2]; exact vp_in_nI hq (by decide)) (by rw [r4, b3, cq]; exact ev_bc64 _) ?_
  rw [nI_add, hc 0 (by decide), hc 1 (by decide)]
  exact Zok
end READ
