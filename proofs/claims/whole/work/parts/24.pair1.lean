section PAIR1
def enc (o : Option Nat) : Int32 := match o with
  | none => -3
  | some r => nI r
theorem enc_no {o : Option Nat} (h : ∀ r, o = some r → r < 2 ^ 31) : enc o = -3 ↔ o = none := by
  cases o with
  | none => simp [enc]
  | some r =>
    have := h r rfl
    simp only [enc, reduceCtorEq, iff_false]
    intro e
    have e2 := nI_toInt this
    rw [e] at e2
    have : (-3 : Int32).toInt = -3 := by decide
    omega
/-- a Pairing at p over the graph at g -/
def PL (h : PH) (p g m : Nat) : Prop := hK h p = 13 ∧ hR h p 0 = g ∧ hR h p 1 = p + 1 ∧ hR h p 2 = p + 4 ∧ hR h p 3 = p + 5 ∧ hR h p 4 = p + 6 ∧ hR h p 5 = p + 9 ∧ hR h p 6 = p + 10 ∧ hK h (p + 1) = 5 ∧ hL h (p + 1) = 2 ∧
  (∀ s, s < 2 → hK h (p + 2 + s) = 2 ∧ hL h (p + 2 + s) = m ∧ hR h (p + 1) s = p + 2 + s) ∧ (hK h (p + 4) = 3 ∧ hL h (p + 4) = 2) ∧ (hK h (p + 5) = 3 ∧ hL h (p + 5) = 2) ∧ (hK h (p + 6) = 6 ∧ hL h (p + 6) = 2) ∧
  (∀ s, s < 2 → hK h (p + 7 + s) = 3 ∧ hL h (p + 7 + s) = 3 ∧ hR h (p + 6) s = p + 7 + s) ∧ (hK h (p + 9) = 2 ∧ hL h (p + 9) = m) ∧ (hK h (p + 10) = 2 ∧ hL h (p + 10) = m) ∧ m ≤ 50 ∧ 0 < g ∧ g + 5 ≤ p
theorem PL.so {h h' : PH} {p g m lo hi : Nat} (hp : PL h p g m) (ho : SO lo hi h h') : PL h' p g m := by
  obtain ⟨a1, a2, a3, -⟩ := ho
  unfold PL at *
  rw [a1, a2, a3]
  exact hp
/-- partners and open nodes, by side and node -/
def PS (h : PH) (p m : Nat) (mt : Nat → Nat → Option Nat) (op : Nat → Nat → Bool) : Prop :=
  (∀ s, s < 2 → ∀ i, i < m → hI h (p + 2 + s) i = enc (mt s i)) ∧ (∀ s, s < 2 → ∀ i j, mt s i = some j → i < m ∧ j < m) ∧ (∀ s, s < 2 → ∀ i, bt (hJ h (p + 4) s) i = (mt s i).isSome) ∧ (∀ s, s < 2 → ∀ i, bt (hJ h (p + 5) s) i = op s i)
def pairM (mt : Nat → Nat → Option Nat) (l r : Nat) : Nat → Nat → Option Nat := fun s i => if s = 0 ∧ i = l then some r else if s = 1 ∧ i = r then some l else mt s i
def looM (mt : Nat → Nat → Option Nat) (s i j : Nat) : Nat → Nat → Option Nat := fun t k => if t = s ∧ k = i ∨ t = 1 - s ∧ k = j then none else mt t k
theorem one_sub : ∀ s : Nat, s < 2 → (1 : Int32) - nI s = nI (1 - s) := by decide
variable {G : GG} {h : PH} {p g m : Nat} {sz : Nat → Nat} {E : Nat → Nat → Bool} {mt : Nat → Nat → Option Nat} {op : Nat → Nat → Bool}
theorem PS.so {h' : PH} {lo hi : Nat} (hp : PS h p m mt op) (ho : SO lo hi h h') (hd : p + 6 ≤ lo ∨ hi ≤ p + 2) : PS h' p m mt op := by
  obtain ⟨q1, q2, q3, q4⟩ := hp
  obtain ⟨a1, a2, a3, a4, a5, a6⟩ := ho
  refine ⟨fun s hs i hi => ?_, q2, fun s hs i => ?_, fun s hs i => ?_⟩
  · rw [(a6 (p + 2 + s) (by omega)).1 i]; exact q1 s hs i hi
  · rw [(a6 (p + 4) (by omega)).2 s]; exact q3 s hs i
  · rw [(a6 (p + 5) (by omega)).2 s]; exact q4 s hs i
theorem ev_mateOf (hg : GS h g m sz E) (hl : PL h p g m) (hp : PS h p m mt op) {s i : Nat} (hs : s < 2) (hi : i < sz s) : Ev G m_X3_mateOf [.ref p, .int (nI s), .int (nI i)] h 0 0 (Ret (some (.int (enc (mt s i)))) h) := by
  have e1 := ev_holds (G := G) hg (nI s) (nI i)
  rw [holdB_nI hs] at e1
  have him := (hg.2.1 s hs).2
  obtain ⟨k0, r0, r1, r2, r3, r4, r5, r6, k1, n1, ks, kp, ko, kt, kts, kq, kc, hm, g0, gp⟩ := hl
  rw [inB_nI (by omega), decide_eq_true hi] at e1
  obtain ⟨a1, a2, a3⟩ := ks s hs
  have cs : Int32.toNatClampNeg (nI s) = s := nI_clamp (by omega)
  have ci : Int32.toNatClampNeg (nI i) = i := nI_clamp (by omega)
  refine Ev.of pn_X3_mateOf (Nat.le_of_ble_eq_true rfl) ?_
  refine s_X3_mateOf_0 (x1 := b2i true) k0 (by rw [r0]; omega) (by rw [r0]; exact e1) (by rw [r0]; exact hg.1.1) (fun q => absurd q (by decide)) (by rw [r1]; omega) (Or.inl (by rw [r1]; exact k1)) (fun _ => by rw [r1, n1]; exact vp_in_nI hs (by decide)) (fun _ => by rw [r1, cs, a3]; omega) (fun _ => by rw [r1, cs, a3]; exact a1) (fun _ => by rw [r1, cs, a3, a2]; exact vp_in_nI (by omega) (by omega)) (fun _ => ?_)
  rw [r1, cs, a3, ci, hp.1 s hs i (by omega)]
  exact Zok
theorem ev_bare (hl : PL h p g m) {s : Nat} (hs : s < 2) : Ev G m_X3_bare [.ref p, .int (nI s)] h 0 0 (Ret (some (.long (hJ h (p + 5) s &&& (hJ h (p + 4) s ^^^ (-1))))) h) := by
  obtain ⟨k0, r0, r1, r2, r3, r4, r5, r6, k1, n1, ks, kp, ko, kt, kts, kq, kc, hm, g0, gp⟩ := hl
  have cs : Int32.toNatClampNeg (nI s) = s := nI_clamp (by omega)
  refine Ev.of pn_X3_bare (Nat.le_of_ble_eq_true rfl) ?_
  refine s_X3_bare_0 k0 (by rw [r3]; omega) (by rw [r3]; exact ko.1) (by rw [r3, ko.2]; exact vp_in_nI hs (by decide)) (by rw [r2]; omega) (by rw [r2]; exact kp.1) (by rw [r2, kp.2]; exact vp_in_nI hs (by decide)) ?_
  rw [r3, r2, cs]
  exact Zok
theorem bt_bare (hp : PS h p m mt op) {s : Nat} (hs : s < 2) (i : Nat) (hi : i < 64) : bt (hJ h (p + 5) s &&& (hJ h (p + 4) s ^^^ (-1))) i = (op s i && (mt s i).isNone) := by
  rw [bt_and, bt_not, hp.2.2.1 s hs i, hp.2.2.2 s hs i]
  cases mt s i <;> simp [hi]
theorem ev_openAll (hg : GS h g m sz E) (hl : PL h p g m) (hp : PS h p m mt op) : Ev G m_X3_openAll [.ref p] h 0 0 (RV (fun h' => SO (p + 5) (p + 6) h h' ∧ PS h' p m mt (fun s i => decide (i < sz s)))) := by
  have gs1 := (hg.2.1 0 (by decide)).2
  have gs2 := (hg.2.1 1 (by decide)).2
  have hl' := hl
  obtain ⟨k0, r0, r1, r2, r3, r4, r5, r6, k1, n1, ks, kp, ko, kt, kts, kq, kc, hm, g0, gp⟩ := hl
  refine Ev.of pn_X3_openAll (Nat.le_of_ble_eq_true rfl) ?_
  have so1 : SO (p + 5) (p + 6) h (sJ h (p + 5) 0 (allv (sz 0))) := SO.sJ (by omega) (by omega)
  have e2 := ev_all (G := G) (hg.so so1 (by omega)) (s := 1) (by decide)
  refine s_X3_openAll_0 (x1 := allv (sz 0)) (x2 := allv (sz 1)) k0 (by rw [r3]; omega) (by rw [r0]; omega) (by rw [r0]; exact ev_all hg (s := 0) (by decide)) (by rw [r0]; exact hg.1.1) (by rw [r3]; exact ko.1) (by rw [r3, ko.2]; exact vp_in_nI (n := 0) (by decide) (by decide)) (by rw [r3, r0]; exact e2) (by rw [r3, ko.2]; exact vp_in_nI (n := 1) (by decide) (by decide)) ?_
  rw [r3]
  have so : SO (p + 5) (p + 6) h (sJ (sJ h (p + 5) 0 (allv (sz 0))) (p + 5) 1 (allv (sz 1))) := so1.trans (SO.sJ (by omega) (by omega))
  refine ⟨⟨rfl, so, fun s hs i hi => hp.1 s hs i hi, hp.2.1, fun s hs i => ?_, fun s hs i => ?_⟩, rfl, rfl⟩
  · rw [sJ_ne (by omega), sJ_ne (by omega)]; exact hp.2.2.1 s hs i
  · match s, hs with
    | 0, _ => rw [sJ_nk (by decide), sJ_eq, bt_all (by omega)]
    | 1, _ => rw [sJ_eq, bt_all (by omega)]
theorem ev_pair (hl : PL h p g m) (hp : PS h p m mt op) {l r : Nat} (hL : l < m) (hR' : r < m) : Ev G m_X3_pair [.ref p, .int (nI l), .int (nI r)] h 0 0 (RV (fun h' => SO (p + 2) (p + 5) h h' ∧ PS h' p m (pairM mt l r) op)) := by
  obtain ⟨k0, r0, r1, r2, r3, r4, r5, r6, k1, n1, ks, kp, ko, kt, kts, kq, kc, hm, g0, gp⟩ := hl
  obtain ⟨a1, a2, a3⟩ := ks 0 (by decide)
  obtain ⟨b1, b2, b3⟩ := ks 1 (by decide)
  have cl : Int32.toNatClampNeg (nI l) = l := nI_clamp (by omega)
  have cr : Int32.toNatClampNeg (nI r) = r := nI_clamp (by omega)
  refine Ev.of pn_X3_pair (Nat.le_of_ble_eq_true rfl) ?_
  refine s_X3_pair_0 k0 (by rw [r1]; omega) (Or.inl (by rw [r1]; exact k1)) (by rw [r1, n1]; exact vp_in_nI (n := 0) (by decide) (by decide)) (by rw [r1, a3]; omega) (by rw [r1, a3]; exact a1) (by rw [r1, a3, a2]; exact vp_in_nI hL (by omega)) (by rw [r1, n1]; exact vp_in_nI (n := 1) (by decide) (by decide)) (by rw [r1, b3]; omega) (by rw [r1, b3]; exact b1) (by rw [r1, b3, b2]; exact vp_in_nI hR' (by omega)) (by rw [r2]; omega) (by rw [r2]; exact kp.1) (by rw [r2, kp.2]; exact vp_in_nI (n := 0) (by decide) (by decide)) (by rw [r2, kp.2]; exact vp_in_nI (n := 1) (by decide) (by decide)) ?_
  rw [r1, r2, a3, b3, cl, cr, sJ_nk (show (1 : Nat) ≠ 0 by decide)]
  obtain ⟨q1, q2, q3, q4⟩ := hp
  have so : SO (p + 2) (p + 5) h (sJ (sJ (sI (sI h (p + 2 + 0) l (nI r)) (p + 2 + 1) r (nI l)) (p + 4) 0 (hJ h (p + 4) 0 ||| 1 <<< ((nI l).toInt64 &&& 63))) (p + 4) 1 (hJ h (p + 4) 1 ||| 1 <<< ((nI r).toInt64 &&& 63))) := (((SO.sI (by omega) (by omega)).trans (SO.sI (by omega) (by omega))).trans (SO.sJ (by omega) (by omega))).trans (SO.sJ (by omega) (by omega))
  refine ⟨⟨rfl, so, fun s hs i hi => ?_, fun s hs i j hij => ?_, fun s hs i => ?_, fun s hs i => ?_⟩, rfl, rfl⟩
  · rw [hI_sJ, hI_sJ]
    unfold pairM
    match s, hs with
    | 0, _ =>
      rw [sI_ne (by omega)]
      by_cases e : i = l
      · subst e; rw [sI_eq, if_pos ⟨rfl, rfl⟩]; rfl
      · rw [sI_nk e, if_neg (fun z => e z.2), if_neg (by omega)]; exact q1 0 (by decide) i hi
    | 1, _ =>
      rw [if_neg (by omega)]
      by_cases e : i = r
      · subst e; rw [sI_eq, if_pos ⟨rfl, rfl⟩]; rfl
      · rw [sI_nk e, sI_ne (by omega), if_neg (fun z => e z.2)]; exact q1 1 (by decide) i hi
  · unfold pairM at hij
    split at hij
    · rename_i z; cases hij; omega
    · split at hij
      · rename_i z; cases hij; omega
      · exact q2 s hs i j hij
  · unfold pairM
    match s, hs with
    | 0, _ =>
      rw [sJ_nk (by decide), sJ_eq, bt_or, bt_bit (by omega), q3 0 (by decide) i]
      by_cases e : i = l
      · subst e; simp
      · rw [if_neg (fun z => e z.2), if_neg (by omega)]; simp [e]
    | 1, _ =>
      rw [sJ_eq, bt_or, bt_bit (by omega), q3 1 (by decide) i, if_neg (by omega)]
      by_cases e : i = r
      · subst e; simp
      · rw [if_neg (fun z => e z.2)]; simp [e]
  · rw [sJ_ne (by omega), sJ_ne (by omega)]; exact q4 s hs i
end PAIR1
