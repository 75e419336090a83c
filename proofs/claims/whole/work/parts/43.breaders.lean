section BREAD
variable {G : GG} {h : PH} {b p g m : Nat} {sz : Nat → Nat} {E : Nat → Nat → Bool} {mt : Nat → Nat → Option Nat} {f' : Nat → Option Nat}
theorem ev_howMany (hb : BL h b p g) : Ev G m_X0_howMany [.ref b] h 0 0 (Ret (some (.int (hI h b 6))) h) := by
  refine Ev.of pn_X0_howMany (Nat.le_of_ble_eq_true rfl) ?_
  exact s_X0_howMany_0 hb.1 Zok
theorem ev_holdsB (hb : BL h b p g) {n : Nat} (h5 : hI h b 6 = nI n) (hn : n < 2 ^ 31) (x : Int32) : Ev G m_X0_holds [.ref b, .int x] h 0 0 (Ret (some (.int (b2i (inB x n)))) h) := by
  refine Ev.of pn_X0_holds (Nat.le_of_ble_eq_true rfl) ?_
  refine s_X0_holds_0 (fun z => ?_) hb.1 (fun z1 z2 => ?_) (fun z1 z2 => ?_)
  · have : inB x n = false := by unfold inB; rw [decide_eq_true z]; rfl
    rw [this]; exact Zok
  · rw [h5, ge_nI hn z1] at z2
    have : inB x n = false := by unfold inB; rw [decide_eq_false z2]; simp
    rw [this]; exact Zok
  · rw [h5, ge_nI hn z1, Classical.not_not] at z2
    have : inB x n = true := by unfold inB; rw [decide_eq_false z1, decide_eq_true z2]; rfl
    rw [this]; exact Zok
/-- the number of a left node's block, or NO -/
noncomputable def bnum (sz : Nat → Nat) (E : Nat → Nat → Bool) (f' : Nat → Option Nat) (l : Nat) : Int32 := if dc (inn sz E 0 l) then nI (bn (eqb sz E f') l) else -3
theorem bn_le {Q : Nat → Nat → Prop} (l : Nat) : bn Q l ≤ l := cnt_le l _
theorem bnum_in {l n n' : Nat} (hl : l < n) (hn : n ≤ 50) (hnb : nbs (eqb sz E f') n = n') : inB (bnum sz E f' l) n' = dc (inn sz E 0 l) := by
  unfold bnum
  cases e : dc (inn sz E 0 l) with
  | false =>
    show inB (-3) n' = false
    unfold inB
    rfl
  | true =>
    show inB (nI (bn (eqb sz E f') l)) n' = true
    have := bn_le (Q := eqb sz E f') l
    rw [inB_nI (by omega), ← hnb]
    exact decide_eq_true (bn_lt eqb_per hl (eqb_rf (dc_iff.mp e)))
theorem ev_numberOf0 (hg : GS h g m sz E) (hl : PL h p g m) (hb : BL h b p g) (hx : BFx h b sz E f') {l : Nat} (hl2 : l < sz 0) : Ev G m_X0_numberOf [.ref b, .int 0, .int (nI l)] h 0 0 (Ret (some (.int (bnum sz E f' l))) h) := by
  obtain ⟨k0, r0, r1, r2, r3, r4, k1, k2, k3, p0, pb, r5, k4⟩ := hb
  have g0 := hl.2.2.2.2.2.2.2.2.2.2.2.2.2.2.2.2.2.2.1
  have hsm := (hg.2.1 0 (by decide)).2
  have hm := hg.1.2.2.2.2.2.2.2.2.2
  have no : ¬ (0 : Int32) = 0 → False := fun z => z rfl
  have e2 := ev_holds (G := G) hg (nI 0) (nI l)
  rw [holdB_nI (by decide), inB_nI (by omega), decide_eq_true (by omega)] at e2
  refine Ev.of pn_X0_numberOf (Nat.le_of_ble_eq_true rfl) ?_
  refine s_X0_numberOf_0 (x1 := 0) (x2 := 0) (x3 := b2i true) k0 (by rw [r1]; omega) (fun z => (no z).elim) (by rw [r1]; exact hl.1) (by rw [r0]; omega) (fun z => (no z).elim) (by rw [r0]; exact hg.1.1) (fun z => (no z).elim) (by rw [r3]; omega) (by rw [r3]; exact k2.1) (fun z => (no z).elim) (fun z => (no z).elim) (fun _ => by rw [r0]; exact e2) (fun _ z => absurd z (by decide)) (fun _ _ => by rw [r3, k2.2]; exact vp_in_nI (by omega) (by decide)) (fun _ _ => ?_)
  rw [r3, nI_clamp (by omega), hx.2.2.1 l hl2]
  exact Zok
theorem ev_numberOf1 (hg : GS h g m sz E) (hl : PL h p g m) (hp : PS h p m mt (opAll sz)) (hG : Great (sz 0) E (mt 0) (mt 1)) (hb : BL h b p g) (hx : BFx h b sz E f') {r : Nat} (hr2 : r < sz 1) : Ev G m_X0_numberOf [.ref b, .int 1, .int (nI r)] h 0 0 (Ret (some (.int (match mt 1 r with | none => -3 | some l => bnum sz E f' l))) h) := by
  obtain ⟨k0, r0, r1, r2, r3, r4, k1, k2, k3, p0, pb, r5, k4⟩ := hb
  have g0 := hl.2.2.2.2.2.2.2.2.2.2.2.2.2.2.2.2.2.2.1
  have hE : Rg (sz 0) (sz 1) E := hg.2.2.2
  have hsm := (hg.2.1 0 (by decide)).2
  have hm := hg.1.2.2.2.2.2.2.2.2.2
  have no : (1 : Int32) = 0 → False := fun z => absurd z (by decide)
  have e2 := ev_holds (G := G) hg (nI 0) (enc (mt 1 r))
  rw [holdB_nI (by decide)] at e2
  refine Ev.of pn_X0_numberOf (Nat.le_of_ble_eq_true rfl) ?_
  refine s_X0_numberOf_0 (x1 := enc (mt 1 r)) (x2 := b2i (inB (enc (mt 1 r)) (sz 0))) (x3 := 0) k0 (by rw [r1]; omega) (fun _ => by rw [r1]; exact ev_mateOf hg hl hp (s := 1) (by decide) hr2) (by rw [r1]; exact hl.1) (by rw [r0]; omega) (fun _ => by rw [r0]; exact e2) (by rw [r0]; exact hg.1.1) (fun _ z => ?_) (by rw [r3]; omega) (by rw [r3]; exact k2.1) (fun _ z => ?_) (fun _ z => ?_) (fun z => (no z).elim) (fun z => (no z).elim) (fun z => (no z).elim) (fun z => (no z).elim)
  · cases e : mt 1 r with
    | none => exact Zok
    | some l =>
      exfalso
      have hl0 := (hE l r (hG.1.2 l r ((hG.1.1 l r).mpr e))).1
      have z := b2i_0.mp z
      rw [e] at z
      have z : inB (nI l) (sz 0) = false := z
      rw [inB_nI (by omega), decide_eq_true hl0] at z; cases z
  · have z := inB_iff.mp (b2i_n.mp z)
    rw [r3, k2.2]
    exact vp_in_iff.mpr ⟨(vp_in_iff.mp z).1, by have := (vp_in_iff.mp z).2; omega⟩
  · cases e : mt 1 r with
    | none =>
      exfalso
      have z := b2i_n.mp z
      rw [e] at z
      exact absurd z (by unfold inB enc; simp)
    | some l =>
      have hl0 := (hE l r (hG.1.2 l r ((hG.1.1 l r).mpr e))).1
      show (fun v' h' => Ret (some (.int (bnum sz E f' l))) h v' h' ∧ hN h' = hN h + 0 ∧ hS h' = hS h + 0) (some (.int (hI h (hR h b 3) (Int32.toNatClampNeg (nI l))))) h
      rw [r3, nI_clamp (by omega), hx.2.2.1 l hl0]
      exact Zok
theorem cnt_one {n l : Nat} {q : Nat → Bool} (hl : l < n) (hq : q l = true) : cnt n q = 1 ↔ ∀ i, i < n → q i = true → i = l := by
  rw [cnt_off hl hq]
  constructor
  · intro h i hi h2
    have := (cnt_zero (n := n) (p := fun j => q j && !decide (j = l))).mp (by omega) i hi
    rw [h2] at this
    simpa using this
  · intro h
    have := (cnt_zero (n := n) (p := fun j => q j && !decide (j = l))).mpr (fun i hi => by
      cases e : q i with
      | false => rfl
      | true => simp [h i hi e])
    omega
theorem ev_isLonePair (hg : GS h g m sz E) (hl : PL h p g m) (hb : BL h b p g) (hx : BFx h b sz E f') {l : Nat} (hl2 : l < sz 0) : Ev G m_X0_isLonePair [.ref b, .int (nI l)] h 0 0 (Ret (some (.int (b2i (dc (inn sz E 0 l ∧ ∀ l2, eqb sz E f' l l2 → l2 = l))))) h) := by
  have hb' := hb
  obtain ⟨k0, r0, r1, r2, r3, r4, k1, k2, k3, p0, pb, r5, k4⟩ := hb
  have hsm := (hg.2.1 0 (by decide)).2
  have hm := hg.1.2.2.2.2.2.2.2.2.2
  have hnb := nbs_le (Q := eqb sz E f') (sz 0)
  have e3 := ev_holdsB (G := G) hb' hx.2.1 (by omega) (bnum sz E f' l)
  rw [bnum_in hl2 (by omega) rfl] at e3
  have hbl := bn_le (Q := eqb sz E f') l
  refine Ev.of pn_X0_isLonePair (Nat.le_of_ble_eq_true rfl) ?_
  by_cases hi : inn sz E 0 l
  · have eb : bnum sz E f' l = nI (bn (eqb sz E f') l) := by unfold bnum; rw [dc_iff.mpr hi]; rfl
    have hlt := bn_lt eqb_per hl2 (eqb_rf (f' := f') hi)
    have hset : ∀ i, bt (hJ h (b + 3) (bn (eqb sz E f') l)) i = true ↔ eqb sz E f' l i := fun i => by
      rw [hx.2.2.2.1 _ hlt i]
      exact ⟨fun z => bn_inj eqb_per (eqb_rf hi) (eqb_rf z.1) z.2.symm, fun z => ⟨z.2.1, (bn_eq eqb_per z).symm⟩⟩
    have hone : cnt 64 (bt (hJ h (b + 3) (bn (eqb sz E f') l))) = 1 ↔ ∀ l2, eqb sz E f' l l2 → l2 = l := by
      rw [cnt_one (l := l) (by omega) ((hset l).mpr (eqb_rf hi))]
      exact ⟨fun z l2 h2 => z l2 (by have := h2.2.1.1; omega) ((hset l2).mpr h2), fun z i _ h2 => z i ((hset i).mp h2)⟩
    have hc64 := cnt_le 64 (bt (hJ h (b + 3) (bn (eqb sz E f') l)))
    have eone : nI (cnt 64 (bt (hJ h (b + 3) (bn (eqb sz E f') l)))) = 1 ↔ cnt 64 (bt (hJ h (b + 3) (bn (eqb sz E f') l))) = 1 := nI_eq (a := cnt 64 (bt (hJ h (b + 3) (bn (eqb sz E f') l)))) (b := 1) (by omega) (by decide)
    rw [dc_iff.mpr hi] at e3
    rw [eb] at e3
    have e1 := ev_numberOf0 (G := G) hg hl hb' hx hl2
    rw [eb] at e1
    refine s_X0_isLonePair_0 (x1 := nI (bn (eqb sz E f') l)) (x2 := b2i true) e1 k0 e3 (fun z => absurd z (by decide)) (by rw [r4]; omega) (by rw [r4]; exact k3.1) (fun _ => by rw [r4, k3.2]; exact vp_in_nI (by omega) (by decide)) (fun _ => by rw [r4, nI_clamp (by omega)]; exact ev_bc64 _) (fun _ z => ?_) (fun _ z => ?_)
    · rw [dc_no.mpr (fun w => z (eone.mpr (hone.mpr w.2)))]; exact Zok
    · rw [dc_iff.mpr ⟨hi, hone.mp (eone.mp z)⟩]; exact Zok
  · rw [dc_no.mpr hi] at e3
    refine s_X0_isLonePair_0 (x3 := 0) (ev_numberOf0 hg hl hb' hx hl2) k0 e3 (fun _ => ?_) (by rw [r4]; omega) (by rw [r4]; exact k3.1) (fun z => absurd rfl z) (fun z => absurd rfl z) (fun z => absurd rfl z) (fun z => absurd rfl z)
    rw [dc_no.mpr (fun w => hi w.1)]; exact Zok
theorem use_E {l r : Nat} (h : Use sz E l r) : E l r = true := by
  obtain ⟨q, q', h1, h2⟩ := h
  exact h1.1.2 l r h2
theorem ev_usefulRights (hg : GS h g m sz E) (hl : PL h p g m) (hp : PS h p m mt (opAll sz)) (hP : PP h p sz E) (hG : Great (sz 0) E (mt 0) (mt 1)) (hb : BL h b p g) (hx : BFx h b sz E (mt 1)) {l : Nat} (hl2 : l < sz 0) : Ev G m_X0_usefulRights [.ref b, .int (nI l)] h 0 0 (Ret (some (.long (ofP (Use sz E l)))) h) := by
  have hb' := hb
  have hE : Rg (sz 0) (sz 1) E := hg.2.2.2
  obtain ⟨k0, r0, r1, r2, r3, r4, k1, k2, k3, p0, pb, r5, k4⟩ := hb
  have g0 := hl.2.2.2.2.2.2.2.2.2.2.2.2.2.2.2.2.2.2.1
  have hsm := (hg.2.1 0 (by decide)).2
  have hsm1 := (hg.2.1 1 (by decide)).2
  have hm := hg.1.2.2.2.2.2.2.2.2.2
  have hnb := nbs_le (Q := eqb sz E (mt 1)) (sz 0)
  have e3 := ev_holdsB (G := G) hb' hx.2.1 (by omega) (bnum sz E (mt 1) l)
  rw [bnum_in hl2 (by omega) rfl] at e3
  have hbl := bn_le (Q := eqb sz E (mt 1)) l
  have hrow : ∀ r, bt (hJ h (g + 3 + 0) l) r = E l r := fun r => hg.2.2.1 0 (by decide) l (by omega) r
  refine Ev.of pn_X0_usefulRights (Nat.le_of_ble_eq_true rfl) ?_
  by_cases hi : inn sz E 0 l
  · have eb : bnum sz E (mt 1) l = nI (bn (eqb sz E (mt 1)) l) := by unfold bnum; rw [dc_iff.mpr hi]; rfl
    have hlt := bn_lt eqb_per hl2 (eqb_rf (f' := mt 1) hi)
    have hset : ∀ i, bt (hJ h (b + 3) (bn (eqb sz E (mt 1)) l)) i = true ↔ eqb sz E (mt 1) l i := fun i => by
      rw [hx.2.2.2.1 _ hlt i]
      exact ⟨fun z => bn_inj eqb_per (eqb_rf hi) (eqb_rf z.1) z.2.symm, fun z => ⟨z.2.1, (bn_eq eqb_per z).symm⟩⟩
    rw [dc_iff.mpr hi, eb] at e3
    have e1 := ev_numberOf0 (G := G) hg hl hb' hx hl2
    rw [eb] at e1
    have hfin : (hJ h (g + 3 + 0) l &&& ofP (mSet sz mt 0 (hJ h (b + 3) (bn (eqb sz E (mt 1)) l)))) = ofP (Use sz E l) := eq_ofP (fun r hr => by
      rw [bt_and, Bool.and_eq_true, hrow, bt_ofP]
      constructor
      · rintro ⟨z1, _, i, z2, z3, z4⟩
        exact (use_inn' hE hG hi z1).mpr ⟨i, z4, (hset i).mp z3⟩
      · intro z
        have z1 := use_E z
        obtain ⟨i, y1, y2⟩ := (use_inn' hE hG hi z1).mp z
        exact ⟨z1, hr, i, y2.2.1.1, (hset i).mpr y2, y1⟩)
    refine s_X0_usefulRights_0 (x1 := nI (bn (eqb sz E (mt 1)) l)) (x2 := b2i true) (x3 := 0) (x4 := 0) (x5 := 0) (x6 := ofP (mSet sz mt 0 (hJ h (b + 3) (bn (eqb sz E (mt 1)) l)))) (x7 := hJ h (g + 3 + 0) l) e1 k0 e3 (by rw [r1]; omega) (fun z => absurd z (by decide)) (by rw [r1]; exact hl.1) (fun z => absurd z (by decide)) (by rw [r0]; omega) (fun z => absurd z (by decide)) (by rw [r0]; exact hg.1.1) (fun z => absurd z (by decide)) (by rw [r4]; omega) (by rw [r4]; exact k3.1) (fun _ => by rw [r4, k3.2]; exact vp_in_nI (by omega) (by decide)) (fun _ => by rw [r1, r4, nI_clamp (by omega)]; exact ev_matesOf hg hl hp (s := 0) (by decide) _) (fun _ => by rw [r0]; exact ev_across hg (s := 0) (by decide) hl2) (fun _ => ?_)
    rw [hfin]; exact Zok
  · rw [dc_no.mpr hi] at e3
    have hlt : prt sz E 0 l < 3 := by rcases prt_cases sz E 0 l with w | w | w <;> omega
    have hfin : (hJ h (g + 3 + 0) l &&& hJ h (p + 7 + 1) (prt sz E 0 l)) = ofP (Use sz E l) := eq_ofP (fun r hr => by
      rw [bt_and, Bool.and_eq_true, hrow, prt_bt hE hP (s := 1) (by decide) hlt]
      rcases prt_cases sz E 0 l with w | w | w
      · rw [w.2]
        constructor
        · rintro ⟨z1, -⟩
          exact use_mis hE w.1 z1
        · intro z
          have z1 := use_E z
          have z2 : ptA sz E 1 r := ⟨l, w.1, z1⟩
          refine ⟨z1, (hE l r z1).2, prt_adj (fun y => mis_not hE (by decide) y z2) z2⟩
      · rw [w.2.2]
        constructor
        · rintro ⟨z1, z2, z3⟩
          rw [use_adj hE w.2.1 z1]
          rcases prt_cases sz E 1 r with v | v | v
          · exact v.1
          · omega
          · omega
        · intro z
          have z1 := use_E z
          have z2 := (use_adj hE w.2.1 z1).mp z
          exact ⟨z1, z2.1, prt_mis z2⟩
      · exact absurd ⟨hl2, w.1, w.2.1⟩ hi)
    refine s_X0_usefulRights_0 (x2 := b2i false) (x3 := nI (prt sz E 0 l)) (x4 := hJ h (p + 7 + 1) (prt sz E 0 l)) (x5 := hJ h (g + 3 + 0) l) (x6 := 0) (x7 := 0) (ev_numberOf0 hg hl hb' hx hl2) k0 e3 (by rw [r1]; omega) (fun _ => by rw [r1]; exact ev_partOf hl hE hP (s := 0) (by decide) hl2 (by omega)) (by rw [r1]; exact hl.1) (fun _ => by rw [r1]; exact ev_nodesOfPart hl (s := 1) (by decide) hlt) (by rw [r0]; omega) (fun _ => by rw [r0]; exact ev_across hg (s := 0) (by decide) hl2) (by rw [r0]; exact hg.1.1) (fun _ => ?_) (by rw [r4]; omega) (by rw [r4]; exact k3.1) (fun z => absurd rfl z) (fun z => absurd rfl z) (fun z => absurd rfl z) (fun z => absurd rfl z)
    rw [hfin]; exact Zok
/-- from one block one comes to another -/
def leadsP (sz : Nat → Nat) (E : Nat → Nat → Bool) (f' : Nat → Option Nat) (q t : Nat) : Prop := q ≠ t ∧ ∃ x y, inn sz E 0 x ∧ inn sz E 0 y ∧ bn (eqb sz E f') x = q ∧ bn (eqb sz E f') y = t ∧ Cl (stp E f') x y
theorem ev_comesTo (hg : GS h g m sz E) (hb : BL h b p g) (hx : BFx h b sz E f') {q t : Nat} (hq : q < nbs (eqb sz E f') (sz 0)) (ht : t < nbs (eqb sz E f') (sz 0)) : Ev G m_X0_comesTo [.ref b, .int (nI q), .int (nI t)] h 0 0 (Ret (some (.int (b2i (dc (leadsP sz E f' q t))))) h) := by
  have hb' := hb
  obtain ⟨k0, r0, r1, r2, r3, r4, k1, k2, k3, p0, pb, r5, k4⟩ := hb
  have hsm := (hg.2.1 0 (by decide)).2
  have hm := hg.1.2.2.2.2.2.2.2.2.2
  have hnb := nbs_le (Q := eqb sz E f') (sz 0)
  have e3 := ev_holdsB (G := G) hb' hx.2.1 (by omega) (nI q)
  have e4 := ev_holdsB (G := G) hb' hx.2.1 (by omega) (nI t)
  rw [inB_nI (by omega), decide_eq_true hq] at e3
  rw [inB_nI (by omega), decide_eq_true ht] at e4
  have eqt : nI q = nI t ↔ q = t := nI_eq (by omega) (by omega)
  have hset := hx.2.2.2.2 q hq
  have hset2 := hx.2.2.2.1 t ht
  have hiff : (hJ h (b + 4) q &&& hJ h (b + 3) t) = 0 ↔ ¬ ∃ x y, inn sz E 0 x ∧ inn sz E 0 y ∧ bn (eqb sz E f') x = q ∧ bn (eqb sz E f') y = t ∧ Cl (stp E f') x y := by
    constructor
    · rintro e ⟨x, y, v1, v2, v3, v4, v5⟩
      have : bt (hJ h (b + 4) q &&& hJ h (b + 3) t) y = true := by
        rw [bt_and, Bool.and_eq_true, hset y, hset2 y]
        exact ⟨⟨v2, x, v1, v3, v5⟩, v2, v4⟩
      rw [e, bt_zero] at this; cases this
    · intro hn
      apply bt_ext
      intro y hy
      rw [bt_zero]
      cases e : bt (hJ h (b + 4) q &&& hJ h (b + 3) t) y with
      | false => rfl
      | true =>
        rw [bt_and, Bool.and_eq_true, hset y, hset2 y] at e
        obtain ⟨⟨v1, x, v2, v3, v4⟩, v5, v6⟩ := e
        exact absurd ⟨x, y, v2, v1, v3, v6, v4⟩ hn
  refine Ev.of pn_X0_comesTo (Nat.le_of_ble_eq_true rfl) ?_
  refine s_X0_comesTo_0 (x1 := b2i true) (x2 := b2i true) (fun z => ?_) (fun _ => e3) k0 (fun _ z => absurd z (by decide)) (fun _ _ => e4) (by rw [r5]; omega) (by rw [r5]; exact k4.1) (fun _ _ _ => by rw [r5, k4.2]; exact vp_in_nI (by omega) (by decide)) (by rw [r4]; omega) (by rw [r4]; exact k3.1) (fun _ _ _ => by rw [r4, k3.2]; exact vp_in_nI (by omega) (by decide)) (fun v1 _ _ v => ?_) (fun v1 _ _ v => ?_) (fun _ _ z => absurd z (by decide))
  · rw [dc_no.mpr (fun w => w.1 (eqt.mp z))]; exact Zok
  · rw [r5, r4, nI_clamp (by omega), nI_clamp (by omega), lg0, hiff] at v
    rw [dc_no.mpr (fun w => v w.2)]; exact Zok
  · rw [r5, r4, nI_clamp (by omega), nI_clamp (by omega), lg0, hiff, Classical.not_not] at v
    rw [dc_iff.mpr ⟨fun e => v1 (eqt.mpr e), v⟩]; exact Zok
end BREAD
