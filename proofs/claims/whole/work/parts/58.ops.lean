def COK (h : PH) (x B L K : Nat) (sz : Nat → Nat) (E : Nat → Nat → Bool) (n : Nat) (U : Nat → Nat → Bool) : Prop := ∃ cg cu, cg ≤ K ∧ cu ≤ K ∧ XL h x B ∧ CG h x B L cg sz E ∧ CU h x cu n U
def RP (h : PH) (x B L K : Nat) (sz : Nat → Nat) (E : Nat → Nat → Bool) (n : Nat) (U : Nat → Nat → Bool) (a v : Int32) (h' : PH) : Prop := v = a ∧ SO (x + 1) (x + 45) h h' ∧ COK h' x B L K sz E n U
variable {G : GG} {h h' : PH} {x B L K n : Nat} {sz : Nat → Nat} {E U : Nat → Nat → Bool}
theorem rp_fin {a v : Int32} (e : v = a) (so : SO (x + 1) (x + 45) h h') (hk : COK h' x B L K sz E n U) : (fun v h' => RI (RP h x B L K sz E n U a) v h' ∧ hN h' = hN h + 0 ∧ hS h' = hS h + 0) (some (.int v)) h' := ⟨⟨v, rfl, e, so, hk⟩, so.2.2.2.1, so.2.2.2.2.1⟩
theorem COK.wide {K' : Nat} (hk : COK h x B L K sz E n U) (h1 : K ≤ K') : COK h x B L K' sz E n U := by
  obtain ⟨cg, cu, a, b, r⟩ := hk
  exact ⟨cg, cu, by omega, by omega, r⟩
theorem hold_ex {sd nd : Int32} (hs : ∀ s, s < 2 → sz s < 2 ^ 31) (h : holdB sz sd nd = true) : ∃ s i, s < 2 ∧ i < sz s ∧ sd = nI s ∧ nd = nI i := by
  unfold holdB at h
  have key : ∀ s, s < 2 → inB nd (sz s) = true → ∃ i, i < sz s ∧ nd = nI i := by
    intro s h2 hq
    rw [inB_iff] at hq
    exact vp_in_of hq (hs s h2)
  rw [Bool.or_eq_true, Bool.and_eq_true, Bool.and_eq_true, decide_eq_true_iff, decide_eq_true_iff] at h
  rcases h with ⟨e, q⟩ | ⟨e, q⟩
  · obtain ⟨i, h1, h2⟩ := key 0 (by decide) q
    exact ⟨0, i, by decide, h1, e, h2⟩
  · obtain ⟨i, h1, h2⟩ := key 1 (by decide) q
    exact ⟨1, i, by decide, h1, e, h2⟩
theorem in_ex {a : Int32} {k : Nat} (hk : k < 2 ^ 31) (h : inB a k = true) : ∃ i, i < k ∧ a = nI i := vp_in_of (inB_iff.1 h) hk
def ct (v : Int32) : Nat := v.toNatClampNeg
theorem ct_nI {k : Nat} (h : k < 2 ^ 31) : ct (nI k) = k := nI_clamp h
def aNode (sz : Nat → Nat) (sd : Int32) : Int32 := if sd = 0 ∨ sd = 1 then (if sz (ct sd) = 50 then -2 else nI (sz (ct sd))) else -1
def sNode (sz : Nat → Nat) (sd : Int32) : Nat → Nat := if (sd = 0 ∨ sd = 1) ∧ sz (ct sd) ≠ 50 then updN sz (ct sd) (sz (ct sd) + 1) else sz
theorem n_lt (hk : COK h x B L K sz E n U) : (∀ s, s < 2 → sz s ≤ 50) ∧ n ≤ 40 ∧ Rg (sz 0) (sz 1) E ∧ Rg n n U ∧ SPO U := by
  obtain ⟨cg, cu, _, _, _, q, r⟩ := hk
  exact ⟨fun s hs => (q.1.2.1 s hs).2, (r.1.2.1 0 (by decide)).2, q.1.2.2.2, r.1.2.2.2, r.2.2.2.1⟩
theorem c_node (hk : COK h x B L K sz E n U) (hK2 : K + 2 < 2 ^ 31) (sd : Int32) : Ev G m_X5_node [.ref x, .int sd] h 0 0 (RI (RP h x B L (K + 2) (sNode sz sd) E n U (aNode sz sd))) := by
  obtain ⟨cg, cu, b1, b2, hx, hc, hu⟩ := id hk
  obtain ⟨x1, x2, x3, x4, x5, x6, x7, x8, x9, x10, x11⟩ := id hx
  refine Ev.of pn_X5_node (Nat.le_of_ble_eq_true rfl) ?_
  refine s_X5_node_0 x1 (by rw [x2]; omega) (by rw [x2]; exact ev_add hc.1 sd) (by rw [x2]; exact hc.1.1.1) (fun v h1 q n1 s1 => ?_)
  refine s_X5_node_8 ?_
  rcases q with ⟨e1, e2, e3⟩ | ⟨s, hs, e1, e2⟩
  · subst e3
    have es : sNode sz sd = sz := if_neg (fun z => e1 z.1)
    rw [es]
    exact rp_fin (by unfold aNode; rw [if_neg e1]; exact e2) SO.rf (hk.wide (by omega))
  · have sd01 : sd = 0 ∨ sd = 1 := by
      rcases (by omega : s = 0 ∨ s = 1) with z | z
      · left; rw [e1, z]; rfl
      · right; rw [e1, z]; rfl
    have ec : ct sd = s := by rw [e1]; exact ct_nI (by omega)
    rcases e2 with ⟨z1, z2, z3⟩ | ⟨z1, z2, z3, z4, z5⟩
    · subst z3
      have es : sNode sz sd = sz := if_neg (fun z => z.2 (by rw [ec]; exact z1))
      rw [es]
      exact rp_fin (by unfold aNode; rw [if_pos sd01, ec, if_pos z1]; exact z2) SO.rf (hk.wide (by omega))
    · have es : sNode sz sd = updN sz s (sz s + 1) := by
        unfold sNode
        rw [ec, if_pos ⟨sd01, by omega⟩]
      rw [es]
      exact rp_fin (by unfold aNode; rw [if_pos sd01, ec, if_neg (by omega)]; exact z2) (z3.wide (by omega) (by omega)) ⟨cg + 1, cu, by omega, by omega, hx.so z3, hc.chg z3 z4 z5 (by omega), hu.so z3 (by omega)⟩
def jn (sz : Nat → Nat) (E : Nat → Nat → Bool) (a b : Int32) : Bool := inB a (sz 0) && inB b (sz 1) && E (ct a) (ct b)
def aEdge (sz : Nat → Nat) (E : Nat → Nat → Bool) (a b : Int32) (v : Bool) : Int32 := if inB a (sz 0) && inB b (sz 1) then (if E (ct a) (ct b) = v then 0 else 1) else -1
def sEdge (sz : Nat → Nat) (E : Nat → Nat → Bool) (a b : Int32) (v : Bool) : Nat → Nat → Bool := fun l r => if (inB a (sz 0) && inB b (sz 1)) = true ∧ l = ct a ∧ r = ct b then v else E l r
theorem hold0 {a : Int32} : holdB sz 0 a = inB a (sz 0) := by
  unfold holdB; rw [decide_eq_true rfl, Bool.true_and, decide_eq_false (by decide), Bool.false_and, Bool.or_false]
theorem hold1 {a : Int32} : holdB sz 1 a = inB a (sz 1) := by
  unfold holdB; rw [decide_eq_true (show (1 : Int32) = 1 from rfl), Bool.true_and, decide_eq_false (by decide), Bool.false_and, Bool.false_or]
theorem c_edge (hk : COK h x B L K sz E n U) (hK2 : K + 2 < 2 ^ 31) (a b : Int32) (v : Bool) : Ev G m_X5_edge [.ref x, .int a, .int b, .int (b2i v)] h 0 0 (RI (RP h x B L (K + 2) sz (sEdge sz E a b v) n U (aEdge sz E a b v))) := by
  obtain ⟨hs, hn, hE, hRU, hU⟩ := n_lt hk
  obtain ⟨cg, cu, b1, b2, hx, hc, hu⟩ := id hk
  obtain ⟨x1, x2, x3, x4, x5, x6, x7, x8, x9, x10, x11⟩ := id hx
  have h0 := hs 0 (by decide)
  have h1 := hs 1 (by decide)
  refine Ev.of pn_X5_edge (Nat.le_of_ble_eq_true rfl) ?_
  have bad : (inB a (sz 0) && inB b (sz 1)) = false → (fun w h' => RI (RP h x B L (K + 2) sz (sEdge sz E a b v) n U (aEdge sz E a b v)) w h' ∧ hN h' = hN h + 0 ∧ hS h' = hS h + 0) (some (.int (-1))) h := by
    intro z
    have es : sEdge sz E a b v = E := by
      funext l r; unfold sEdge; rw [if_neg (fun q => by rw [z] at q; cases q.1)]
    rw [es]
    exact rp_fin (by unfold aEdge; rw [z]; rfl) SO.rf (hk.wide (by omega))
  have good : ∀ i j, i < sz 0 → j < sz 1 → a = nI i → b = nI j → sEdge sz E a b v = (fun l r => if l = i ∧ r = j then v else E l r) ∧ aEdge sz E a b v = (if E i j = v then 0 else 1) := by
    intro i j hi hj ea eb
    have e1 : (inB a (sz 0) && inB b (sz 1)) = true := by rw [ea, eb, inB_nI (by omega), inB_nI (by omega), decide_eq_true hi, decide_eq_true hj]; rfl
    have e2 : ct a = i := by rw [ea]; exact ct_nI (by omega)
    have e3 : ct b = j := by rw [eb]; exact ct_nI (by omega)
    refine ⟨?_, ?_⟩
    · funext l r
      unfold sEdge
      rw [e1, e2, e3]
      by_cases q : l = i ∧ r = j
      · rw [if_pos ⟨rfl, q⟩, if_pos q]
      · rw [if_neg (fun z => q z.2), if_neg q]
    · unfold aEdge
      rw [e1, e2, e3]; rfl
  have jn_eq : ∀ i j, i < sz 0 → j < sz 1 → a = nI i → b = nI j → b2i (inB a (sz 0) && inB b (sz 1) && E a.toNatClampNeg b.toNatClampNeg) = b2i (E i j) := by
    intro i j hi hj ea eb
    rw [ea, eb, inB_nI (by omega), inB_nI (by omega), decide_eq_true hi, decide_eq_true hj, nI_clamp (by omega), nI_clamp (by omega)]; rfl
  have b2inj : ∀ p q : Bool, b2i p = b2i q ↔ p = q := by decide
  refine s_X5_edge_0 (x1 := b2i (holdB sz 0 a)) (x2 := b2i (holdB sz 1 b)) (x3 := b2i (inB a (sz 0) && inB b (sz 1) && E a.toNatClampNeg b.toNatClampNeg)) (P4 := fun h' => ∃ i j, i < sz 0 ∧ j < sz 1 ∧ a = nI i ∧ b = nI j ∧ SO (x + 1) (x + 1 + 5) h h' ∧ chg h h' (x + 1) ∧ GS h' (x + 1) 50 sz (fun l r => E l r && !(decide (l = i) && decide (r = j)))) (P5 := fun h' => ∃ i j, i < sz 0 ∧ j < sz 1 ∧ a = nI i ∧ b = nI j ∧ SO (x + 1) (x + 1 + 5) h h' ∧ chg h h' (x + 1) ∧ GS h' (x + 1) 50 sz (fun l r => E l r || (decide (l = i) && decide (r = j)))) x1 (by rw [x2]; omega) (by rw [x2]; exact ev_holds hc.1 0 a) (by rw [x2]; exact hc.1.1.1) (fun z => ?_) (fun _ => by rw [x2]; exact ev_holds hc.1 1 b) (fun _ _ => by rw [x2]; exact ev_joins hc.1 a b) (fun z1 z2 _ _ => ?_) (fun z1 z2 z3 z4 h4 q n4 s4 => ?_) (fun z1 z2 _ _ => ?_) (fun z1 z2 z3 z4 h5 q n5 s5 => ?_) (fun z1 z2 z3 => ?_) (fun _ z => ?_)
  · rw [b2i_0, hold0] at z
    exact bad (by rw [z]; rfl)
  · rw [b2i_n, hold0] at z1
    rw [b2i_n, hold1] at z2
    obtain ⟨i, hi, ea⟩ := in_ex (by omega) z1
    obtain ⟨j, hj, eb⟩ := in_ex (by omega) z2
    rw [x2, ea, eb]
    exact (ev_unjoin hc.1 hi hj).mono (fun w h' q => ⟨q.1, i, j, hi, hj, rfl, rfl, q.2⟩)
  · obtain ⟨i, j, hi, hj, ea, eb, so, ch, hg⟩ := q
    obtain ⟨g1, g2⟩ := good i j hi hj ea eb
    rw [jn_eq i j hi hj ea eb, b2inj] at z3
    rw [b2i_0] at z4
    subst z4
    refine s_X5_edge_70 ?_
    have e : sEdge sz E a b false = fun l r => E l r && !(decide (l = i) && decide (r = j)) := by
      rw [g1]; funext l r
      by_cases q : l = i ∧ r = j
      · rw [if_pos q, decide_eq_true q.1, decide_eq_true q.2]; simp
      · rw [if_neg q]
        have : (decide (l = i) && decide (r = j)) = false := by
          cases e : (decide (l = i) && decide (r = j))
          · rfl
          · rw [Bool.and_eq_true, decide_eq_true_iff, decide_eq_true_iff] at e; exact (q e).elim
        rw [this]; simp
    rw [e, g2, if_neg z3]
    exact rp_fin rfl (so.wide (by omega) (by omega)) ⟨cg + 1, cu, by omega, by omega, hx.so so, hc.chg so ch hg (by omega), hu.so so (by omega)⟩
  · rw [b2i_n, hold0] at z1
    rw [b2i_n, hold1] at z2
    obtain ⟨i, hi, ea⟩ := in_ex (by omega) z1
    obtain ⟨j, hj, eb⟩ := in_ex (by omega) z2
    rw [x2, ea, eb]
    refine (ev_joinAll hc.1 (fun l hl => ?_) (fun r hr => ?_)).mono (fun w h' q => ⟨q.1, i, j, hi, hj, rfl, rfl, q.2.1, q.2.2.1, ?_⟩)
    · rw [bt_bit (by omega), decide_eq_true_iff] at hl; omega
    · rw [bt_bit (by omega), decide_eq_true_iff] at hr; omega
    · have := q.2.2.2
      simp only [bt_bit (show i < 64 by omega), bt_bit (show j < 64 by omega)] at this
      exact this
  · obtain ⟨i, j, hi, hj, ea, eb, so, ch, hg⟩ := q
    obtain ⟨g1, g2⟩ := good i j hi hj ea eb
    rw [jn_eq i j hi hj ea eb, b2inj] at z3
    rw [b2i_n] at z4
    subst z4
    refine s_X5_edge_58 (s_X5_edge_70 ?_)
    have e : sEdge sz E a b true = fun l r => E l r || (decide (l = i) && decide (r = j)) := by
      rw [g1]; funext l r
      by_cases q : l = i ∧ r = j
      · rw [if_pos q, decide_eq_true q.1, decide_eq_true q.2]; simp
      · rw [if_neg q]
        have : (decide (l = i) && decide (r = j)) = false := by
          cases e : (decide (l = i) && decide (r = j))
          · rfl
          · rw [Bool.and_eq_true, decide_eq_true_iff, decide_eq_true_iff] at e; exact (q e).elim
        rw [this]; simp
    rw [e, g2, if_neg z3]
    exact rp_fin rfl (so.wide (by omega) (by omega)) ⟨cg + 1, cu, by omega, by omega, hx.so so, hc.chg so ch hg (by omega), hu.so so (by omega)⟩
  · rw [b2i_n, hold0] at z1
    rw [b2i_n, hold1] at z2
    obtain ⟨i, hi, ea⟩ := in_ex (by omega) z1
    obtain ⟨j, hj, eb⟩ := in_ex (by omega) z2
    obtain ⟨g1, g2⟩ := good i j hi hj ea eb
    rw [jn_eq i j hi hj ea eb, b2inj] at z3
    have e : sEdge sz E a b v = E := by
      rw [g1]; funext l r
      by_cases q : l = i ∧ r = j
      · rw [if_pos q, q.1, q.2, z3]
      · rw [if_neg q]
    rw [e, g2, if_pos z3]
    exact rp_fin rfl SO.rf (hk.wide (by omega))
  · rw [b2i_0, hold1] at z
    exact bad (by rw [z, Bool.and_false])
def aHas (sz : Nat → Nat) (E : Nat → Nat → Bool) (a b : Int32) : Int32 := b2i (jn sz E a b)
theorem b2i_01 (c : Bool) : b2i c = 0 ∨ b2i c = 1 := by cases c; exact Or.inl rfl; exact Or.inr rfl
theorem c_has (hk : COK h x B L K sz E n U) (a b : Int32) : Ev G m_X5_has [.ref x, .int a, .int b] h 0 0 (RI (RP h x B L K sz E n U (aHas sz E a b))) := by
  obtain ⟨cg, cu, b1, b2, hx, hc, hu⟩ := id hk
  obtain ⟨x1, x2, x3, x4, x5, x6, x7, x8, x9, x10, x11⟩ := id hx
  refine Ev.of pn_X5_has (Nat.le_of_ble_eq_true rfl) ?_
  exact s_X5_has_0 (x1 := aHas sz E a b) x1 (by rw [x2]; omega) (by rw [x2]; exact ev_joins hc.1 a b) (by rw [x2]; exact hc.1.1.1) (rp_fin rfl SO.rf hk) (b2i_01 _)
noncomputable def aPartner (sz : Nat → Nat) (E : Nat → Nat → Bool) (sd nd : Int32) : Int32 := if holdB sz sd nd then enc (bst sz E (ct sd) (ct nd)) else -1
theorem cok_P {h1 : PH} {cg cu : Nat} (b1 : cg ≤ K) (b2 : cu ≤ K) (hx : XL h x B) (hu : CU h x cu n U) (so : SO (x + 6) (x + 17) h h1) (hc : CG h1 x B L cg sz E) : XL h1 x B ∧ CU h1 x cu n U ∧ COK h1 x B L K sz E n U := ⟨hx.so so, hu.so so (by omega), cg, cu, b1, b2, hx.so so, hc, hu.so so (by omega)⟩
theorem bst_at {mt : Nat → Nat → Option Nat} (hE : Rg (sz 0) (sz 1) E) (hb : Best (sz 0) E (mt 0) (mt 1) (sz 0)) {s : Nat} (hs : s < 2) : mt s = bst sz E s := by
  have := bst_eq hE hb
  rcases (by omega : s = 0 ∨ s = 1) with z | z
  · rw [z]; exact this.1
  · rw [z]; exact this.2
theorem c_partner (hk : COK h x B L K sz E n U) (sd nd : Int32) : Ev G m_X5_partner [.ref x, .int sd, .int nd] h 0 0 (RI (RP h x B L K sz E n U (aPartner sz E sd nd))) := by
  obtain ⟨hs, hn, hE, hRU, hU⟩ := n_lt hk
  obtain ⟨cg, cu, b1, b2, hx, hc, hu⟩ := id hk
  obtain ⟨x1, x2, x3, x4, x5, x6, x7, x8, x9, x10, x11⟩ := id hx
  refine Ev.of pn_X5_partner (Nat.le_of_ble_eq_true rfl) ?_
  refine s_X5_partner_0 (x1 := b2i (holdB sz sd nd)) x1 (by rw [x2]; omega) (by rw [x2]; exact ev_holds hc.1 sd nd) (by rw [x2]; exact hc.1.1.1) (by rw [x3]; omega) (fun _ => by rw [x3]; exact rf_P hc) (by rw [x3]; exact hc.2.1.1) (fun z h1 q n1 s1 => ?_) (fun z => ?_)
  · obtain ⟨so, hc1, mt, p1, p2, p3, p4⟩ := q
    obtain ⟨hx1, hu1, hk1⟩ := cok_P b1 b2 hx hu so hc1
    obtain ⟨y1, y2, y3, -⟩ := id hx1
    rw [b2i_n] at z
    obtain ⟨s, i, h2, hi, ea, eb⟩ := hold_ex (fun s hs' => by have := hs s hs'; omega) z
    have := hs s h2
    refine s_X5_partner_21 (x1 := enc (mt s i)) y1 (by rw [y3]; omega) (by rw [y3, ea, eb]; exact ev_mateOf hc1.1 hc1.2.1 p1 h2 hi) (by rw [y3]; exact hc1.2.1.1) ?_
    refine rp_fin ?_ (so.wide (by omega) (by omega)) hk1
    unfold aPartner
    rw [z, if_pos rfl, ea, eb, ct_nI (by omega), ct_nI (by omega), bst_at hE p2 h2]
  · rw [b2i_0] at z
    refine rp_fin ?_ SO.rf hk
    unfold aPartner; rw [z]; rfl
noncomputable def aPart (sz : Nat → Nat) (E : Nat → Nat → Bool) (sd nd : Int32) : Int32 := if holdB sz sd nd then nI (prt sz E (ct sd) (ct nd)) else -1
theorem c_part (hk : COK h x B L K sz E n U) (sd nd : Int32) : Ev G m_X5_part [.ref x, .int sd, .int nd] h 0 0 (RI (RP h x B L K sz E n U (aPart sz E sd nd))) := by
  obtain ⟨hs, hn, hE, hRU, hU⟩ := n_lt hk
  obtain ⟨cg, cu, b1, b2, hx, hc, hu⟩ := id hk
  obtain ⟨x1, x2, x3, x4, x5, x6, x7, x8, x9, x10, x11⟩ := id hx
  refine Ev.of pn_X5_part (Nat.le_of_ble_eq_true rfl) ?_
  refine s_X5_part_0 (x1 := b2i (holdB sz sd nd)) x1 (by rw [x2]; omega) (by rw [x2]; exact ev_holds hc.1 sd nd) (by rw [x2]; exact hc.1.1.1) (by rw [x3]; omega) (fun _ => by rw [x3]; exact rf_P hc) (by rw [x3]; exact hc.2.1.1) (fun z h1 q n1 s1 => ?_) (fun z => ?_)
  · obtain ⟨so, hc1, mt, p1, p2, p3, p4⟩ := q
    obtain ⟨hx1, hu1, hk1⟩ := cok_P b1 b2 hx hu so hc1
    obtain ⟨y1, y2, y3, -⟩ := id hx1
    rw [b2i_n] at z
    obtain ⟨s, i, h2, hi, ea, eb⟩ := hold_ex (fun s hs' => by have := hs s hs'; omega) z
    have := hs s h2
    refine s_X5_part_21 (x1 := nI (prt sz E s i)) y1 (by rw [y3]; omega) (by rw [y3, ea, eb]; exact ev_partOf hc1.2.1 hE p4 h2 hi (by omega)) (by rw [y3]; exact hc1.2.1.1) ?_
    refine rp_fin ?_ (so.wide (by omega) (by omega)) hk1
    unfold aPart
    rw [z, if_pos rfl, ea, eb, ct_nI (by omega), ct_nI (by omega)]
  · rw [b2i_0] at z
    refine rp_fin ?_ SO.rf hk
    unfold aPart; rw [z]; rfl
noncomputable def aNodeIs (sz : Nat → Nat) (E : Nat → Nat → Bool) (sd nd : Int32) : Int32 := if holdB sz sd nd then (if dc (mis sz E (ct sd) (ct nd)) then 0 else 1) else -1
theorem c_nodeIs (hk : COK h x B L K sz E n U) (sd nd : Int32) : Ev G m_X5_nodeIs [.ref x, .int sd, .int nd] h 0 0 (RI (RP h x B L K sz E n U (aNodeIs sz E sd nd))) := by
  obtain ⟨hs, hn, hE, hRU, hU⟩ := n_lt hk
  obtain ⟨cg, cu, b1, b2, hx, hc, hu⟩ := id hk
  obtain ⟨x1, x2, x3, x4, x5, x6, x7, x8, x9, x10, x11⟩ := id hx
  refine Ev.of pn_X5_nodeIs (Nat.le_of_ble_eq_true rfl) ?_
  refine s_X5_nodeIs_0 (x1 := b2i (holdB sz sd nd)) x1 (by rw [x2]; omega) (by rw [x2]; exact ev_holds hc.1 sd nd) (by rw [x2]; exact hc.1.1.1) (by rw [x3]; omega) (fun _ => by rw [x3]; exact rf_P hc) (by rw [x3]; exact hc.2.1.1) (fun z h1 q n1 s1 => ?_) (fun z => ?_)
  · obtain ⟨so, hc1, mt, p1, p2, p3, p4⟩ := q
    obtain ⟨hx1, hu1, hk1⟩ := cok_P b1 b2 hx hu so hc1
    obtain ⟨y1, y2, y3, -⟩ := id hx1
    rw [b2i_n] at z
    obtain ⟨s, i, h2, hi, ea, eb⟩ := hold_ex (fun s hs' => by have := hs s hs'; omega) z
    have := hs s h2
    have ev : Ev G m_X3_partOf [.ref (hR h1 x 1), .int sd, .int nd] h1 0 0 (Ret (some (.int (nI (prt sz E s i)))) h1) := by rw [y3, ea, eb]; exact ev_partOf hc1.2.1 hE p4 h2 hi (by omega)
    have fin : ∀ c : Bool, (c = true ↔ mis sz E s i) → (fun v h' => RI (RP h x B L K sz E n U (aNodeIs sz E sd nd)) v h' ∧ hN h' = hN h + 0 ∧ hS h' = hS h + 0) (some (.int (if c then 0 else 1))) h1 := fun c hcm => by
      refine rp_fin ?_ (so.wide (by omega) (by omega)) hk1
      unfold aNodeIs
      rw [z, if_pos rfl, ea, eb, ct_nI (by omega), ct_nI (by omega), dc_eq hcm]
    have pr := prt_cases sz E s i
    have e2 : (2 : Int32) = nI 2 := by decide
    refine s_X5_nodeIs_21 (x1 := nI (prt sz E s i)) (x2 := nI (prt sz E s i)) y1 (by rw [y3]; omega) (fun _ => ev) (by rw [y3]; exact hc1.2.1.1) (fun z1 z2 => ?_) (fun z1 z2 => ?_) (fun _ => ev) (fun z1 z2 => ?_) (fun z1 z2 => ?_)
    · have es : s = 1 := by
        rcases (by omega : s = 0 ∨ s = 1) with w | w
        · subst w; exact (z1 ea).elim
        · exact w
      subst es
      refine fin false ⟨fun w => (by cases w), fun w => (z2 ?_).elim⟩
      rw [prt_mis w]; rfl
    · have es : s = 1 := by
        rcases (by omega : s = 0 ∨ s = 1) with w | w
        · subst w; exact (z1 ea).elim
        · exact w
      subst es
      rw [e2] at z2
      refine fin true ⟨fun _ => ?_, fun _ => rfl⟩
      rcases pr with w | w | w
      · exact w.1
      · rw [w.2.2] at z2; exact absurd z2 (by decide)
      · rw [w.2.2] at z2; exact absurd z2 (by decide)
    · have es : s = 0 := by
        rcases (by omega : s = 0 ∨ s = 1) with w | w
        · exact w
        · subst w; rw [ea] at z1; exact absurd z1 (by decide)
      subst es
      refine fin false ⟨fun w => (by cases w), fun w => (z2 ?_).elim⟩
      rw [prt_mis w]; rfl
    · have es : s = 0 := by
        rcases (by omega : s = 0 ∨ s = 1) with w | w
        · exact w
        · subst w; rw [ea] at z1; exact absurd z1 (by decide)
      subst es
      refine fin true ⟨fun _ => ?_, fun _ => rfl⟩
      rcases pr with w | w | w
      · exact w.1
      · rw [w.2.2] at z2; exact absurd z2 (by decide)
      · rw [w.2.2] at z2; exact absurd z2 (by decide)
  · rw [b2i_0] at z
    refine rp_fin ?_ SO.rf hk
    unfold aNodeIs; rw [z]; rfl
