variable {G : GG} {h h' : PH} {x B L K n : Nat} {sz : Nat → Nat} {E U : Nat → Nat → Bool}
noncomputable def aCover (sz : Nat → Nat) (E : Nat → Nat → Bool) (w sd nd : Int32) : Int32 := if (w = 0 ∨ w = 1) ∧ holdB sz sd nd = true then b2i (cov sz E (ct w) (ct sd) (ct nd)) else -1
theorem one_of {w : Int32} : (if w = 0 ∨ w = 1 then (1 : Int32) else 0) = 0 ↔ ¬ (w = 0 ∨ w = 1) := by
  by_cases q : w = 0 ∨ w = 1
  · rw [if_pos q]; exact ⟨fun z => absurd z (by decide), fun z => (z q).elim⟩
  · rw [if_neg q]; exact ⟨fun _ => q, fun _ => rfl⟩
theorem c_cover (hk : COK h x B L K sz E n U) (w sd nd : Int32) : Ev G m_X5_cover [.ref x, .int w, .int sd, .int nd] h 0 0 (RI (RP h x B L K sz E n U (aCover sz E w sd nd))) := by
  obtain ⟨hs, hn, hE, hRU, hU⟩ := n_lt hk
  obtain ⟨cg, cu, b1, b2, hx, hc, hu⟩ := id hk
  obtain ⟨x1, x2, x3, x4, x5, x6, x7, x8, x9, x10, x11⟩ := id hx
  refine Ev.of pn_X5_cover (Nat.le_of_ble_eq_true rfl) ?_
  refine s_X5_cover_0 (x1 := if w = 0 ∨ w = 1 then 1 else 0) (x2 := b2i (holdB sz sd nd)) (ev_isOneOfTwo w) (fun z => ?_) x1 (by rw [x2]; omega) (fun _ => by rw [x2]; exact ev_holds hc.1 sd nd) (by rw [x2]; exact hc.1.1.1) (by rw [x3]; omega) (fun _ _ => by rw [x3]; exact rf_P hc) (by rw [x3]; exact hc.2.1.1) (fun z0 z h1 q n1 s1 => ?_) (fun _ z => ?_)
  · rw [one_of] at z
    refine rp_fin ?_ SO.rf hk
    unfold aCover; rw [if_neg (fun q => z q.1)]
  · obtain ⟨so, hc1, mt, p1, p2, p3, p4⟩ := q
    obtain ⟨hx1, hu1, hk1⟩ := cok_P b1 b2 hx hu so hc1
    obtain ⟨y1, y2, y3, -⟩ := id hx1
    rw [one_of, Classical.not_not] at z0
    rw [b2i_n] at z
    obtain ⟨s, i, h2, hi, ea, eb⟩ := hold_ex (fun s hs' => by have := hs s hs'; omega) z
    have := hs s h2
    obtain ⟨v, hv, ew⟩ := sd_nI z0
    have ans : aCover sz E w sd nd = b2i (cov sz E v s i) := by
      unfold aCover
      rw [if_pos ⟨z0, z⟩, ea, eb, ew, ct_nI (by omega), ct_nI (by omega), ct_nI (by omega)]
    refine s_X5_cover_28 (x1 := b2i (cov sz E v s i)) y1 (by rw [y3]; omega) (by rw [y3, ea, eb, ew]; exact ev_isInCover hc1.2.1 hE p4 hv h2 hi (by omega)) (by rw [y3]; exact hc1.2.1.1) (fun w1 => ?_) (fun w1 => ?_)
    · exact rp_fin (by rw [ans]; exact w1.symm) (so.wide (by omega) (by omega)) hk1
    · refine rp_fin ?_ (so.wide (by omega) (by omega)) hk1
      rw [ans]
      rw [b2i_n] at w1
      rw [w1]; rfl
  · rw [b2i_0] at z
    refine rp_fin ?_ SO.rf hk
    unfold aCover; rw [if_neg (fun q => by rw [z] at q; cases q.2)]
noncomputable def aHall (sz : Nat → Nat) (E : Nat → Nat → Bool) (w nd : Int32) : Int32 := if (w = 0 ∨ w = 1) ∧ holdB sz 0 nd = true then b2i (!cov sz E (ct w) 0 (ct nd)) else -1
theorem c_hall (hk : COK h x B L K sz E n U) (w nd : Int32) : Ev G m_X5_hall [.ref x, .int w, .int nd] h 0 0 (RI (RP h x B L K sz E n U (aHall sz E w nd))) := by
  obtain ⟨hs, hn, hE, hRU, hU⟩ := n_lt hk
  obtain ⟨cg, cu, b1, b2, hx, hc, hu⟩ := id hk
  obtain ⟨x1, x2, x3, x4, x5, x6, x7, x8, x9, x10, x11⟩ := id hx
  refine Ev.of pn_X5_hall (Nat.le_of_ble_eq_true rfl) ?_
  refine s_X5_hall_0 (x1 := if w = 0 ∨ w = 1 then 1 else 0) (x2 := b2i (holdB sz 0 nd)) (ev_isOneOfTwo w) (fun z => ?_) x1 (by rw [x2]; omega) (fun _ => by rw [x2]; exact ev_holds hc.1 0 nd) (by rw [x2]; exact hc.1.1.1) (by rw [x3]; omega) (fun _ _ => by rw [x3]; exact rf_P hc) (by rw [x3]; exact hc.2.1.1) (fun z0 z h1 q n1 s1 => ?_) (fun _ z => ?_)
  · rw [one_of] at z
    refine rp_fin ?_ SO.rf hk
    unfold aHall; rw [if_neg (fun q => z q.1)]
  · obtain ⟨so, hc1, mt, p1, p2, p3, p4⟩ := q
    obtain ⟨hx1, hu1, hk1⟩ := cok_P b1 b2 hx hu so hc1
    obtain ⟨y1, y2, y3, -⟩ := id hx1
    rw [one_of, Classical.not_not] at z0
    rw [b2i_n] at z
    have h0 := hs 0 (by decide)
    obtain ⟨i, hi, eb⟩ := in_ex (by omega) (hold0 ▸ z)
    obtain ⟨v, hv, ew⟩ := sd_nI z0
    have ans : aHall sz E w nd = b2i (!cov sz E v 0 i) := by
      unfold aHall
      rw [if_pos ⟨z0, z⟩, eb, ew, ct_nI (by omega), ct_nI (by omega)]
    have pr := prt_cases sz E 0 i
    have key : w < nI (prt sz E 0 i) ↔ cov sz E v 0 i = true := by
      unfold cov
      rw [dc_iff, ew]
      rcases (by omega : v = 0 ∨ v = 1) with w0 | w0
      · subst w0
        rw [if_pos rfl]
        rcases pr with q | q | q
        · rw [q.2]; exact ⟨fun z => absurd z (by decide), fun z => (z q.1).elim⟩
        · rw [q.2.2]; exact ⟨fun _ => q.1, fun _ => by decide⟩
        · rw [q.2.2]; exact ⟨fun _ => q.1, fun _ => by decide⟩
      · subst w0
        rw [if_neg (by decide)]
        rcases pr with q | q | q
        · rw [q.2]; exact ⟨fun z => absurd z (by decide), fun z => (mis_not hE (by decide) q.1 z).elim⟩
        · rw [q.2.2]; exact ⟨fun _ => q.2.1, fun _ => by decide⟩
        · rw [q.2.2]; exact ⟨fun z => absurd z (by decide), fun z => (q.2.1 z).elim⟩
    have ev : Ev G m_X3_partOf [.ref (hR h1 x 1), .int 0, .int nd] h1 0 0 (Ret (some (.int (nI (prt sz E 0 i)))) h1) := by
      rw [y3, eb]; exact ev_partOf hc1.2.1 hE p4 (s := 0) (by decide) hi (by omega)
    refine s_X5_hall_28 (x1 := nI (prt sz E 0 i)) y1 (by rw [y3]; omega) ev (by rw [y3]; exact hc1.2.1.1) (fun w1 => ?_) (fun w1 => ?_)
    · refine rp_fin ?_ (so.wide (by omega) (by omega)) hk1
      rw [ans, key.1 w1]; rfl
    · refine rp_fin ?_ (so.wide (by omega) (by omega)) hk1
      rw [ans, Bool.eq_false_iff.2 (fun z => w1 (key.2 z))]; rfl
  · rw [b2i_0] at z
    refine rp_fin ?_ SO.rf hk
    unfold aHall; rw [if_neg (fun q => by rw [z] at q; cases q.2)]
noncomputable def aEdgeIs (sz : Nat → Nat) (E : Nat → Nat → Bool) (a b : Int32) : Int32 := if jn sz E a b then (if dc (Use sz E (ct a) (ct b)) then (if dc (∀ g g', Great (sz 0) E g g' → g (ct a) = some (ct b)) then 2 else 1) else 0) else -1
theorem lone_use {f f' : Nat → Option Nat} (hE : Rg (sz 0) (sz 1) E) (hf : Great (sz 0) E f f') {l r : Nat} (hu : Use sz E l r) : (inn sz E 0 l ∧ ∀ l2, eqb sz E f' l l2 → l2 = l) ↔ ∀ g g', Great (sz 0) E g g' → g l = some r := by
  constructor
  · rintro ⟨h1, h2⟩
    exact (lone_all hE hf h1 hu).1 h2
  · intro h1
    have hin : inn sz E 0 l := by
      refine ⟨(use_lt hE hu).1, ?_, ?_⟩
      · rintro ⟨_, g, g', hg, e⟩
        have e : g l = none := e
        rw [h1 g g' hg] at e; cases e
      · intro hp
        obtain ⟨_, g, g', hg, e⟩ := (use_adj hE hp (use_E hu)).1 hu
        have e : g' r = none := e
        rw [(hg.1.1 _ _).1 (h1 g g' hg)] at e; cases e
    exact ⟨hin, (lone_all hE hf hin hu).2 h1⟩
theorem cok_B {h1 : PH} {cg cu : Nat} (b1 : cg ≤ K) (b2 : cu ≤ K) (hx : XL h x B) (hu : CU h x cu n U) (so : SO (x + 17) (x + 22) h h1) (hc : CG h1 x B L cg sz E) : XL h1 x B ∧ CU h1 x cu n U ∧ COK h1 x B L K sz E n U := ⟨hx.so so, hu.so so (by omega), cg, cu, b1, b2, hx.so so, hc, hu.so so (by omega)⟩
theorem c_edgeIs (hk : COK h x B L K sz E n U) (a b : Int32) : Ev G m_X5_edgeIs [.ref x, .int a, .int b] h 0 0 (RI (RP h x B L K sz E n U (aEdgeIs sz E a b))) := by
  obtain ⟨hs, hn, hE, hRU, hU⟩ := n_lt hk
  have h0 := hs 0 (by decide)
  have h1' := hs 1 (by decide)
  obtain ⟨cg, cu, b1, b2, hx, hc, hu⟩ := id hk
  obtain ⟨x1, x2, x3, x4, x5, x6, x7, x8, x9, x10, x11⟩ := id hx
  refine Ev.of pn_X5_edgeIs (Nat.le_of_ble_eq_true rfl) ?_
  refine s_X5_edgeIs_0 (x1 := b2i (jn sz E a b)) x1 (by rw [x2]; omega) (by rw [x2]; exact ev_joins hc.1 a b) (by rw [x2]; exact hc.1.1.1) (by rw [x3]; omega) (fun _ => by rw [x3]; exact rf_P hc) (by rw [x3]; exact hc.2.1.1) (fun z h1 q n1 s1 => ?_) (fun z => ?_)
  · obtain ⟨so, hc1, pf⟩ := q
    obtain ⟨hx1, hu1, hk1⟩ := cok_P b1 b2 hx hu so hc1
    obtain ⟨y1, y2, y3, y4, -⟩ := id hx1
    rw [b2i_n] at z
    refine s_X5_edgeIs_21 y1 (by rw [y4]; omega) (by rw [y4]; exact rf_B hc1 pf) (by rw [y4]; exact hc1.2.2.1.1) (fun h2 q2 n2 s2 => ?_)
    obtain ⟨so2, hc2, ⟨mt, p1, p2, p3, p4⟩, bf⟩ := q2
    obtain ⟨hx2, hu2, hk2⟩ := cok_B b1 b2 hx1 hu1 so2 hc2
    obtain ⟨w1, w2, w3, w4, -⟩ := id hx2
    have so3 : SO (x + 1) (x + 45) h h2 := (so.wide (by omega) (by omega)).trans (so2.wide (by omega) (by omega))
    have zz : inB a (sz 0) = true ∧ inB b (sz 1) = true := by
      unfold jn at z
      rw [Bool.and_eq_true, Bool.and_eq_true] at z; exact z.1
    obtain ⟨l, hl, ea⟩ := in_ex (by omega) zz.1
    obtain ⟨r, hr, eb⟩ := in_ex (by omega) zz.2
    have ans : aEdgeIs sz E a b = if dc (Use sz E l r) then (if dc (∀ g g', Great (sz 0) E g g' → g l = some r) then 2 else 1) else 0 := by
      unfold aEdgeIs
      rw [z, ea, eb, ct_nI (by omega), ct_nI (by omega), if_pos rfl]
    have ub : bt (ofP (Use sz E l)) r = dc (Use sz E l r) := dc_eq (by rw [bt_ofP]; exact ⟨fun z => z.2, fun z => ⟨by omega, z⟩⟩)
    refine s_X5_edgeIs_28 (x1 := ofP (Use sz E l)) (x2 := if bt (ofP (Use sz E l)) r then 1 else 0) (x3 := b2i (dc (inn sz E 0 l ∧ ∀ l2, eqb sz E (mt 1) l l2 → l2 = l))) w1 (by rw [w4]; omega) (by rw [w4, ea]; exact ev_usefulRights hc2.1 hc2.2.1 p1 p4 p2.1 hc2.2.2.1 (bf _ _ p2) hl) (by rw [w4]; exact hc2.2.2.1.1) (by rw [eb]; exact ev_contains _ (by omega)) (fun _ => by rw [w4, ea]; exact ev_isLonePair hc2.1 hc2.2.1 hc2.2.2.1 (bf _ _ p2) hl) (fun z1 z2 => ?_) (fun z1 z2 => ?_) (fun z1 => ?_)
    · rw [ub] at z1
      have hu : Use sz E l r := Classical.byContradiction (fun q => z1 (by rw [dc_no.2 q]; rfl))
      rw [b2i_0, dc_no, lone_use hE p2.1 hu] at z2
      exact rp_fin (by rw [ans, dc_iff.2 hu, dc_no.2 z2]; rfl) so3 hk2
    · rw [ub] at z1
      have hu : Use sz E l r := Classical.byContradiction (fun q => z1 (by rw [dc_no.2 q]; rfl))
      rw [b2i_n, dc_iff, lone_use hE p2.1 hu] at z2
      exact rp_fin (by rw [ans, dc_iff.2 hu, dc_iff.2 z2]; rfl) so3 hk2
    · rw [ub] at z1
      have hu : ¬ Use sz E l r := fun q => by rw [dc_iff.2 q] at z1; cases z1
      exact rp_fin (by rw [ans, dc_no.2 hu]; rfl) so3 hk2
  · rw [b2i_0] at z
    refine rp_fin ?_ SO.rf hk
    unfold aEdgeIs; rw [z]; rfl
noncomputable def aBlock (sz : Nat → Nat) (E : Nat → Nat → Bool) (sd nd : Int32) : Int32 := if holdB sz sd nd then (if ct sd = 0 then bnum sz E (bst sz E 1) (ct nd) else match bst sz E 1 (ct nd) with | none => -3 | some l => bnum sz E (bst sz E 1) l) else -1
theorem c_block (hk : COK h x B L K sz E n U) (sd nd : Int32) : Ev G m_X5_block [.ref x, .int sd, .int nd] h 0 0 (RI (RP h x B L K sz E n U (aBlock sz E sd nd))) := by
  obtain ⟨hs, hn, hE, hRU, hU⟩ := n_lt hk
  obtain ⟨cg, cu, b1, b2, hx, hc, hu⟩ := id hk
  obtain ⟨x1, x2, x3, x4, x5, x6, x7, x8, x9, x10, x11⟩ := id hx
  refine Ev.of pn_X5_block (Nat.le_of_ble_eq_true rfl) ?_
  refine s_X5_block_0 (x1 := b2i (holdB sz sd nd)) x1 (by rw [x2]; omega) (by rw [x2]; exact ev_holds hc.1 sd nd) (by rw [x2]; exact hc.1.1.1) (by rw [x3]; omega) (fun _ => by rw [x3]; exact rf_P hc) (by rw [x3]; exact hc.2.1.1) (fun z h1 q n1 s1 => ?_) (fun z => ?_)
  · obtain ⟨so, hc1, pf⟩ := q
    obtain ⟨hx1, hu1, hk1⟩ := cok_P b1 b2 hx hu so hc1
    obtain ⟨y1, y2, y3, y4, -⟩ := id hx1
    rw [b2i_n] at z
    refine s_X5_block_21 y1 (by rw [y4]; omega) (by rw [y4]; exact rf_B hc1 pf) (by rw [y4]; exact hc1.2.2.1.1) (fun h2 q2 n2 s2 => ?_)
    obtain ⟨so2, hc2, ⟨mt, p1, p2, p3, p4⟩, bf⟩ := q2
    obtain ⟨hx2, hu2, hk2⟩ := cok_B b1 b2 hx1 hu1 so2 hc2
    obtain ⟨w1, w2, w3, w4, -⟩ := id hx2
    have so3 : SO (x + 1) (x + 45) h h2 := (so.wide (by omega) (by omega)).trans (so2.wide (by omega) (by omega))
    obtain ⟨s, i, h2', hi, ea, eb⟩ := hold_ex (fun s hs' => by have := hs s hs'; omega) z
    have := hs s h2'
    have ans : aBlock sz E sd nd = if s = 0 then bnum sz E (mt 1) i else match mt 1 i with | none => -3 | some l => bnum sz E (mt 1) l := by
      unfold aBlock
      rw [z, ea, eb, ct_nI (by omega), ct_nI (by omega), if_pos rfl, bst_at hE p2 (show 1 < 2 by decide)]
    have ev : Ev G m_X0_numberOf [.ref (hR h2 x 2), .int sd, .int nd] h2 0 0 (Ret (some (.int (aBlock sz E sd nd))) h2) := by
      rw [w4, ans, ea, eb]
      rcases (by omega : s = 0 ∨ s = 1) with w | w
      · subst w
        rw [if_pos rfl]
        exact ev_numberOf0 hc2.1 hc2.2.1 hc2.2.2.1 (bf _ _ p2) hi
      · subst w
        rw [if_neg (by decide)]
        exact ev_numberOf1 hc2.1 hc2.2.1 p1 p2.1 hc2.2.2.1 (bf _ _ p2) hi
    exact s_X5_block_28 w1 (by rw [w4]; omega) ev (by rw [w4]; exact hc2.2.2.1.1) (rp_fin rfl so3 hk2)
  · rw [b2i_0] at z
    refine rp_fin ?_ SO.rf hk
    unfold aBlock; rw [z]; rfl
noncomputable def aLeads (sz : Nat → Nat) (E : Nat → Nat → Bool) (a b : Int32) : Int32 := if inB a (nbs (eqb sz E (bst sz E 1)) (sz 0)) && inB b (nbs (eqb sz E (bst sz E 1)) (sz 0)) then b2i (dc (leadsP sz E (bst sz E 1) (ct a) (ct b))) else -1
theorem c_leads (hk : COK h x B L K sz E n U) (a b : Int32) : Ev G m_X5_leads [.ref x, .int a, .int b] h 0 0 (RI (RP h x B L K sz E n U (aLeads sz E a b))) := by
  obtain ⟨hs, hn, hE, hRU, hU⟩ := n_lt hk
  have h0 := hs 0 (by decide)
  obtain ⟨cg, cu, b1, b2, hx, hc, hu⟩ := id hk
  obtain ⟨x1, x2, x3, x4, x5, x6, x7, x8, x9, x10, x11⟩ := id hx
  refine Ev.of pn_X5_leads (Nat.le_of_ble_eq_true rfl) ?_
  refine s_X5_leads_0 x1 (by rw [x3]; omega) (by rw [x3]; exact rf_P hc) (by rw [x3]; exact hc.2.1.1) (fun h1 q n1 s1 => ?_)
  obtain ⟨so, hc1, pf⟩ := q
  obtain ⟨hx1, hu1, hk1⟩ := cok_P b1 b2 hx hu so hc1
  obtain ⟨y1, y2, y3, y4, -⟩ := id hx1
  refine s_X5_leads_7 y1 (by rw [y4]; omega) (by rw [y4]; exact rf_B hc1 pf) (by rw [y4]; exact hc1.2.2.1.1) (fun h2 q2 n2 s2 => ?_)
  obtain ⟨so2, hc2, ⟨mt, p1, p2, p3, p4⟩, bf⟩ := q2
  obtain ⟨hx2, hu2, hk2⟩ := cok_B b1 b2 hx1 hu1 so2 hc2
  obtain ⟨w1, w2, w3, w4, -⟩ := id hx2
  have so3 : SO (x + 1) (x + 45) h h2 := (so.wide (by omega) (by omega)).trans (so2.wide (by omega) (by omega))
  have bx := bf _ _ p2
  have hnb : nbs (eqb sz E (mt 1)) (sz 0) ≤ sz 0 := nbs_le _
  have em := bst_at hE p2 (show 1 < 2 by decide)
  have ans : aLeads sz E a b = if inB a (nbs (eqb sz E (mt 1)) (sz 0)) && inB b (nbs (eqb sz E (mt 1)) (sz 0)) then b2i (dc (leadsP sz E (mt 1) (ct a) (ct b))) else -1 := by
    unfold aLeads; rw [em]
  refine s_X5_leads_14 (x1 := b2i (inB a (nbs (eqb sz E (mt 1)) (sz 0)))) (x2 := b2i (inB b (nbs (eqb sz E (mt 1)) (sz 0)))) (x3 := b2i (dc (leadsP sz E (mt 1) (ct a) (ct b)))) w1 (by rw [w4]; omega) (by rw [w4]; exact ev_holdsB hc2.2.2.1 bx.2.1 (by omega) a) (by rw [w4]; exact hc2.2.2.1.1) (fun z => ?_) (fun _ => by rw [w4]; exact ev_holdsB hc2.2.2.1 bx.2.1 (by omega) b) (fun z1 z2 => ?_) (fun z1 z2 z3 => ?_) (fun z1 z2 z3 => ?_) (fun _ z => ?_)
  · rw [b2i_0] at z
    exact rp_fin (by rw [ans, z]; rfl) so3 hk2
  · rw [b2i_n] at z1 z2
    obtain ⟨q, hq, ea⟩ := in_ex (by omega) z1
    obtain ⟨t, ht, eb⟩ := in_ex (by omega) z2
    rw [w4, ea, eb, ct_nI (by omega), ct_nI (by omega)]
    exact ev_comesTo hc2.1 hc2.2.2.1 bx hq ht
  · rw [b2i_n] at z1 z2
    exact rp_fin (by rw [ans, z1, z2]; exact z3.symm) so3 hk2
  · rw [b2i_n] at z1 z2 z3
    exact rp_fin (by rw [ans, z1, z2, z3]; rfl) so3 hk2
  · rw [b2i_0] at z
    exact rp_fin (by rw [ans, z, Bool.and_false]; rfl) so3 hk2
