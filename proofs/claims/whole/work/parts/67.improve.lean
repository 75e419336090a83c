variable {G : GG} {h h' : PH} {y n m : Nat} {A : Nat → Nat → Bool} {mt : Nat → Nat → Option Nat} {op : Nat → Nat → Bool}
theorem ch_edge {c r : Nat} (h : Ch n A op c r) : A c r = true ∧ op 0 c = true ∧ op 1 r = true := by
  obtain ⟨g, g', hg, e⟩ := h
  exact opA_iff.1 (hg.1.2 _ _ e)
theorem settled_go {c r : Nat} {mt' : Nat → Nat → Option Nat} (hS : Settled n m mt op c) (hpre : ∀ i, i < c → mt' 0 i = mt 0 i) (hcr : mt' 0 c = some r) : Settled n m mt' (cl (cl op 1 r) 0 c) (c + 1) := by
  obtain ⟨s1, s2⟩ := hS
  refine ⟨fun i => ?_, fun b => ?_⟩
  · rw [cl_iff, cl_ne (fun z => absurd z.1 (by decide)), s1 i]
    constructor
    · rintro ⟨z1, z2⟩
      have : i ≠ c := fun e => z2 ⟨rfl, e⟩
      omega
    · intro z
      exact ⟨by omega, fun w => by omega⟩
  · rw [cl_ne (fun z => absurd z.1 (by decide)), cl_iff, s2 b]
    constructor
    · rintro ⟨⟨z1, z2⟩, z3⟩
      refine ⟨z1, fun i hi e => ?_⟩
      by_cases ei : i = c
      · subst ei; rw [hcr] at e; exact z3 ⟨rfl, (Option.some.inj e).symm⟩
      · rw [hpre i (by omega)] at e; exact z2 i (by omega) e
    · rintro ⟨z1, z2⟩
      refine ⟨⟨z1, fun i hi e => z2 i (by omega) (by rw [hpre i hi]; exact e)⟩, ?_⟩
      rintro ⟨_, e⟩
      subst e
      exact z2 c (by omega) hcr
theorem im_last {nc ns : Nat} {Z : Option Value → PH → Prop} (hm : ML h y) (hN' : EN h y n m) (he : EE h y n m A) (hp : EM h y mt) (hz : ∀ h1, EO y [19, 20] [] h h1 → EG h1 y n m A mt (opAll (sz2 n m)) → Z none h1) : ∀ d k h1, k + d = 50 → EO y [19, 20] [] h h1 → (∀ i, i < k → hI h1 (y + 19) i = b2i (!decide (i < n)) ∧ hI h1 (y + 20) i = b2i (!decide (i < m))) →
    RR G nc ns m_X6_improve 96 [some (.ref y), some (.int (nI k)), none, none] [] h1 Z := by
  obtain ⟨r30, k30, l30⟩ := hm.r 30 19 4 50 (by decide)
  obtain ⟨r31, k31, l31⟩ := hm.r 31 20 4 50 (by decide)
  have y0 := hm.2.1
  obtain ⟨n1, n2, n3, n4⟩ := id hN'
  intro d
  induction d with
  | zero =>
    intro k h1 e eo hb
    have e : k = 50 := by omega
    subst e
    obtain ⟨o1, o2, o3, -⟩ := id eo
    have no : ¬ (50 : Int32) ≤ nI 50 → False := fun z => z (by decide)
    exact s_X6_improve_96 (fun _ => hz h1 eo ⟨hm.eo eo, hN'.eo eo (by decide) (by decide), he.eo eo (by decide), ⟨fun i hi => hb i hi, fun i hi => opAll_lt.1 hi, fun i hi => opAll_lt.1 hi⟩, hp.eo eo (by decide) (by decide)⟩) (by rw [o1]; exact hm.1) (by rw [o3, r30]; omega) (by rw [o1, o3, r30]; exact k30) (fun z => (no z).elim) (by rw [o3, r31]; omega) (by rw [o1, o3, r31]; exact k31) (fun z => (no z).elim) (fun z => (no z).elim) (fun z => (no z).elim) (fun z => (no z).elim) (fun z => (no z).elim) (fun z => (no z).elim) (fun z => (no z).elim) (fun z => (no z).elim) (fun z => (no z).elim)
  | succ d ih =>
    intro k h1 e eo hb
    obtain ⟨o1, o2, o3, -⟩ := id eo
    have ck : Int32.toNatClampNeg (nI k) = k := nI_clamp (by omega)
    have vp : vp_in (nI k) 50 := vp_in_nI (by omega) (by decide)
    have vp19 : vp_in (nI k) (hL h1 (hR h1 y 30)) := by rw [o2, o3, r30, l30]; exact vp
    have vp20 : vp_in (nI k) (hL h1 (hR h1 y 31)) := by rw [o2, o3, r31, l31]; exact vp
    have hN1 := hN'.eo eo (by decide) (by decide)
    have step : ∀ v w : Int32, v = b2i (!decide (k < n)) → w = b2i (!decide (k < m)) → RR G nc ns m_X6_improve 96 [some (.ref y), some (.int (nI k + 1)), none, none] [] (sI (sI h1 (hR h1 y 30) (Int32.toNatClampNeg (nI k)) v) (hR h1 y 31) (Int32.toNatClampNeg (nI k)) w) Z := by
      intro v w ev ew
      rw [o3, r30, r31, ck, nI_1]
      refine ih (k + 1) _ (by omega) ((eo.trans (EO.cI (by decide) (by decide) (by decide))).trans (EO.cI (by decide) (by decide) (by decide))) (fun i hi => ?_)
      have a1 : y + 19 ≠ y + 20 := by omega
      by_cases ei : i = k
      · subst ei
        rw [sI_ne a1, sI_eq, sI_eq, ev, ew]
        exact ⟨rfl, rfl⟩
      · rw [sI_ne a1, sI_nk ei, sI_nk ei, sI_ne a1.symm]
        exact hb i (by omega)
    have lt28 : nI k < hI h1 y 28 ↔ k < n := by rw [hN1.1]; exact nI_ltI (by omega) (by omega)
    have lt29 : ∀ v, nI k < hI (sI h1 (hR h1 y 30) (Int32.toNatClampNeg (nI k)) v) y 29 ↔ k < m := fun v => by
      rw [o3, r30, sI_ne (by omega), hN1.2.1]; exact nI_ltI (by omega) (by omega)
    refine s_X6_improve_96 (fun z => absurd z (by rw [e50]; exact nI_ge (by omega) (by decide))) (by rw [o1]; exact hm.1) (by rw [o3, r30]; omega) (by rw [o1, o3, r30]; exact k30) (fun _ _ => vp19) (by rw [o3, r31]; omega) (by rw [o1, o3, r31]; exact k31) (fun _ _ _ => vp20) (fun _ z1 z2 => ?_) (fun _ _ _ => vp20) (fun _ z1 z2 => ?_) (fun _ _ => vp19) (fun _ _ _ => vp20) (fun _ z1 z2 => ?_) (fun _ _ _ => vp20) (fun _ z1 z2 => ?_)
    · exact step 0 0 (by rw [decide_eq_true (lt28.1 z1)]; rfl) (by rw [decide_eq_true ((lt29 _).1 z2)]; rfl)
    · exact step 0 1 (by rw [decide_eq_true (lt28.1 z1)]; rfl) (by rw [decide_eq_false (fun q => z2 ((lt29 _).2 q))]; rfl)
    · exact step 1 0 (by rw [decide_eq_false (fun q => z1 (lt28.2 q))]; rfl) (by rw [decide_eq_true ((lt29 _).1 z2)]; rfl)
    · exact step 1 1 (by rw [decide_eq_false (fun q => z1 (lt28.2 q))]; rfl) (by rw [decide_eq_false (fun q => z2 ((lt29 _).2 q))]; rfl)
theorem im_in {nc ns : Nat} {Z : Option Value → PH → Prop} {c : Nat} (hm : ML h y)
    (NEXT : ∀ mt' op' h1, EO y [19, 20, 21, 22, 23, 24, 25, 26] [38] h h1 → EG h1 y n m A mt' op' → Best n A (mt' 0) (mt' 1) (c + 1) → Settled n m mt' op' (c + 1) → RR G nc ns m_X6_improve 2 [some (.ref y), some (.int (nI c + 1)), none, none] [] h1 Z) :
    ∀ d r mt op h1, r + d = m → EO y [19, 20, 21, 22, 23, 24, 25, 26] [38] h h1 → EG h1 y n m A mt op → Best n A (mt 0) (mt 1) c → Settled n m mt op c → c < n → (∀ r', r' < r → ¬ Ch n A op c r') →
    RR G nc ns m_X6_improve 14 [some (.ref y), some (.int (nI c)), some (.int 0), some (.int (nI r))] [] h1 Z := by
  obtain ⟨r30, k30, l30⟩ := hm.r 30 19 4 50 (by decide)
  obtain ⟨r31, k31, l31⟩ := hm.r 31 20 4 50 (by decide)
  obtain ⟨r27, k27, l27⟩ := hm.r 27 18 4 2500 (by decide)
  have y0 := hm.2.1
  intro d
  induction d with
  | zero =>
    intro r mt op h1 e eo hg hB hS hc hno
    have e : r = m := by omega
    subst e
    obtain ⟨hm1, hN', he, hq, hp⟩ := id hg
    obtain ⟨n1, n2, n3, n4⟩ := id hN'
    obtain ⟨o1, o2, o3, -⟩ := id eo
    have hRg := he.2
    obtain ⟨hoc, -⟩ := settled_oc hRg hB.1.1 hS
    have e30 : hR h1 y 30 = y + 19 := by rw [o3]; exact r30
    have e31 : hR h1 y 31 = y + 20 := by rw [o3]; exact r31
    have e27 : hR h1 y 27 = y + 18 := by rw [o3]; exact r27
    have cc : Int32.toNatClampNeg (nI c) = c := nI_clamp (by omega)
    have noall : ∀ q, ¬ Ch n A op c q := fun q hq' => hno q ((hRg _ _ (ch_edge hq').1).2) hq'
    have ne : ¬ hI h1 y 29 ≤ nI r → False := fun z => z (by rw [n2]; exact nI_le (Nat.le_refl _) (by omega))
    have hoc0 : op 0 c = true := (hS.1 c).2 ⟨Nat.le_refl _, hc⟩
    have hmc : mt 0 c = none := by
      cases e : mt 0 c with
      | none => rfl
      | some b =>
        refine (noall b ⟨opF mt op 0, opF mt op 1, op_great hRg hB.1 hoc, ?_⟩).elim
        rw [opF_open hoc0]; exact e
    have eoA : EO y [19, 20, 21, 22, 23, 24, 25, 26] [38] h1 (sI h1 (y + 19) c 1) := EO.cI (by decide) (by decide) (by decide)
    have go := NEXT mt (cl op 0 c) (sI h1 (y + 19) c 1) (eo.trans eoA) ⟨hm1.eo eoA, hN'.eo eoA (by decide) (by decide), he.eo eoA (by decide), hq.shut (s := 0) (i := c) (by decide) (by omega), hp.eo (S := [19]) (D := []) (EO.cI (by decide) (by decide) (by decide)) (by decide) (by decide)⟩ (best_none hRg hB hS noall) (settled_stay hS (fun i => ?_) (fun b => ?_))
    · exact s_X6_improve_14 (P1 := fun _ _ => True) (by rw [o1]; exact hm.1) (by rw [e30]; omega) (by rw [o1, e30]; exact k30) (fun _ => by rw [o2, e30, l30]; exact vp_in_nI (by omega) (by decide)) (fun _ => by rw [e30, cc]; exact go) (fun z => (ne z).elim) (fun z => (ne z).elim) (by rw [e27]; omega) (by rw [o1, e27]; exact k27) (fun z => (ne z).elim) (fun z => (ne z).elim) (by rw [e31]; omega) (by rw [o1, e31]; exact k31) (fun z => (ne z).elim) (fun z => (ne z).elim) (fun z => (ne z).elim) (fun z => (ne z).elim)
    · show (op 0 i && !(decide (0 = 0) && decide (i = c))) = _
      rw [decide_eq_true rfl, Bool.true_and]
    · rw [cl_ne (fun z => absurd z.1 (by decide)), hmc]
      exact ⟨fun z => ⟨z, fun w => (by cases w)⟩, fun z => z.1⟩
  | succ d ih =>
    intro r mt op h1 e eo hg hB hS hc hno
    have hr : r < m := by omega
    obtain ⟨hm1, hN', he, hq, hp⟩ := id hg
    obtain ⟨n1, n2, n3, n4⟩ := id hN'
    obtain ⟨o1, o2, o3, -⟩ := id eo
    have hRg := he.2
    obtain ⟨hoc, -⟩ := settled_oc hRg hB.1.1 hS
    have e30 : hR h1 y 30 = y + 19 := by rw [o3]; exact r30
    have e31 : hR h1 y 31 = y + 20 := by rw [o3]; exact r31
    have e27 : hR h1 y 27 = y + 18 := by rw [o3]; exact r27
    have cc : Int32.toNatClampNeg (nI c) = c := nI_clamp (by omega)
    have cr : Int32.toNatClampNeg (nI r) = r := nI_clamp (by omega)
    have ix : (50 : Int32) * nI c + nI r = nI (50 * c + r) := idx50 (by omega) (by omega)
    have ci : Int32.toNatClampNeg (nI (50 * c + r)) = 50 * c + r := nI_clamp (by omega)
    have vA : hI h1 (y + 18) (50 * c + r) = b2i (A c r) := he.1 c r (by omega) (by omega)
    have vO : hI h1 (y + 20) r = b2i (!op 1 r) := (hq.1 r (by omega)).2
    have ne : hI h1 y 29 ≤ nI r → False := fun z => absurd z (by rw [n2]; exact nI_ge hr (by omega))
    have hoc0 : op 0 c = true := (hS.1 c).2 ⟨Nat.le_refl _, hc⟩
    have hb0 : ∀ {c : Bool}, b2i (!c) = 0 → c = true := fun {c} z => by cases c; cases z; rfl
    have skip : ¬ Ch n A op c r → ∀ q, q < r + 1 → ¬ Ch n A op c q := fun hn q hq => by
      by_cases e : q = r
      · subst e; exact hn
      · exact hno q (by omega)
    refine s_X6_improve_14 (P1 := FOK h1 y n m A mt op c r) (by rw [o1]; exact hm.1) (by rw [e30]; omega) (by rw [o1, e30]; exact k30) (fun z => (ne z).elim) (fun z => (ne z).elim) (fun _ z => (z rfl).elim) (fun _ z => (z rfl).elim) (by rw [e27]; omega) (by rw [o1, e27]; exact k27) (fun _ _ => by rw [o2, e27, l27, ix]; exact vp_in_nI (by omega) (by decide)) (fun _ _ z => ?_) (by rw [e31]; omega) (by rw [o1, e31]; exact k31) (fun _ _ _ => by rw [o2, e31, l31]; exact vp_in_nI (by omega) (by decide)) (fun _ _ _ z => ?_) (fun _ _ z1 z2 => ?_) (fun _ _ z1 z2 x h2 q _ _ => ?_)
    · rw [e27, ix, ci, vA, b2i_0] at z
      rw [nI_1]
      exact ih (r + 1) mt op h1 (by omega) eo hg hB hS hc (skip (fun w => by rw [(ch_edge w).1] at z; cases z))
    · rw [e31, cr, vO, b2i_n] at z
      rw [nI_1]
      exact ih (r + 1) mt op h1 (by omega) eo hg hB hS hc (skip (fun w => by rw [(ch_edge w).2.2] at z; cases z))
    · rw [e27, ix, ci, vA, b2i_n] at z1
      rw [e31, cr, vO] at z2
      exact m_force hg hB.1 hoc hoc0 (hb0 z2) z1
    · rw [e27, ix, ci, vA, b2i_n] at z1
      rw [e31, cr, vO] at z2
      obtain ⟨eo2, q⟩ := q
      obtain ⟨p1, p2, p3, -⟩ := id (eo.trans eo2)
      have g31 : hR h2 y 31 = y + 20 := by rw [p3]; exact r31
      have g30 : hR h2 y 30 = y + 19 := by rw [p3]; exact r30
      have g27 : hR h2 y 27 = y + 18 := by rw [p3]; exact r27
      rcases q with ⟨ex, mt', hg', hG', hoc', hcr', hcl'⟩ | ⟨ex, hg', hn⟩
      · subst ex
        have no1 : ¬ (1 : Int32) = 0 := by decide
        refine s_X6_improve_55 (fun z => (no1 z).elim) (by rw [p1]; exact hm.1) (by rw [g31]; omega) (by rw [p1, g31]; exact k31) (fun _ => by rw [p2, g31, l31]; exact vp_in_nI (by omega) (by decide)) (fun _ => ?_)
        rw [g31, cr]
        have hpre : ∀ i, i < c → mt' 0 i = mt 0 i := fun i hi => hcl' 0 i (by decide) (by
          cases e : op 0 i
          · rfl
          · have := (hS.1 i).1 e; omega)
        have eoA : EO y [19, 20, 21, 22, 23, 24, 25, 26] [38] h2 (sI h2 (y + 20) r 1) := EO.cI (by decide) (by decide) (by decide)
        have eoB : EO y [19, 20, 21, 22, 23, 24, 25, 26] [38] h2 (sI (sI h2 (y + 20) r 1) (y + 19) c 1) := eoA.trans (EO.cI (by decide) (by decide) (by decide))
        obtain ⟨hm2, hN2, he2, hq2, hp2⟩ := id hg'
        have go := NEXT mt' (cl (cl op 1 r) 0 c) (sI (sI h2 (y + 20) r 1) (y + 19) c 1) ((eo.trans eo2).trans eoB) ⟨hm2.eo eoB, hN2.eo eoB (by decide) (by decide), he2.eo eoB (by decide), (hq2.shut (s := 1) (i := r) (by decide) (by omega)).shut (s := 0) (i := c) (by decide) (by omega), hp2.eo (S := [19, 20]) (D := []) ((EO.cI (by decide) (by decide) (by decide)).trans (EO.cI (by decide) (by decide) (by decide))) (by decide) (by decide)⟩ (best_some hRg hB hS (fun r' hr' => ?_) hG' hpre hcr') (settled_go hS hpre hcr')
        · obtain ⟨t1, t2, t3, -⟩ := id (eo.trans (eo2.trans eoA))
          have u30 : hR (sI h2 (y + 20) r 1) y 30 = y + 19 := g30
          exact s_X6_improve_14 (P1 := fun _ _ => True) (by rw [t1]; exact hm.1) (by rw [u30]; omega) (by rw [t1, u30]; exact k30) (fun _ => by rw [t2, u30, l30]; exact vp_in_nI (by omega) (by decide)) (fun _ => by rw [u30, cc]; exact go) (fun _ _ => by rw [t2, u30, l30]; exact vp_in_nI (by omega) (by decide)) (fun _ _ => by rw [u30, cc]; exact go) (by rw [t3, r27]; omega) (by rw [t1, t3, r27]; exact k27) (fun _ z => (no1 z).elim) (fun _ z => (no1 z).elim) (by rw [t3, r31]; omega) (by rw [t1, t3, r31]; exact k31) (fun _ z => (no1 z).elim) (fun _ z => (no1 z).elim) (fun _ z => (no1 z).elim) (fun _ z => (no1 z).elim)
        · rcases Nat.lt_or_ge r' r with w | w
          · exact (hno r' w hr').elim
          · exact w
      · subst ex
        refine s_X6_improve_55 (fun _ => ?_) (by rw [p1]; exact hm.1) (by rw [g31]; omega) (by rw [p1, g31]; exact k31) (fun z => (z rfl).elim) (fun z => (z rfl).elim)
        rw [nI_1]
        exact ih (r + 1) mt op h2 (by omega) (eo.trans eo2) hg' hB hS hc (skip hn)
theorem im_out {nc ns : Nat} {Z : Option Value → PH → Prop} (hm : ML h y) (hz : ∀ mt' h1, EO y [19, 20, 21, 22, 23, 24, 25, 26] [38] h h1 → EG h1 y n m A mt' (opAll (sz2 n m)) → Best n A (mt' 0) (mt' 1) n → Z none h1) :
    ∀ d c mt op h1, c + d = n → EO y [19, 20, 21, 22, 23, 24, 25, 26] [38] h h1 → EG h1 y n m A mt op → Best n A (mt 0) (mt 1) c → Settled n m mt op c →
    RR G nc ns m_X6_improve 2 [some (.ref y), some (.int (nI c)), none, none] [] h1 Z := by
  intro d
  induction d with
  | zero =>
    intro c mt op h1 e eo hg hB hS
    have e : c = n := by omega
    subst e
    obtain ⟨hm1, hN', he, hq, hp⟩ := id hg
    obtain ⟨n1, n2, n3, n4⟩ := id hN'
    refine s_X6_improve_2 hm1.1 (fun _ => ?_) (fun z => (z (by rw [n1]; exact nI_le (Nat.le_refl _) (by omega))).elim)
    rw [← nI_0]
    exact im_last hm1 hN' he hp (fun h2 eo2 hg2 => hz mt h2 (eo.trans (eo2.wide (by decide) (by decide))) hg2 hB) 50 0 h1 (by omega) EO.rf (fun i hi => absurd hi (by omega))
  | succ d ih =>
    intro c mt op h1 e eo hg hB hS
    obtain ⟨hm1, hN', he, hq, hp⟩ := id hg
    obtain ⟨n1, n2, n3, n4⟩ := id hN'
    refine s_X6_improve_2 hm1.1 (fun z => absurd z (by rw [n1]; exact nI_ge (by omega) (by omega))) (fun _ => ?_)
    rw [← nI_0]
    refine im_in (h := h) hm (fun mt' op' h2 eo2 hg2 hB2 hS2 => ?_) m 0 mt op h1 (by omega) eo hg hB hS (by omega) (fun r' hr' => absurd hr' (by omega))
    rw [nI_1]
    exact ih (c + 1) mt' op' h2 (by omega) eo2 hg2 hB2 hS2
theorem best_0 {f f' : Nat → Option Nat} (hG : Great n A f f') : Best n A f f' 0 := ⟨hG, fun l hl => absurd hl (by omega)⟩
theorem settled_0 : Settled n m mt (opAll (sz2 n m)) 0 := ⟨fun i => by rw [opAll_lt]; exact ⟨fun z => ⟨Nat.zero_le _, z⟩, fun z => z.2⟩, fun b => by rw [opAll_lt]; exact ⟨fun z => ⟨z, fun i hi => absurd hi (by omega)⟩, fun z => z.1⟩⟩
theorem m_improve (hg : EG h y n m A mt (opAll (sz2 n m))) (hG : Great n A (mt 0) (mt 1)) : Ev G m_X6_improve [.ref y] h 0 0 (RV (fun h1 => EO y [19, 20, 21, 22, 23, 24, 25, 26] [38] h h1 ∧ ∃ mt', EG h1 y n m A mt' (opAll (sz2 n m)) ∧ Best n A (mt' 0) (mt' 1) n)) := by
  refine Ev.of pn_X6_improve (Nat.le_of_ble_eq_true rfl) ?_
  refine s_X6_improve_0 ?_
  rw [← nI_0]
  exact im_out hg.1 (fun mt' h1 eo hg1 hB => ⟨⟨rfl, eo, mt', hg1, hB⟩, eo.2.2.2.1, eo.2.2.2.2.1⟩) n 0 mt _ h (by omega) EO.rf hg (best_0 hG) settled_0
