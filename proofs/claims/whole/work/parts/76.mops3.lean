variable {G : GG} {h h' : PH} {y n : Nat} {sz : Nat → Nat} {E U : Nat → Nat → Bool}
def noE (E : Nat → Nat → Bool) (l r : Nat) : Nat → Nat → Bool := fun a b => E a b && !(decide (a = l) && decide (b = r))
theorem noE_iff {l r a b : Nat} : noE E l r a b = true ↔ E a b = true ∧ ¬ (a = l ∧ b = r) := by
  unfold noE
  rw [Bool.and_eq_true, Bool.not_eq_true', Bool.and_eq_false_iff, decide_eq_false_iff_not, decide_eq_false_iff_not]
  constructor
  · rintro ⟨h1, h2⟩; exact ⟨h1, fun z => by rcases h2 with h2 | h2; exact h2 z.1; exact h2 z.2⟩
  · rintro ⟨h1, h2⟩
    refine ⟨h1, ?_⟩
    by_cases e : a = l
    · exact Or.inr (fun z => h2 ⟨e, z⟩)
    · exact Or.inl e
theorem ch_use {l r : Nat} (hE : Rg (sz 0) (sz 1) E) : Ch (sz 0) E (opAll (sz2 (sz 0) (sz 1))) l r ↔ Use sz E l r := by
  unfold Ch Use
  rw [show opA E (opAll (sz2 (sz 0) (sz 1))) = E from opA_all (sz := sz2 (sz 0) (sz 1)) hE]
theorem r_edgeIs (hk : MOK h y sz E n U) (a b : Int32) : Ev G m_X6_edgeIs [.ref y, .int a, .int b] h 0 0 (RI (RM2 h y sz E n U (aEdgeIs sz E a b))) := by
  obtain ⟨hs, hE, -⟩ := hk.lt
  have h50 := hs 0 (by decide)
  have h51 := hs 1 (by decide)
  refine Ev.of pn_X6_edgeIs (Nat.le_of_ble_eq_true rfl) ?_
  refine s_X6_edgeIs_0 (x1 := aHas sz E a b) (m_has hk.1.2.1 hk.1.1 a b) hk.1.1.1 (fun _ => w_work hk) (fun z h1 q _ _ => ?_) (fun z => ?_)
  · have z : jn sz E a b = true := b2i_n.1 z
    have zz : inB a (sz 0) = true ∧ inB b (sz 1) = true ∧ E (ct a) (ct b) = true := by
      unfold jn at z
      rw [Bool.and_eq_true, Bool.and_eq_true] at z; exact ⟨z.1.1, z.1.2, z.2⟩
    obtain ⟨l, r, hl, hr, ea, eb, ca, cb⟩ := jn_at h50 h51 zz.1 zz.2.1
    have hlr : E l r = true := by rw [← ca, ← cb]; exact zz.2.2
    obtain ⟨so, hk1, mw⟩ := q
    have hm1 := hk1.1.1
    have y0 := hm1.2.1
    obtain ⟨r2, k2, l2⟩ := hm1.r 2 1 4 2500 (by decide)
    obtain ⟨g1, g2, g3, g4, g5, g6⟩ := id hk1.1.2.1
    have ans : aEdgeIs sz E a b = if dc (Use sz E l r) then (if dc (∀ g g', Great (sz 0) E g g' → g l = some r) then 2 else 1) else 0 := by
      unfold aEdgeIs
      rw [z, ca, cb, if_pos rfl]
    refine s_X6_edgeIs_15 hm1.1 (by rw [r2]; omega) (by rw [r2, g1, g2]; exact m_use hm1 (Or.inl rfl) g3 g4 g5 g6) (fun h2 q _ _ => ?_)
    obtain ⟨eo2, eg2⟩ := q
    refine s_X6_edgeIs_31 (m_growAll eg2 isM_none (fun l b z => by cases z)) eg2.1.1 (fun x h3 q _ _ => ?_)
    obtain ⟨eo3, mt, k, p1, p2, p3, p4, p5, p6, p7⟩ := q
    have eg3 : EG h3 y (sz 0) (sz 1) E mt (opAll (sz2 (sz 0) (sz 1))) := eg2.grow eo3 p1 (by decide) (by decide) (by decide) (by decide) (by decide)
    have hGr : Great (sz 0) E (mt 0) (mt 1) := cert_all (sz := sz2 (sz 0) (sz 1)) g6 p2 p4
    have ol : opAll (sz2 (sz 0) (sz 1)) 0 l = true := opAll_lt.2 hl
    have or' : opAll (sz2 (sz 0) (sz 1)) 1 r = true := opAll_lt.2 hr
    refine s_X6_edgeIs_35 (P1 := FOK h3 y (sz 0) (sz 1) E mt (opAll (sz2 (sz 0) (sz 1))) l r) (by rw [ea, eb]; exact m_force eg3 hGr p3 ol or' hlr) eg3.1.1 (fun x4 h4 q _ _ => ?_)
    obtain ⟨eo4, q⟩ := q
    have eoT : EO y [18, 19, 20, 21, 22, 23, 24, 25, 26] [28, 29, 38] h1 h4 := ((eo2.wide (by decide) (by decide)).trans (eo3.wide (by decide) (by decide))).trans (eo4.wide (by decide) (by decide))
    have hkT : ∀ h5, EO y [18, 19, 20, 21, 22, 23, 24, 25, 26] [28, 29, 38] h1 h5 → MOK h5 y sz E n U ∧ SO y (y + 27) h h5 := fun h5 eo5 => ⟨⟨hk1.1.eo eo5 (by decide), hk1.2.eo eo5 (by decide)⟩, so.trans eo5.so⟩
    have hm4 := hm1.eo eoT
    obtain ⟨r27, k27, l27⟩ := hm4.r 27 18 4 2500 (by decide)
    obtain ⟨r32, k32, l32⟩ := hm4.r 32 21 2 50 (by decide)
    obtain ⟨r33, k33, l33⟩ := hm4.r 33 22 2 50 (by decide)
    have ix : (50 : Int32) * a + b = nI (50 * l + r) := by rw [ea, eb]; exact idx50 (by omega) (by omega)
    have ci : Int32.toNatClampNeg (nI (50 * l + r)) = 50 * l + r := nI_clamp (by omega)
    have cl' : Int32.toNatClampNeg a = l := by rw [ea]; exact nI_clamp (by omega)
    have cr' : Int32.toNatClampNeg b = r := by rw [eb]; exact nI_clamp (by omega)
    rcases q with ⟨ex, mt', eg4, hG4, hoc4, hfl, -⟩ | ⟨ex, eg4, hno⟩
    · have hu : Use sz E l r := ⟨mt' 0, mt' 1, hG4, hfl⟩
      obtain ⟨hm5, hN5, he5, hq5, hp5⟩ := id eg4
      have n0 : ¬ x4 = 0 := by rw [ex]; decide
      obtain ⟨gM, gz⟩ := great_two g6 hG4 hfl
      -- the graph without this edge
      have em := ((hp5.two.one (i := l) (v := none) (by omega) (fun j z => by cases z)).1.one (i := r) (v := none) (by omega) (fun j z => by cases z)).2
      have eoA : EO y [18] [] h4 (sI h4 (y + 18) (50 * l + r) 0) := EO.cI (by decide) (by decide) (by decide)
      have eoB : EO y [18, 21, 22] [] h4 (sI (sI (sI h4 (y + 18) (50 * l + r) 0) (y + 21) l (-1)) (y + 22) r (-1)) := ((eoA.wide (by decide) (by decide)).trans (EO.cI (by decide) (by decide) (by decide))).trans (EO.cI (by decide) (by decide) (by decide))
      have em2 : EM (sI (sI (sI h4 (y + 18) (50 * l + r) 0) (y + 21) l (-1)) (y + 22) r (-1)) y (two (up (mt' 0) l none) (up (mt' 1) r none)) := (((hp5.two.eo eoA (by decide) (by decide)).one (i := l) (v := none) (by omega) (fun j z => by cases z)).1.one (i := r) (v := none) (by omega) (fun j z => by cases z)).2
      have ee2 : EE (sI (sI (sI h4 (y + 18) (50 * l + r) 0) (y + 21) l (-1)) (y + 22) r (-1)) y (sz 0) (sz 1) (noE E l r) := by
        refine ⟨fun x z hx hz => ?_, fun x z e => g6 x z (noE_iff.1 e).1⟩
        rw [sI_ne (by omega), sI_ne (by omega)]
        by_cases q : x = l ∧ z = r
        · rw [q.1, q.2, sI_eq]
          have : noE E l r l r = false := by
            cases e : noE E l r l r
            · rfl
            · exact ((noE_iff.1 e).2 ⟨rfl, rfl⟩).elim
          rw [this]; rfl
        · rw [sI_nk (by omega), he5.1 x z hx hz]
          unfold noE
          have : (decide (x = l) && decide (z = r)) = false := by
            cases e : (decide (x = l) && decide (z = r))
            · rfl
            · rw [Bool.and_eq_true, decide_eq_true_iff, decide_eq_true_iff] at e; exact (q e).elim
          rw [this]; simp
      have hM2 : IsM (noE E l r) (up (mt' 0) l none) (up (mt' 1) r none) := gM.sub (fun x z e => noE_iff.2 ⟨gM.2 _ _ e, fun w => by rw [w.1, up_eq] at e; cases e⟩)
      have oc2 : ∀ x z, up (mt' 0) l none x = some z → opAll (sz2 (sz 0) (sz 1)) 0 x = opAll (sz2 (sz 0) (sz 1)) 1 z := fun x z e => all_oc g6 gM x z e
      have ev := m_grow (G := G) (mt := two (up (mt' 0) l none) (up (mt' 1) r none)) (hm4.eo eoB) (hN5.eo eoB (by decide) (by decide)) ee2 (hq5.eo eoB (by decide) (by decide)) em2 hM2 oc2
      refine s_X6_edgeIs_42 (P1 := fun x h' => (x = 1 ∧ EO y [21, 22, 25, 26] [38] (sI (sI (sI h4 (y + 18) (50 * l + r) 0) (y + 21) l (-1)) (y + 22) r (-1)) h' ∧ Grown (sI (sI (sI h4 (y + 18) (50 * l + r) 0) (y + 21) l (-1)) (y + 22) r (-1)) y (sz 0) (noE E l r) (two (up (mt' 0) l none) (up (mt' 1) r none)) (opAll (sz2 (sz 0) (sz 1))) h') ∨ (x = 0 ∧ EO y [21, 22, 25, 26] [38] (sI (sI (sI h4 (y + 18) (50 * l + r) 0) (y + 21) l (-1)) (y + 22) r (-1)) h' ∧ EM h' y (two (up (mt' 0) l none) (up (mt' 1) r none)) ∧ Cert (noE E l r) (two (up (mt' 0) l none) (up (mt' 1) r none)) (opAll (sz2 (sz 0) (sz 1))))) hm4.1 (by rw [r27]; omega) (by rw [r27]; exact k27) (fun _ => by rw [r27, l27, ix]; exact vp_in_nI (by omega) (by decide)) (by rw [r32]; omega) (by rw [r32]; exact k32) (fun _ => by rw [r32, l32, ea]; exact vp_in_nI (by omega) (by decide)) (by rw [r33]; omega) (by rw [r33]; exact k33) (fun _ => by rw [r33, l33, eb]; exact vp_in_nI (by omega) (by decide)) (fun _ => by rw [r27, r32, r33, ix, ci, cl', cr']; exact ev) (fun _ x5 h5 q _ _ => ?_) (fun z => (n0 z).elim)
      have z2 : siz (sz 0) (two (up (mt' 0) l none) (up (mt' 1) r none) 0) + 1 = siz (sz 0) (mt' 0) := gz
      rcases q with ⟨e5, eo5, mt5, v1, v2, v3, v4, v5⟩ | ⟨e5, eo5, v1, hC⟩
      · subst e5
        obtain ⟨hkF, soF⟩ := hkT h5 ((eoT.trans (eoB.wide (by decide) (by decide))).trans (eo5.wide (by decide) (by decide)))
        refine s_X6_edgeIs_77 (fun z => absurd z (by decide)) (fun _ => rm_fin ?_ soF hkF)
        have hG5 : Great (sz 0) E (mt5 0) (mt5 1) := great_same hG4 (v2.sub (fun x z e => (noE_iff.1 (v2.2 _ _ e)).1)) (by omega)
        rw [ans, dc_iff.2 hu, dc_no.2 (fun w => ?_)]
        · rfl
        · exact (noE_iff.1 (v2.2 _ _ (w _ _ hG5))).2 ⟨rfl, rfl⟩
      · subst e5
        obtain ⟨hkF, soF⟩ := hkT h5 ((eoT.trans (eoB.wide (by decide) (by decide))).trans (eo5.wide (by decide) (by decide)))
        refine s_X6_edgeIs_77 (fun _ => rm_fin ?_ soF hkF) (fun z => (z rfl).elim)
        have hG5 : Great (sz 0) (noE E l r) (up (mt' 0) l none) (up (mt' 1) r none) := cert_all (sz := sz2 (sz 0) (sz 1)) (mt := two (up (mt' 0) l none) (up (mt' 1) r none)) ee2.2 hM2 hC
        rw [ans, dc_iff.2 hu, dc_iff.2 (fun g g' hg => ?_)]
        · rfl
        · refine Classical.byContradiction (fun hne => ?_)
          have hg2 : IsM (noE E l r) g g' := hg.1.sub (fun x z e => noE_iff.2 ⟨hg.1.2 _ _ e, fun w => hne (by rw [w.1, w.2] at e; exact e)⟩)
          have a1 := hG5.2 g g' hg2
          have a2 := great_siz hG4 hg
          omega
    · obtain ⟨hkF, soF⟩ := hkT h4 eoT
      have z0 : x4 = 0 := ex
      have no : ¬ x4 = 0 → False := fun w => w z0
      refine s_X6_edgeIs_42 (P1 := fun _ _ => True) hm4.1 (by rw [r27]; omega) (by rw [r27]; exact k27) (fun z => (no z).elim) (by rw [r32]; omega) (by rw [r32]; exact k32) (fun z => (no z).elim) (by rw [r33]; omega) (by rw [r33]; exact k33) (fun z => (no z).elim) (fun z => (no z).elim) (fun z => (no z).elim) (fun _ => rm_fin ?_ soF hkF)
      rw [ch_use g6] at hno
      rw [ans, dc_no.2 hno]; rfl
  · have z : jn sz E a b = false := b2i_0.1 z
    exact rm_fin (by unfold aEdgeIs; rw [z]; rfl) SO.rf hk
theorem r_leads (hk : MOK h y sz E n U) (a b : Int32) : Ev G m_X6_leads [.ref y, .int a, .int b] h 0 0 (RI (RM2 h y sz E n U (aLeads sz E a b))) := by
  obtain ⟨hs, hE, -⟩ := hk.lt
  have h50 := hs 0 (by decide)
  refine Ev.of pn_X6_leads (Nat.le_of_ble_eq_true rfl) ?_
  refine s_X6_leads_0 (w_work hk) hk.1.1.1 (fun h1 q _ _ => ?_)
  obtain ⟨so, hk1, mw⟩ := q
  have hm := hk1.1.1
  have y0 := hm.2.1
  obtain ⟨r11, k11, l11⟩ := hm.r 11 8 2 50 (by decide)
  obtain ⟨r12, k12, l12⟩ := hm.r 12 9 4 2500 (by decide)
  obtain ⟨g1, -⟩ := id hk1.1.2.1
  obtain ⟨_, w2, w3, w4, ⟨w5, w6, w7⟩, hB⟩ := id mw
  have hnb : nbs (eqb sz E (bst sz E 1)) (sz 0) ≤ sz 0 := nbs_le _
  have bad : (inB a (nbs (eqb sz E (bst sz E 1)) (sz 0)) && inB b (nbs (eqb sz E (bst sz E 1)) (sz 0))) = false → (fun v h' => RI (RM2 h y sz E n U (aLeads sz E a b)) v h' ∧ hN h' = hN h + 0 ∧ hS h' = hS h + 0) (some (.int (-1))) h1 := fun z => rm_fin (by unfold aLeads; rw [z]; rfl) so hk1
  refine s_X6_leads_4 (fun z => ?_) hm.1 (fun z1 z2 => ?_) (fun z1 z2 z3 => ?_) (fun z1 z2 z3 z4 z5 => ?_) (fun z1 z2 z3 z4 z5 => ?_) (fun z1 z2 z3 z4 => ?_)
  · exact bad (by rw [neg_in z]; rfl)
  · rw [w6, ge_in (by omega) z1] at z2
    exact bad (by rw [z2]; rfl)
  · exact bad (by rw [neg_in z3, Bool.and_false])
  · rw [w6, ge_in (by omega) z1] at z2
    rw [w6, lt_in (by omega) z3] at z4
    have z2 : inB a (nbs (eqb sz E (bst sz E 1)) (sz 0)) = true := by simpa using z2
    obtain ⟨q, hq, ea⟩ := in_ex (by omega) z2
    obtain ⟨t, ht, eb⟩ := in_ex (by omega) z4
    have qt : q ≠ t := fun e => z5 (by rw [ea, eb, e])
    have ans : aLeads sz E a b = b2i (dc (leadsP sz E (bst sz E 1) q t)) := by
      unfold aLeads
      rw [z2, z4, ea, eb, ct_nI (by omega), ct_nI (by omega)]; rfl
    -- what has been seen so far
    have bl : ∀ l, l < sz 0 → ∀ k, k < 2 ^ 31 → (hI h1 (y + 8) l = nI k ↔ inn sz E 0 l ∧ bn (eqb sz E (bst sz E 1)) l = k) := by
      intro l hl k hk'
      rw [w7 l hl]
      have := bn_le (Q := eqb sz E (bst sz E 1)) l
      by_cases w : inn sz E 0 l
      · rw [dc_iff.2 w, if_pos rfl, nI_eq (by omega) hk']
        exact ⟨fun z => ⟨w, z⟩, fun z => z.2⟩
      · rw [dc_no.2 w, if_neg (by decide)]
        refine ⟨fun z => ?_, fun z => (w z.1).elim⟩
        have := nI_pos hk'
        rw [← z] at this; exact (this (by decide)).elim
    have step : ∀ x z, x < sz 0 → z < sz 0 → (hI h1 (y + 8) x = a ∧ hI h1 (y + 8) z = b ∧ Cl (stp E (bst sz E 1)) x z) → leadsP sz E (bst sz E 1) q t := by
      rintro x z hx hz ⟨e1', e2', e3'⟩
      rw [ea, bl x hx q (by omega)] at e1'
      rw [eb, bl z hz t (by omega)] at e2'
      exact ⟨qt, x, z, e1'.1, e2'.1, e1'.2, e2'.2, e3'⟩
    have outer : ∀ d x (c : Bool), x + d = sz 0 → (c = true ↔ ∃ u v, u < x ∧ v < sz 0 ∧ hI h1 (y + 8) u = a ∧ hI h1 (y + 8) v = b ∧ Cl (stp E (bst sz E 1)) u v) → RR G (hN h + 0) (hS h + 0) m_X6_leads 42 [some (.ref y), some (.int a), some (.int b), some (.int (b2i c)), some (.int (nI x)), none] [] h1 (fun v h' => RI (RM2 h y sz E n U (aLeads sz E a b)) v h' ∧ hN h' = hN h + 0 ∧ hS h' = hS h + 0) := by
      intro d
      induction d with
      | zero =>
        intro x c e hc
        have e : x = sz 0 := by omega
        subst e
        have lp : c = true ↔ leadsP sz E (bst sz E 1) q t := by
          rw [hc]
          constructor
          · rintro ⟨u, v, u1, u2, u3⟩; exact step u v u1 u2 u3
          · rintro ⟨_, u, v, u1, u2, u3, u4, u5⟩
            exact ⟨u, v, u1.1, u2.1, by rw [ea]; exact (bl u u1.1 q (by omega)).2 ⟨u1, u3⟩, by rw [eb]; exact (bl v u2.1 t (by omega)).2 ⟨u2, u4⟩, u5⟩
        have no : ¬ hI h1 y 0 ≤ nI (sz 0) → False := fun w => w (by rw [g1]; exact nI_le (Nat.le_refl _) (by omega))
        refine s_X6_leads_42 hm.1 (fun _ w => ?_) (fun _ w => ?_) (fun w => (no w).elim)
        · rw [b2i_0] at w
          exact rm_fin (by rw [ans, dc_no.2 (fun u => by rw [lp.2 u] at w; cases w)]; rfl) so hk1
        · rw [b2i_n] at w
          exact rm_fin (by rw [ans, dc_iff.2 (lp.1 w)]; rfl) so hk1
      | succ d ih =>
        intro x c e hc
        have hx : x < sz 0 := by omega
        have cx : Int32.toNatClampNeg (nI x) = x := nI_clamp (by omega)
        refine s_X6_leads_42 hm.1 (fun w => absurd w (by rw [g1]; exact nI_ge hx (by omega))) (fun w => absurd w (by rw [g1]; exact nI_ge hx (by omega))) (fun _ => ?_)
        rw [← nI_0]
        have inner : ∀ d z (c : Bool), z + d = sz 0 → (c = true ↔ ∃ u v, (u < x ∨ (u = x ∧ v < z)) ∧ v < sz 0 ∧ hI h1 (y + 8) u = a ∧ hI h1 (y + 8) v = b ∧ Cl (stp E (bst sz E 1)) u v) → RR G (hN h + 0) (hS h + 0) m_X6_leads 54 [some (.ref y), some (.int a), some (.int b), some (.int (b2i c)), some (.int (nI x)), some (.int (nI z))] [] h1 (fun v h' => RI (RM2 h y sz E n U (aLeads sz E a b)) v h' ∧ hN h' = hN h + 0 ∧ hS h' = hS h + 0) := by
          intro d
          induction d with
          | zero =>
            intro z c e2 hc2
            have e2 : z = sz 0 := by omega
            subst e2
            have no : ¬ hI h1 y 0 ≤ nI (sz 0) → False := fun w => w (by rw [g1]; exact nI_le (Nat.le_refl _) (by omega))
            refine s_X6_leads_54 hm.1 (fun _ => ?_) (fun w => (no w).elim) (by rw [r11]; omega) (by rw [r11]; exact k11) (fun w => (no w).elim) (fun w => (no w).elim) (fun w => (no w).elim) (fun w => (no w).elim) (by rw [r12]; omega) (by rw [r12]; exact k12) (fun w => (no w).elim) (fun w => (no w).elim) (fun w => (no w).elim)
            rw [nI_1]
            refine ih (x + 1) c (by omega) ?_
            rw [hc2]
            constructor
            · rintro ⟨u, v, u1, u2⟩; exact ⟨u, v, by omega, u2⟩
            · rintro ⟨u, v, u1, u2⟩; exact ⟨u, v, by omega, u2⟩
          | succ d ih2 =>
            intro z c e2 hc2
            have hz : z < sz 0 := by omega
            have cz : Int32.toNatClampNeg (nI z) = z := nI_clamp (by omega)
            have ix : (50 : Int32) * nI x + nI z = nI (50 * x + z) := idx50 (by omega) (by omega)
            have cix : Int32.toNatClampNeg (nI (50 * x + z)) = 50 * x + z := nI_clamp (by omega)
            have vC := w5 x z hx hz
            have skip : c = false → ¬ (hI h1 (y + 8) x = a ∧ hI h1 (y + 8) z = b ∧ Cl (stp E (bst sz E 1)) x z) → RR G (hN h + 0) (hS h + 0) m_X6_leads 54 [some (.ref y), some (.int a), some (.int b), some (.int 0), some (.int (nI x)), some (.int (nI z + 1))] [] h1 (fun v h' => RI (RM2 h y sz E n U (aLeads sz E a b)) v h' ∧ hN h' = hN h + 0 ∧ hS h' = hS h + 0) := by
              intro w hn
              rw [nI_1]
              refine ih2 (z + 1) false (by omega) ?_
              rw [← w, hc2]
              constructor
              · rintro ⟨u, v, u1, u2⟩; exact ⟨u, v, by omega, u2⟩
              · rintro ⟨u, v, u1, u2, u3⟩
                by_cases quv : u = x ∧ v = z
                · rw [quv.1, quv.2] at u3; exact (hn u3).elim
                · exact ⟨u, v, by omega, u2, u3⟩
            refine s_X6_leads_54 hm.1 (fun w => absurd w (by rw [g1]; exact nI_ge hz (by omega))) (fun _ w => ?_) (by rw [r11]; omega) (by rw [r11]; exact k11) (fun _ _ => by rw [r11, l11]; exact vp_in_nI (by omega) (by decide)) (fun _ w1 w2 => ?_) (fun _ _ _ => by rw [r11, l11]; exact vp_in_nI (by omega) (by decide)) (fun _ w1 w2 w3 => ?_) (by rw [r12]; omega) (by rw [r12]; exact k12) (fun _ _ _ _ => by rw [r12, l12, ix]; exact vp_in_nI (by omega) (by decide)) (fun _ w1 w2 w3 w4 => ?_) (fun _ w1 w2 w3 w4 => ?_)
            · rw [b2i_n, hc2] at w
              obtain ⟨u, v, u1, u2⟩ := w
              rw [nI_1]
              exact ih2 (z + 1) true (by omega) ⟨fun _ => ⟨u, v, by omega, u2⟩, fun _ => rfl⟩
            · rw [r11, cx] at w2
              exact skip (b2i_0.1 w1) (fun u => w2 u.1)
            · rw [r11, cz] at w3
              exact skip (b2i_0.1 w1) (fun u => w3 u.2.1)
            · rw [r12, ix, cix, vC, b2i_0, dc_no] at w4
              exact skip (b2i_0.1 w1) (fun u => w4 u.2.2)
            · rw [r11, cx] at w2
              rw [r11, cz] at w3
              rw [r12, ix, cix, vC, b2i_n, dc_iff] at w4
              rw [nI_1]
              exact ih2 (z + 1) true (by omega) ⟨fun _ => ⟨x, z, Or.inr ⟨rfl, by omega⟩, hz, w2, w3, w4⟩, fun _ => rfl⟩
        refine inner (sz 0) 0 c (by omega) ?_
        rw [hc]
        constructor
        · rintro ⟨u, v, u1, u2⟩; exact ⟨u, v, Or.inl u1, u2⟩
        · rintro ⟨u, v, u1, u2⟩; exact ⟨u, v, by omega, u2⟩
    exact outer (sz 0) 0 false (by omega) ⟨fun w => (by cases w), fun ⟨u, v, w, _⟩ => absurd w (by omega)⟩
  · rw [w6, ge_in (by omega) z1] at z2
    rw [w6, lt_in (by omega) z3] at z4
    have z2 : inB a (nbs (eqb sz E (bst sz E 1)) (sz 0)) = true := by simpa using z2
    refine rm_fin ?_ so hk1
    unfold aLeads
    rw [z2, z4, z5, dc_no.2 (fun w => w.1 rfl)]; rfl
  · rw [w6, lt_in (by omega) z3] at z4
    exact bad (by rw [Bool.eq_false_iff.2 z4, Bool.and_false])
