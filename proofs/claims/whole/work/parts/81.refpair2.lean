variable {G : GG} {h h' : PH} {y n : Nat} {sz : Nat → Nat} {E U : Nat → Nat → Bool}
theorem pw17 : ∀ l, l < 16 → 17 ^ l < 2 ^ 63 := by decide
theorem rp_inner {nc ns : Nat} {Z : Option Value → PH → Prop} {l k : Nat} (hm : ML h y) (hg : MG h y sz E) (h0 : sz 0 ≤ 16) (h1 : sz 1 ≤ 16) (hl : l < sz 0) (hk : k < 2 ^ sz 1)
    (K : ∀ h2, EO y [10] [] h h2 → AR h2 y (sz 1) (wv E (sz 1) l k (sz 1)) → RR G nc ns m_X6_pairings 87 [some (.ref y), some (.int (nI (2 ^ sz 1))), some (.int (nI l)), some (.int (nI k + (-1))), none] [] h2 Z) : ∀ d r h2, r + d = sz 1 → EO y [10] [] h h2 → AR h2 y (sz 1) (wv E (sz 1) l k r) →
    RR G nc ns m_X6_pairings 94 [some (.ref y), some (.int (nI (2 ^ sz 1))), some (.int (nI l)), some (.int (nI k)), some (.int (nI r))] [] h2 Z := by
  obtain ⟨g1, g2, g3, g4, g5, g6⟩ := hg
  obtain ⟨r2, k2, l2⟩ := hm.r 2 1 4 2500 (by decide)
  obtain ⟨r16, k16, l16⟩ := hm.r 16 10 3 65536 (by decide)
  have y0 := hm.2.1
  have hp := pow_lt31 h1
  intro d
  induction d with
  | zero =>
    intro r h2 e eo ar
    have e : r = sz 1 := by omega
    subst e
    obtain ⟨o1, o2, o3, -⟩ := id eo
    have e1 : hI h2 y 1 = nI (sz 1) := (eo.f 1 (by decide)).trans g2
    have no : ¬ hI h2 y 1 ≤ nI (sz 1) → False := fun z => z (by rw [e1]; exact nI_le (Nat.le_refl _) (by omega))
    exact s_X6_pairings_94 (by rw [o1]; exact hm.1) (fun _ => K h2 eo ar) (by rw [o3, r16]; omega) (by rw [o1, o3, r16]; exact k16) (fun z => (no z).elim) (fun z => (no z).elim) (by rw [o3, r2]; omega) (by rw [o1, o3, r2]; exact k2) (fun z => (no z).elim) (fun z => (no z).elim) (fun z => (no z).elim) (fun z => (no z).elim) (fun z => (no z).elim)
  | succ d ih =>
    intro r h2 e eo ar
    have hr : r < sz 1 := by omega
    obtain ⟨o1, o2, o3, -⟩ := id eo
    have e1 : hI h2 y 1 = nI (sz 1) := (eo.f 1 (by decide)).trans g2
    have e16 : hR h2 y 16 = y + 10 := by rw [o3]; exact r16
    have e2 : hR h2 y 2 = y + 1 := by rw [o3]; exact r2
    have ck : Int32.toNatClampNeg (nI k) = k := nI_clamp (by omega)
    have hv : hJ h2 (y + 10) k = c64 (wy E (sz 1) l k) := by rw [ar k hk, wv_start (by omega) (by omega)]
    have hb : wy E (sz 1) l k < 2 ^ 63 := Nat.lt_of_le_of_lt (wy_le h1 l k) (pw17 l (by omega))
    have ix : (50 : Int32) * nI l + nI r = nI (50 * l + r) := idx50 (by omega) (by omega)
    have cx : Int32.toNatClampNeg (nI (50 * l + r)) = 50 * l + r := nI_clamp (by omega)
    have hx : hI h2 (y + 1) (50 * l + r) = b2i (E l r) := (eo.i 1 (by decide) _).trans (g5 l r (by omega) (by omega))
    have eor : nI k ||| (1 <<< (nI r &&& 31)) = nI (k ||| 2 ^ r) := by
      have := pow_lt31 (c := r) (by omega)
      rw [shl_1 r (by omega)]; exact nI_or (by omega) (by omega)
    have hor : k ||| 2 ^ r < 2 ^ sz 1 := or_lt hk hr
    have cor : Int32.toNatClampNeg (nI (k ||| 2 ^ r)) = k ||| 2 ^ r := nI_clamp (by omega)
    have skip : ¬ (E l r = true ∧ k.testBit r = false) → RR G nc ns m_X6_pairings 94 [some (.ref y), some (.int (nI (2 ^ sz 1))), some (.int (nI l)), some (.int (nI k)), some (.int (nI r + 1))] [] h2 Z := by
      intro q
      rw [nI_1]
      refine ih (r + 1) h2 (by omega) eo (ar.congr (fun z _ => ?_))
      rw [wv_step hr, if_neg (fun w => q ⟨w.1, w.2.1⟩), Nat.add_zero]
    refine s_X6_pairings_94 (by rw [o1]; exact hm.1) (fun z => absurd z (by rw [e1]; exact nI_ge hr (by omega))) (by rw [e16]; omega) (by rw [o1, e16]; exact k16) (fun _ => by rw [o2, e16, l16]; exact vp_in_nI (by omega) (by decide)) (fun _ z => ?_) (by rw [e2]; omega) (by rw [o1, e2]; exact k2) (fun _ _ => by rw [o2, e2, l2, ix]; exact vp_in_nI (by omega) (by decide)) (fun _ _ z => ?_) (fun _ _ _ z => ?_) (fun _ _ _ _ => by rw [o2, e16, l16, eor]; exact vp_in_nI (by omega) (by decide)) (fun _ z1 z2 z3 => ?_)
    · rw [e16, ck, hv, lg_le hb] at z
      exact K h2 eo (ar.congr (fun x _ => wv_skip (by omega) z))
    · rw [e2, ix, cx, hx, b2i_0] at z
      exact skip (fun w => by rw [z] at w; cases w.1)
    · rw [bit_sh (by omega) (by omega)] at z
      exact skip (fun w => z w.2)
    · rw [e2, ix, cx, hx, b2i_n] at z2
      rw [bit_sh (by omega) (by omega)] at z3
      rw [e16, eor, cor, ck, nI_1]
      refine ih (r + 1) _ (by omega) (eo.trans (EO.cJ (by decide) (by decide) (by decide))) (fun z hz => ?_)
      rw [wv_step hr, hJ_sJ]
      by_cases q : z = k ||| 2 ^ r
      · rw [if_pos ⟨rfl, q⟩, if_pos ⟨z2, z3, q⟩, hv, ar _ hor, c64_add, q]
      · rw [if_neg (fun w => q w.2), if_neg (fun w => q w.2.2), ar z hz, Nat.add_zero]
theorem rp_mid {nc ns : Nat} {Z : Option Value → PH → Prop} {l : Nat} (hm : ML h y) (hg : MG h y sz E) (h0 : sz 0 ≤ 16) (h1 : sz 1 ≤ 16) (hl : l < sz 0)
    (K : ∀ h2, EO y [10] [] h h2 → AR h2 y (sz 1) (wy E (sz 1) (l + 1)) → RR G nc ns m_X6_pairings 75 [some (.ref y), some (.int (nI (2 ^ sz 1))), some (.int (nI l + 1)), none, none] [] h2 Z) : ∀ k h2, k < 2 ^ sz 1 → EO y [10] [] h h2 → AR h2 y (sz 1) (wv E (sz 1) l k 0) →
    RR G nc ns m_X6_pairings 87 [some (.ref y), some (.int (nI (2 ^ sz 1))), some (.int (nI l)), some (.int (nI k)), none] [] h2 Z := by
  have hp := pow_lt31 h1
  intro k
  induction k with
  | zero =>
    intro h2 hk eo ar
    refine s_X6_pairings_87 (fun z => absurd z (nI_pos (by omega))) (fun _ => ?_)
    rw [← nI_0]
    refine rp_inner (h := h) hm hg h0 h1 hl hk (fun h3 eo3 ar3 => ?_) (sz 1) 0 h2 (by omega) eo ar
    refine s_X6_pairings_87 (fun _ => K h3 eo3 (ar3.congr (fun z _ => wv_end))) (fun z => (z (by decide)).elim)
  | succ k ih =>
    intro h2 hk eo ar
    refine s_X6_pairings_87 (fun z => absurd z (nI_pos (by omega))) (fun _ => ?_)
    rw [← nI_0]
    refine rp_inner (h := h) hm hg h0 h1 hl hk (fun h3 eo3 ar3 => ?_) (sz 1) 0 h2 (by omega) eo ar
    rw [nI_m1]
    exact ih h3 (by omega) eo3 (ar3.congr (fun z _ => wv_next))
theorem r_pairings (hk : MOK h y sz E n U) : Ev G m_X6_pairings [.ref y] h 0 0 (RJ (fun v h' => v = aPairings sz E ∧ SO y (y + 27) h h' ∧ MOK h' y sz E n U)) := by
  obtain ⟨⟨hm, hg, h01, hfr⟩, hu⟩ := id hk
  obtain ⟨g1, g2, g3, g4, g5, g6⟩ := id hg
  refine Ev.of pn_X6_pairings (Nat.le_of_ble_eq_true rfl) ?_
  have big : (16 < sz 0 ∨ 16 < sz 1) → (fun v h' => RJ (fun v h' => v = aPairings sz E ∧ SO y (y + 27) h h' ∧ MOK h' y sz E n U) v h' ∧ hN h' = hN h + 0 ∧ hS h' = hS h + 0) (some (.long (-3))) h := fun q => ⟨⟨_, rfl, (if_pos q).symm, SO.rf, hk⟩, rfl, rfl⟩
  have e16 : (16 : Int32) = nI 16 := by decide
  refine s_X6_pairings_0 hm.1 (fun z => ?_) (fun _ _ => m_work hk.1) (fun z1 z2 h1 q _ _ => ?_) (fun _ z => ?_)
  · rw [g1, e16] at z
    exact big (Or.inl ((nI_ltI (by omega) (by omega)).1 z))
  · rw [g1, e16] at z1
    rw [g2, e16] at z2
    have s0 : sz 0 ≤ 16 := by
      rcases Nat.lt_or_ge 16 (sz 0) with q | q
      · exact absurd ((nI_ltI (by omega) (by omega)).2 q) z1
      · exact q
    have s1 : sz 1 ≤ 16 := (nI_leI (by omega) (by omega)).1 z2
    have ans : aPairings sz E = c64 (ncd sz E) := if_neg (by omega)
    obtain ⟨eo1, hg1, mw, ne3⟩ := q
    have hu1 : MUS h1 y n U := hu.eo eo1 (by decide)
    obtain ⟨hm1, hG1, hz1, hfr1⟩ := id hg1
    obtain ⟨j1, j2, j3, j4, j5, j6⟩ := id hG1
    obtain ⟨r16, k16, l16⟩ := hm1.r 16 10 3 65536 (by decide)
    have y0 := hm1.2.1
    have hp := pow_lt31 s1
    have hp0 : 0 < 2 ^ sz 1 := Nat.two_pow_pos _
    have nd : ncd sz E = sm (2 ^ sz 1) (fun k => if pc k = siz (sz 0) (bst sz E 0) then wy E (sz 1) (sz 0) k else 0) := (ncd_eq (ref_card g6 s1 mw.2.2.2.2.2.1)).symm
    refine s_X6_pairings_26 hm1.1 (fun z => ?_) (fun z => ⟨⟨_, rfl, ((hfr1 ne3).2 z).trans ans.symm, eo1.so, hg1, hu1⟩, eo1.2.2.2.1, eo1.2.2.2.2.1⟩)
    rw [j2, shl_1 (sz 1) (by omega), ← nI_0]
    -- the sum
    have last : ∀ d k h2, k + d = 2 ^ sz 1 → EO y [10] [15] h1 h2 → AR h2 y (sz 1) (wy E (sz 1) (sz 0)) → hJ h2 y 15 = c64 (sm k (fun k => if pc k = siz (sz 0) (bst sz E 0) then wy E (sz 1) (sz 0) k else 0)) → RR G (hN h + 0) (hS h + 0) m_X6_pairings 192 [some (.ref y), some (.int (nI (2 ^ sz 1))), some (.int (nI k)), none, none] [] h2 (fun v h' => RJ (fun v h' => v = aPairings sz E ∧ SO y (y + 27) h h' ∧ MOK h' y sz E n U) v h' ∧ hN h' = hN h + 0 ∧ hS h' = hS h + 0) := by
      intro d
      induction d with
      | zero =>
        intro k h2 e eo ar hs
        have e : k = 2 ^ sz 1 := by omega
        subst e
        obtain ⟨o1, o2, o3, -⟩ := id eo
        have no : ¬ nI (2 ^ sz 1) ≤ nI (2 ^ sz 1) → False := fun z => z (nI_le (Nat.le_refl _) (by omega))
        refine s_X6_pairings_192 (x1 := 0) (by rw [o1]; exact hm1.1) (fun _ => ?_) (fun z => (no z).elim) (fun z => (no z).elim) (by rw [o3, r16]; omega) (by rw [o1, o3, r16]; exact k16) (fun z => (no z).elim) (fun z => (no z).elim)
        have eo2 : EO y [10] [14, 15] h1 (sI h2 y 14 1) := (eo.wide (by decide) (by decide)).trans (EO.s0 (by decide))
        have so : SO y (y + 27) h (sI h2 y 14 1) := eo1.so.trans eo2.so
        refine ⟨⟨_, rfl, by rw [hs, ← nd]; exact ans.symm, so, ⟨hm1.eo eo2, hG1.eo eo2 (by decide) (by decide) (by decide), by rw [eo2.f 3 (by decide)]; exact hz1, fun _ => ⟨mw.eo eo2 (by decide), fun _ => by rw [hJ_sI, hs, ← nd]⟩⟩, hu1.eo eo2 (by decide)⟩, so.2.2.2.1, so.2.2.2.2.1⟩
      | succ d ih =>
        intro k h2 e eo ar hs
        have hkk : k < 2 ^ sz 1 := by omega
        obtain ⟨o1, o2, o3, -⟩ := id eo
        have e16' : hR h2 y 16 = y + 10 := by rw [o3]; exact r16
        have e4 : hI h2 y 4 = nI (siz (sz 0) (bst sz E 0)) := (eo.f 4 (by decide)).trans mw.1
        have ck : Int32.toNatClampNeg (nI k) = k := nI_clamp (by omega)
        have hpk : pc k ≤ 16 := cnt_le _ _
        have hsz : siz (sz 0) (bst sz E 0) ≤ sz 0 := siz_le_n
        have eqq : nI (pc k) = hI h2 y 4 ↔ pc k = siz (sz 0) (bst sz E 0) := by rw [e4]; exact nI_eq (by omega) (by omega)
        have hsm : sm (k + 1) (fun k => if pc k = siz (sz 0) (bst sz E 0) then wy E (sz 1) (sz 0) k else 0) = sm k (fun k => if pc k = siz (sz 0) (bst sz E 0) then wy E (sz 1) (sz 0) k else 0) + (if pc k = siz (sz 0) (bst sz E 0) then wy E (sz 1) (sz 0) k else 0) := rfl
        refine s_X6_pairings_192 (x1 := nI (pc k)) (by rw [o1]; exact hm1.1) (fun z => absurd z (nI_ge hkk (by omega))) (fun _ => m_bits (by omega)) (fun _ z => ?_) (by rw [e16']; omega) (by rw [o1, e16']; exact k16) (fun _ _ => by rw [o2, e16', l16]; exact vp_in_nI (by omega) (by decide)) (fun _ z => ?_)
        · rw [nI_1]
          refine ih (k + 1) _ (by omega) (eo.trans (EO.s0J (by decide))) (fun x hx => ?_) ?_
          · rw [sJ_ne (by omega)]; exact ar x hx
          · rw [sJ_eq, hsm, if_neg (fun w => z (eqq.2 w)), Nat.add_zero]; exact hs
        · rw [nI_1, e16', ck]
          refine ih (k + 1) _ (by omega) (eo.trans (EO.s0J (by decide))) (fun x hx => ?_) ?_
          · rw [sJ_ne (by omega)]; exact ar x hx
          · rw [sJ_eq, hsm, if_pos (eqq.1 z), c64_add, hs, ar k hkk]
    -- the lefts
    have outer : ∀ d l h2, l + d = sz 0 → EO y [10] [] h1 h2 → AR h2 y (sz 1) (wy E (sz 1) l) → RR G (hN h + 0) (hS h + 0) m_X6_pairings 75 [some (.ref y), some (.int (nI (2 ^ sz 1))), some (.int (nI l)), none, none] [] h2 (fun v h' => RJ (fun v h' => v = aPairings sz E ∧ SO y (y + 27) h h' ∧ MOK h' y sz E n U) v h' ∧ hN h' = hN h + 0 ∧ hS h' = hS h + 0) := by
      intro d
      induction d with
      | zero =>
        intro l h2 e eo ar
        have e : l = sz 0 := by omega
        subst e
        obtain ⟨o1, o2, o3, -⟩ := id eo
        have e0 : hI h2 y 0 = nI (sz 0) := (eo.f 0 (by decide)).trans j1
        refine s_X6_pairings_75 (by rw [o1]; exact hm1.1) (fun _ => ?_) (fun z => (z (by rw [e0]; exact nI_le (Nat.le_refl _) (by omega))).elim)
        rw [← nI_0]
        refine last (2 ^ sz 1) 0 _ (by omega) ((eo.wide (by decide) (by decide)).trans (EO.s0J (by decide))) (fun x hx => ?_) ?_
        · rw [sJ_ne (by omega)]; exact ar x hx
        · rw [sJ_eq]; rfl
      | succ d ih =>
        intro l h2 e eo ar
        have hl : l < sz 0 := by omega
        obtain ⟨o1, o2, o3, -⟩ := id eo
        have e0 : hI h2 y 0 = nI (sz 0) := (eo.f 0 (by decide)).trans j1
        refine s_X6_pairings_75 (by rw [o1]; exact hm1.1) (fun z => absurd z (by rw [e0]; exact nI_ge hl (by omega))) (fun _ => ?_)
        obtain ⟨K, hK'⟩ : ∃ K, 2 ^ sz 1 = K + 1 := ⟨2 ^ sz 1 - 1, by omega⟩
        have e1 : nI (2 ^ sz 1) - 1 = nI K := by rw [hK', nI_succ]; grind
        rw [e1]
        refine rp_mid (h := h1) hm1 hG1 s0 s1 hl (fun h3 eo3 ar3 => ?_) K h2 (by omega) eo (ar.congr (fun z hz => (wv_start (by omega) (fun _ => rfl)).symm))
        rw [nI_1]
        exact ih (l + 1) h3 (by omega) eo3 ar3
    have zero : ∀ d k h2, k + d = 2 ^ sz 1 → EO y [10] [] h1 h2 → (∀ z, z < k → hJ h2 (y + 10) z = c64 (wy E (sz 1) 0 z)) → RR G (hN h + 0) (hS h + 0) m_X6_pairings 47 [some (.ref y), some (.int (nI (2 ^ sz 1))), some (.int (nI k)), none, none] [] h2 (fun v h' => RJ (fun v h' => v = aPairings sz E ∧ SO y (y + 27) h h' ∧ MOK h' y sz E n U) v h' ∧ hN h' = hN h + 0 ∧ hS h' = hS h + 0) := by
      intro d
      induction d with
      | zero =>
        intro k h2 e eo ar
        have e : k = 2 ^ sz 1 := by omega
        subst e
        obtain ⟨o1, o2, o3, -⟩ := id eo
        have no : ¬ nI (2 ^ sz 1) ≤ nI (2 ^ sz 1) → False := fun z => z (nI_le (Nat.le_refl _) (by omega))
        refine s_X6_pairings_47 (fun _ => ?_) (by rw [o1]; exact hm1.1) (by rw [o3, r16]; omega) (by rw [o1, o3, r16]; exact k16) (fun z => (no z).elim) (fun z => (no z).elim) (fun z => (no z).elim) (fun z => (no z).elim)
        rw [← nI_0]
        exact outer (sz 0) 0 h2 (by omega) eo ar
      | succ d ih =>
        intro k h2 e eo ar
        have hkk : k < 2 ^ sz 1 := by omega
        obtain ⟨o1, o2, o3, -⟩ := id eo
        have e16' : hR h2 y 16 = y + 10 := by rw [o3]; exact r16
        have ck : Int32.toNatClampNeg (nI k) = k := nI_clamp (by omega)
        have vk : vp_in (nI k) (hL h2 (hR h2 y 16)) := by rw [o2, e16', l16]; exact vp_in_nI (by omega) (by decide)
        have nx : ∀ v : Int64, v = c64 (wy E (sz 1) 0 k) → RR G (hN h + 0) (hS h + 0) m_X6_pairings 47 [some (.ref y), some (.int (nI (2 ^ sz 1))), some (.int (nI k + 1)), none, none] [] (sJ h2 (hR h2 y 16) (Int32.toNatClampNeg (nI k)) v) (fun v h' => RJ (fun v h' => v = aPairings sz E ∧ SO y (y + 27) h h' ∧ MOK h' y sz E n U) v h' ∧ hN h' = hN h + 0 ∧ hS h' = hS h + 0) := by
          intro v ev
          rw [e16', ck, nI_1]
          refine ih (k + 1) _ (by omega) (eo.trans (EO.cJ (by decide) (by decide) (by decide))) (fun z hz => ?_)
          by_cases q : z = k
          · rw [q, sJ_eq]; exact ev
          · rw [sJ_nk q]; exact ar z (by omega)
        refine s_X6_pairings_47 (fun z => absurd z (nI_ge hkk (by omega))) (by rw [o1]; exact hm1.1) (by rw [e16']; omega) (by rw [o1, e16']; exact k16) (fun _ _ => vk) (fun _ z => nx 0 ?_) (fun _ _ => vk) (fun _ z => nx 1 ?_)
        · have q : k ≠ 0 := fun w => z (by rw [w]; rfl)
          show (0 : Int64) = c64 (if k = 0 then 1 else 0)
          rw [if_neg q]; rfl
        · have q : k = 0 := (nI_eq (by omega) (by omega)).1 (z.trans nI_0.symm)
          show (1 : Int64) = c64 (if k = 0 then 1 else 0)
          rw [if_pos q]; rfl
    exact zero (2 ^ sz 1) 0 h1 (by omega) EO.rf (fun z hz => absurd hz (by omega))
  · rw [g2, e16] at z
    refine big (Or.inr ?_)
    rcases Nat.lt_or_ge 16 (sz 1) with q | q
    · exact q
    · exact (z ((nI_leI (by omega) (by omega)).2 q)).elim
