variable {G : GG} {h h' : PH} {y n : Nat} {sz : Nat → Nat} {E U : Nat → Nat → Bool}
theorem r_has (hk : MOK h y sz E n U) (a b : Int32) : Ev G m_X6_has [.ref y, .int a, .int b] h 0 0 (RI (RM2 h y sz E n U (aHas sz E a b))) := by
  refine (m_has hk.1.2.1 hk.1.1 a b).mono ?_
  rintro v h1 ⟨e1, e2⟩
  subst e2
  exact ⟨_, e1, rfl, SO.rf, hk⟩
theorem MOK.lt (hk : MOK h y sz E n U) : (∀ s, s < 2 → sz s ≤ 50) ∧ Rg (sz 0) (sz 1) E ∧ n ≤ 40 ∧ Rg n n U ∧ SPO U := by
  obtain ⟨⟨hm, ⟨g1, g2, g3, g4, g5, g6⟩, _⟩, ⟨_, ⟨u1, u2, u3, u4, u5⟩, _⟩⟩ := hk
  refine ⟨fun s hs => ?_, g6, u2, u4, u5⟩
  rcases (by omega : s = 0 ∨ s = 1) with z | z <;> subst z <;> assumption
theorem side01 {s : Nat} (hs : s < 2) : (¬ nI s = 0 → s = 1) ∧ (nI s = 0 → s = 0) := by
  rcases (by omega : s = 0 ∨ s = 1) with z | z <;> subst z <;> decide
theorem r_partner (hk : MOK h y sz E n U) (sd nd : Int32) : Ev G m_X6_partner [.ref y, .int sd, .int nd] h 0 0 (RI (RM2 h y sz E n U (aPartner sz E sd nd))) := by
  obtain ⟨hs, hE, -⟩ := hk.lt
  refine Ev.of pn_X6_partner (Nat.le_of_ble_eq_true rfl) ?_
  refine s_X6_partner_0 (x1 := b2i (holdB sz sd nd)) (m_isNode hk.1.2.1 hk.1.1 sd nd) hk.1.1.1 (fun _ => w_work hk) (fun z h1 q _ _ => ?_) (fun z => ?_)
  · obtain ⟨so, hk1, mw⟩ := q
    have hm := hk1.1.1
    have y0 := hm.2.1
    obtain ⟨r5, k5, l5⟩ := hm.r 5 2 2 50 (by decide)
    obtain ⟨r6, k6, l6⟩ := hm.r 6 3 2 50 (by decide)
    rw [b2i_n] at z
    obtain ⟨s, i, h2, hi, ea, eb⟩ := hold_ex (fun s hs' => by have := hs s hs'; omega) z
    have hs' := hs s h2
    have ci : Int32.toNatClampNeg nd = i := by rw [eb]; exact nI_clamp (by omega)
    have vi : vp_in nd 50 := by rw [eb]; exact vp_in_nI (by omega) (by decide)
    have ans : aPartner sz E sd nd = enc (bst sz E s i) := by unfold aPartner; rw [z, if_pos rfl, ea, eb, ct_nI (by omega), ct_nI (by omega)]
    obtain ⟨b0, b1⟩ := mw.2.1 i (by omega)
    have hB := mw.2.2.2.2.2
    have lt : ∀ r, bst sz E s i = some r → r < 2 ^ 31 := by
      intro r e
      rcases (by omega : s = 0 ∨ s = 1) with w | w
      · subst w
        have := hE _ _ (hB.1.1.2 _ _ e); have := hs 1 (by decide); omega
      · subst w
        have := hE _ _ (hB.1.1.2 _ _ ((hB.1.1.1 _ _).2 e)); have := hs 0 (by decide); omega
    have fin : ∀ v : Int32, (0 ≤ e1 (bst sz E s i) → v = e1 (bst sz E s i)) → (¬ 0 ≤ e1 (bst sz E s i) → v = -3) → v = aPartner sz E sd nd := by
      intro v a1 a2
      rw [ans]
      cases e : bst sz E s i with
      | none =>
        rw [a2 (by rw [e]; decide)]; rfl
      | some r =>
        rw [a1 (by rw [e1_ge lt, e]; rfl), e]; rfl
    refine s_X6_partner_15 hm.1 (by rw [r6]; omega) (by rw [r6]; exact k6) (fun _ => by rw [r6, l6]; exact vi) (fun w1 w2 => ?_) (fun w1 w2 => ?_) (by rw [r5]; omega) (by rw [r5]; exact k5) (fun _ => by rw [r5, l5]; exact vi) (fun w1 w2 => ?_) (fun w1 w2 => ?_)
    · rw [ea] at w1
      have es := (side01 h2).1 w1
      subst es
      rw [r6, ci, b1] at w2 ⊢
      exact rm_fin (fin _ (fun _ => rfl) (fun w => (w w2).elim)) so hk1
    · rw [ea] at w1
      have es := (side01 h2).1 w1
      subst es
      rw [r6, ci, b1] at w2
      exact rm_fin (fin _ (fun w => (w2 w).elim) (fun _ => rfl)) so hk1
    · rw [ea] at w1
      have es := (side01 h2).2 w1
      subst es
      rw [r5, ci, b0] at w2 ⊢
      exact rm_fin (fin _ (fun _ => rfl) (fun w => (w w2).elim)) so hk1
    · rw [ea] at w1
      have es := (side01 h2).2 w1
      subst es
      rw [r5, ci, b0] at w2
      exact rm_fin (fin _ (fun w => (w2 w).elim) (fun _ => rfl)) so hk1
  · rw [b2i_0] at z
    exact rm_fin (by unfold aPartner; rw [z]; rfl) SO.rf hk
theorem r_part (hk : MOK h y sz E n U) (sd nd : Int32) : Ev G m_X6_part [.ref y, .int sd, .int nd] h 0 0 (RI (RM2 h y sz E n U (aPart sz E sd nd))) := by
  obtain ⟨hs, hE, -⟩ := hk.lt
  refine Ev.of pn_X6_part (Nat.le_of_ble_eq_true rfl) ?_
  refine s_X6_part_0 (x1 := b2i (holdB sz sd nd)) (m_isNode hk.1.2.1 hk.1.1 sd nd) hk.1.1.1 (fun _ => w_work hk) (fun z h1 q _ _ => ?_) (fun z => ?_)
  · obtain ⟨so, hk1, mw⟩ := q
    have hm := hk1.1.1
    have y0 := hm.2.1
    obtain ⟨r9, k9, l9⟩ := hm.r 9 6 2 50 (by decide)
    obtain ⟨r10, k10, l10⟩ := hm.r 10 7 2 50 (by decide)
    rw [b2i_n] at z
    obtain ⟨s, i, h2, hi, ea, eb⟩ := hold_ex (fun s hs' => by have := hs s hs'; omega) z
    have hs' := hs s h2
    have ci : Int32.toNatClampNeg nd = i := by rw [eb]; exact nI_clamp (by omega)
    have vi : vp_in nd 50 := by rw [eb]; exact vp_in_nI (by omega) (by decide)
    have ans : aPart sz E sd nd = nI (prt sz E s i) := by unfold aPart; rw [z, if_pos rfl, ea, eb, ct_nI (by omega), ct_nI (by omega)]
    refine s_X6_part_15 hm.1 (by rw [r10]; omega) (by rw [r10]; exact k10) (fun _ => by rw [r10, l10]; exact vi) (fun w1 => ?_) (by rw [r9]; omega) (by rw [r9]; exact k9) (fun _ => by rw [r9, l9]; exact vi) (fun w1 => ?_)
    · rw [ea] at w1
      have es := (side01 h2).1 w1
      subst es
      rw [r10, ci]
      exact rm_fin (by rw [ans]; exact mw.2.2.2.1.2 i hi) so hk1
    · rw [ea] at w1
      have es := (side01 h2).2 w1
      subst es
      rw [r9, ci]
      exact rm_fin (by rw [ans]; exact mw.2.2.2.1.1 i hi) so hk1
  · rw [b2i_0] at z
    exact rm_fin (by unfold aPart; rw [z]; rfl) SO.rf hk
theorem r_nodeIs (hk : MOK h y sz E n U) (sd nd : Int32) : Ev G m_X6_nodeIs [.ref y, .int sd, .int nd] h 0 0 (RI (RM2 h y sz E n U (aNodeIs sz E sd nd))) := by
  obtain ⟨hs, hE, -⟩ := hk.lt
  refine Ev.of pn_X6_nodeIs (Nat.le_of_ble_eq_true rfl) ?_
  refine s_X6_nodeIs_0 (x1 := b2i (holdB sz sd nd)) (m_isNode hk.1.2.1 hk.1.1 sd nd) hk.1.1.1 (fun _ => w_work hk) (fun z h1 q _ _ => ?_) (fun z => ?_)
  · obtain ⟨so, hk1, mw⟩ := q
    have hm := hk1.1.1
    have y0 := hm.2.1
    obtain ⟨r7, k7, l7⟩ := hm.r 7 4 4 50 (by decide)
    obtain ⟨r8, k8, l8⟩ := hm.r 8 5 4 50 (by decide)
    rw [b2i_n] at z
    obtain ⟨s, i, h2, hi, ea, eb⟩ := hold_ex (fun s hs' => by have := hs s hs'; omega) z
    have hs' := hs s h2
    have ci : Int32.toNatClampNeg nd = i := by rw [eb]; exact nI_clamp (by omega)
    have vi : vp_in nd 50 := by rw [eb]; exact vp_in_nI (by omega) (by decide)
    have ans : aNodeIs sz E sd nd = if dc (mis sz E s i) then 0 else 1 := by unfold aNodeIs; rw [z, if_pos rfl, ea, eb, ct_nI (by omega), ct_nI (by omega)]
    refine s_X6_nodeIs_15 hm.1 (by rw [r8]; omega) (by rw [r8]; exact k8) (fun _ => by rw [r8, l8]; exact vi) (fun w1 w2 => ?_) (fun w1 w2 => ?_) (by rw [r7]; omega) (by rw [r7]; exact k7) (fun _ => by rw [r7, l7]; exact vi) (fun w1 w2 => ?_) (fun w1 w2 => ?_)
    · rw [ea] at w1
      have es := (side01 h2).1 w1
      subst es
      rw [r8, ci, mw.2.2.1.2 i hi, b2i_0] at w2
      exact rm_fin (by rw [ans, w2]; rfl) so hk1
    · rw [ea] at w1
      have es := (side01 h2).1 w1
      subst es
      rw [r8, ci, mw.2.2.1.2 i hi, b2i_n] at w2
      exact rm_fin (by rw [ans, w2]; rfl) so hk1
    · rw [ea] at w1
      have es := (side01 h2).2 w1
      subst es
      rw [r7, ci, mw.2.2.1.1 i hi, b2i_0] at w2
      exact rm_fin (by rw [ans, w2]; rfl) so hk1
    · rw [ea] at w1
      have es := (side01 h2).2 w1
      subst es
      rw [r7, ci, mw.2.2.1.1 i hi, b2i_n] at w2
      exact rm_fin (by rw [ans, w2]; rfl) so hk1
  · rw [b2i_0] at z
    exact rm_fin (by unfold aNodeIs; rw [z]; rfl) SO.rf hk
theorem r_block (hk : MOK h y sz E n U) (sd nd : Int32) : Ev G m_X6_block [.ref y, .int sd, .int nd] h 0 0 (RI (RM2 h y sz E n U (aBlock sz E sd nd))) := by
  obtain ⟨hs, hE, -⟩ := hk.lt
  have h50 := hs 0 (by decide)
  refine Ev.of pn_X6_block (Nat.le_of_ble_eq_true rfl) ?_
  refine s_X6_block_0 (x1 := b2i (holdB sz sd nd)) (m_isNode hk.1.2.1 hk.1.1 sd nd) hk.1.1.1 (fun _ => w_work hk) (fun z h1 q _ _ => ?_) (fun z => ?_)
  · obtain ⟨so, hk1, mw⟩ := q
    have hm := hk1.1.1
    have y0 := hm.2.1
    obtain ⟨r9, k9, l9⟩ := hm.r 9 6 2 50 (by decide)
    obtain ⟨r10, k10, l10⟩ := hm.r 10 7 2 50 (by decide)
    obtain ⟨r11, k11, l11⟩ := hm.r 11 8 2 50 (by decide)
    obtain ⟨r6, k6, l6⟩ := hm.r 6 3 2 50 (by decide)
    obtain ⟨_, w2, w3, w4, ⟨w5, w6, w7⟩, hB⟩ := id mw
    rw [b2i_n] at z
    obtain ⟨s, i, h2, hi, ea, eb⟩ := hold_ex (fun s hs' => by have := hs s hs'; omega) z
    have hs' := hs s h2
    have ci : Int32.toNatClampNeg nd = i := by rw [eb]; exact nI_clamp (by omega)
    have vi : vp_in nd 50 := by rw [eb]; exact vp_in_nI (by omega) (by decide)
    have ans : aBlock sz E sd nd = if s = 0 then bnum sz E (bst sz E 1) i else match bst sz E 1 i with | none => -3 | some l => bnum sz E (bst sz E 1) l := by
      unfold aBlock
      rw [z, ea, eb, ct_nI (by omega), ct_nI (by omega), if_pos rfl]
      rfl
    have p1 : ∀ s, s < 2 → ∀ i, i < sz s → (nI (prt sz E s i) = 1 ↔ inn sz E s i) := by
      intro s hs i hi
      rw [inn_prt hs hi]
      have hp : prt sz E s i ≤ 2 := by rcases prt_cases sz E s i with q | q | q <;> omega
      rw [show (1 : Int32) = nI 1 by decide, nI_eq (by omega) (by decide)]
    refine s_X6_block_15 hm.1 (by rw [r10]; omega) (by rw [r10]; exact k10) (fun _ => by rw [r10, l10]; exact vi) (by rw [r11]; omega) (by rw [r6]; omega) (by rw [r6]; exact k6) (fun _ _ _ => by rw [r6, l6]; exact vi) (by rw [r11]; exact k11) (fun v1 v2 _ => ?_) (fun v1 v2 _ => ?_) (fun v1 _ v3 => (v1 v3).elim) (fun v1 _ v3 => (v1 v3).elim) (fun v1 v2 => ?_) (by rw [r9]; omega) (by rw [r9]; exact k9) (fun _ => by rw [r9, l9]; exact vi) (fun v1 _ v3 => (v3 v1).elim) (fun v1 _ v3 => (v3 v1).elim) (fun v1 _ v3 => (v3 v1).elim) (fun _ _ _ => by rw [r11, l11]; exact vi) (fun v1 v2 _ => ?_) (fun v1 v2 => ?_)
    · rw [ea] at v1
      have es := (side01 h2).1 v1
      subst es
      rw [r10, ci, w4.2 i hi, p1 1 (by decide) i hi] at v2
      obtain ⟨l, hl, hl2⟩ := inn_mate1 hE hB.1 v2
      have := hl2.1
      rw [r6, ci, (w2 i (by omega)).2, hl, r11, l11]; exact vp_in_nI (by omega) (by decide)
    · rw [ea] at v1
      have es := (side01 h2).1 v1
      subst es
      rw [r10, ci, w4.2 i hi, p1 1 (by decide) i hi] at v2
      obtain ⟨l, hl, hl2⟩ := inn_mate1 hE hB.1 v2
      have := hl2.1
      rw [r6, ci, (w2 i (by omega)).2, hl, show e1 (some l) = nI l from rfl, nI_clamp (show l < 2 ^ 31 by omega), r11, w7 l hl2.1, dc_iff.2 hl2]
      refine rm_fin ?_ so hk1
      rw [ans, if_neg (show ¬ (1 = 0) by decide), hl]
      show _ = bnum sz E (bst sz E 1) l
      unfold bnum; rw [dc_iff.2 hl2]; rfl
    · rw [ea] at v1
      have es := (side01 h2).1 v1
      subst es
      rw [r10, ci, w4.2 i hi, p1 1 (by decide) i hi] at v2
      refine rm_fin ?_ so hk1
      rw [ans, if_neg (show ¬ (1 = 0) by decide)]
      cases e : bst sz E 1 i with
      | none => rfl
      | some l =>
        show -3 = bnum sz E (bst sz E 1) l
        unfold bnum
        rw [dc_no.2 (fun w => ?_)]
        · rfl
        · obtain ⟨r, hr1, hr2⟩ := inn_mate hE hB.1 w
          rw [(hB.1.1.1 _ _).2 e] at hr1
          cases hr1
          exact v2 hr2
    · rw [ea] at v1
      have es := (side01 h2).2 v1
      subst es
      rw [r9, ci, w4.1 i hi, p1 0 (by decide) i hi] at v2
      rw [r11, ci, w7 i hi, dc_iff.2 v2]
      refine rm_fin ?_ so hk1
      rw [ans, if_pos (show 0 = 0 from rfl)]
      unfold bnum; rw [dc_iff.2 v2]; rfl
    · rw [ea] at v1
      have es := (side01 h2).2 v1
      subst es
      rw [r9, ci, w4.1 i hi, p1 0 (by decide) i hi] at v2
      refine rm_fin ?_ so hk1
      rw [ans, if_pos (show 0 = 0 from rfl)]
      unfold bnum; rw [dc_no.2 v2]; rfl
  · rw [b2i_0] at z
    exact rm_fin (by unfold aBlock; rw [z]; rfl) SO.rf hk
theorem m_meets (hm : ML h y) (hg : MG h y sz E) (hw : W1 h y sz E) {s i : Nat} (hs2 : s < 2) (hi : i < sz s) : Ev G m_X6_meetsMissed [.ref y, .int (nI s), .int (nI i)] h 0 0 (Ret (some (.int (b2i (dc (ptA sz E s i))))) h) := by
  obtain ⟨g1, g2, g3, g4, g5, g6⟩ := id hg
  obtain ⟨r2, k2, l2⟩ := hm.r 2 1 4 2500 (by decide)
  obtain ⟨r7, k7, l7⟩ := hm.r 7 4 4 50 (by decide)
  obtain ⟨r8, k8, l8⟩ := hm.r 8 5 4 50 (by decide)
  have y0 := hm.2.1
  have h50 : sz s ≤ 50 ∧ sz (1 - s) ≤ 50 := by rcases (by omega : s = 0 ∨ s = 1) with z | z <;> subst z <;> exact ⟨by assumption, by assumption⟩
  refine Ev.of pn_X6_meetsMissed (Nat.le_of_ble_eq_true rfl) ?_
  refine s_X6_meetsMissed_0 ?_
  have endE : dc (∃ j, j < sz (1 - s) ∧ mis sz E (1 - s) j ∧ ad E s i j = true) = dc (ptA sz E s i) := dc_congr ⟨fun ⟨j, _, z⟩ => ⟨j, z⟩, fun ⟨j, z1, z2⟩ => ⟨j, z1.1, z1, z2⟩⟩
  have stepN : ∀ k, ¬ (mis sz E (1 - s) k ∧ ad E s i k = true) → dc (∃ j, j < k + 1 ∧ mis sz E (1 - s) j ∧ ad E s i j = true) = dc (∃ j, j < k ∧ mis sz E (1 - s) j ∧ ad E s i j = true) := fun k hn => dc_congr ⟨fun ⟨j, z1, z2⟩ => ⟨j, by
    by_cases e : j = k
    · subst e; exact (hn z2).elim
    · omega, z2⟩, fun ⟨j, z1, z2⟩ => ⟨j, by omega, z2⟩⟩
  have loop : ∀ d k c, k + d = sz (1 - s) → c = b2i (dc (∃ j, j < k ∧ mis sz E (1 - s) j ∧ ad E s i j = true)) → RR G (hN h + 0) (hS h + 0) m_X6_meetsMissed 5 [some (.ref y), some (.int (nI s)), some (.int (nI i)), some (.int c), some (.int (nI k)), none] [] h (fun v h' => Ret (some (.int (b2i (dc (ptA sz E s i))))) h v h' ∧ hN h' = hN h + 0 ∧ hS h' = hS h + 0) := by
    intro d
    induction d with
    | zero =>
      intro k c e ec
      have e : k = sz (1 - s) := by omega
      subst e
      rw [endE] at ec
      have fin : (fun v h' => Ret (some (.int (b2i (dc (ptA sz E s i))))) h v h' ∧ hN h' = hN h + 0 ∧ hS h' = hS h + 0) (some (.int c)) h := by rw [ec]; exact Zok
      have c01 : c = 0 ∨ c = 1 := by rw [ec]; exact b2i_01 _
      rcases (by omega : s = 0 ∨ s = 1) with es | es
      · subst es
        have z0 : ¬ nI 0 = 0 → False := fun w => w rfl
        have no : ¬ hI h y 1 ≤ nI (sz (1 - 0)) → False := fun w => w (by rw [g2]; exact nI_le (Nat.le_refl _) (by omega))
        exact s_X6_meetsMissed_5 hm.1 (fun w => (z0 w).elim) (fun w => (z0 w).elim) (by rw [r2]; omega) (by rw [r2]; exact k2) (fun w => (z0 w).elim) (fun w => (z0 w).elim) (fun w => (z0 w).elim) (by rw [r7]; omega) (by rw [r7]; exact k7) (fun w => (z0 w).elim) (fun w => (z0 w).elim) (fun w => (z0 w).elim) (by rw [r8]; omega) (by rw [r8]; exact k8) (fun w => (z0 w).elim) (fun w => (z0 w).elim) (fun w => (z0 w).elim) (fun w => (z0 w).elim) (fun w => (z0 w).elim) (fun w => (z0 w).elim) (fun w => (z0 w).elim) (fun w => (z0 w).elim) (fun w => (z0 w).elim) (fun w => (z0 w).elim) (fun w => (z0 w).elim) (fun w => (z0 w).elim) (fun _ _ => fin) (fun _ _ => c01) (fun _ w => (no w).elim) (fun _ w => (no w).elim) (fun _ w => (no w).elim) (fun _ w => (no w).elim) (fun _ w => (no w).elim) (fun _ w => (no w).elim) (fun _ w => (no w).elim) (fun _ w => (no w).elim) (fun _ w => (no w).elim) (fun _ w => (no w).elim) (fun _ w => (no w).elim) (fun _ w => (no w).elim) (fun _ w => (no w).elim) (fun _ w => (no w).elim) (fun _ w => (no w).elim) (fun _ w => (no w).elim) (fun _ w => (no w).elim) (fun _ w => (no w).elim)
      · subst es
        have z0 : nI 1 = 0 → False := by decide
        have no : ¬ hI h y 0 ≤ nI (sz (1 - 1)) → False := fun w => w (by rw [g1]; exact nI_le (Nat.le_refl _) (by omega))
        exact s_X6_meetsMissed_5 hm.1 (fun _ _ => fin) (fun _ _ => c01) (by rw [r2]; omega) (by rw [r2]; exact k2) (fun _ w => (no w).elim) (fun _ w => (no w).elim) (fun _ w => (no w).elim) (by rw [r7]; omega) (by rw [r7]; exact k7) (fun _ w => (no w).elim) (fun _ w => (no w).elim) (fun _ w => (no w).elim) (by rw [r8]; omega) (by rw [r8]; exact k8) (fun _ w => (no w).elim) (fun _ w => (no w).elim) (fun _ w => (no w).elim) (fun _ w => (no w).elim) (fun _ w => (no w).elim) (fun _ w => (no w).elim) (fun _ w => (no w).elim) (fun _ w => (no w).elim) (fun _ w => (no w).elim) (fun _ w => (no w).elim) (fun _ w => (no w).elim) (fun _ w => (no w).elim) (fun w => (z0 w).elim) (fun w => (z0 w).elim) (fun w => (z0 w).elim) (fun w => (z0 w).elim) (fun w => (z0 w).elim) (fun w => (z0 w).elim) (fun w => (z0 w).elim) (fun w => (z0 w).elim) (fun w => (z0 w).elim) (fun w => (z0 w).elim) (fun w => (z0 w).elim) (fun w => (z0 w).elim) (fun w => (z0 w).elim) (fun w => (z0 w).elim) (fun w => (z0 w).elim) (fun w => (z0 w).elim) (fun w => (z0 w).elim) (fun w => (z0 w).elim) (fun w => (z0 w).elim) (fun w => (z0 w).elim)
    | succ d ih =>
      intro k c e ec
      have hk : k < sz (1 - s) := by omega
      have ck : Int32.toNatClampNeg (nI k) = k := nI_clamp (by omega)
      have yes : ¬ c = 0 → RR G (hN h + 0) (hS h + 0) m_X6_meetsMissed 5 [some (.ref y), some (.int (nI s)), some (.int (nI i)), some (.int 1), some (.int (nI k + 1)), none] [] h (fun v h' => Ret (some (.int (b2i (dc (ptA sz E s i))))) h v h' ∧ hN h' = hN h + 0 ∧ hS h' = hS h + 0) := by
        intro w
        rw [ec, b2i_n, dc_iff] at w
        rw [nI_1]
        refine ih (k + 1) 1 (by omega) ?_
        obtain ⟨j, w1, w2⟩ := w
        rw [dc_iff.2 ⟨j, by omega, w2⟩]; rfl
      have skip : c = 0 → ¬ (mis sz E (1 - s) k ∧ ad E s i k = true) → RR G (hN h + 0) (hS h + 0) m_X6_meetsMissed 5 [some (.ref y), some (.int (nI s)), some (.int (nI i)), some (.int 0), some (.int (nI k + 1)), none] [] h (fun v h' => Ret (some (.int (b2i (dc (ptA sz E s i))))) h v h' ∧ hN h' = hN h + 0 ∧ hS h' = hS h + 0) := by
        intro w hn
        rw [nI_1]
        exact ih (k + 1) 0 (by omega) (by rw [stepN k hn, ← ec]; exact w.symm)
      have found : (mis sz E (1 - s) k ∧ ad E s i k = true) → RR G (hN h + 0) (hS h + 0) m_X6_meetsMissed 5 [some (.ref y), some (.int (nI s)), some (.int (nI i)), some (.int 1), some (.int (nI k + 1)), none] [] h (fun v h' => Ret (some (.int (b2i (dc (ptA sz E s i))))) h v h' ∧ hN h' = hN h + 0 ∧ hS h' = hS h + 0) := by
        intro w
        rw [nI_1]
        exact ih (k + 1) 1 (by omega) (by rw [dc_iff.2 ⟨k, by omega, w⟩]; rfl)
      rcases (by omega : s = 0 ∨ s = 1) with es | es
      · subst es
        have z0 : ¬ nI 0 = 0 → False := fun w => w rfl
        have no : hI h y 1 ≤ nI k → False := fun w => absurd w (by rw [g2]; exact nI_ge hk (by omega))
        have hk1 : k < sz 1 := hk
        have ix : (50 : Int32) * nI i + nI k = nI (50 * i + k) := idx50 (by omega) (by omega)
        have cx : Int32.toNatClampNeg (nI (50 * i + k)) = 50 * i + k := nI_clamp (by omega)
        have vE : hI h (y + 1) (50 * i + k) = b2i (E i k) := g5 i k (by omega) (by omega)
        refine s_X6_meetsMissed_5 hm.1 (fun w => (z0 w).elim) (fun w => (z0 w).elim) (by rw [r2]; omega) (by rw [r2]; exact k2) (fun w => (z0 w).elim) (fun w => (z0 w).elim) (fun w => (z0 w).elim) (by rw [r7]; omega) (by rw [r7]; exact k7) (fun w => (z0 w).elim) (fun w => (z0 w).elim) (fun w => (z0 w).elim) (by rw [r8]; omega) (by rw [r8]; exact k8) (fun w => (z0 w).elim) (fun w => (z0 w).elim) (fun w => (z0 w).elim) (fun w => (z0 w).elim) (fun w => (z0 w).elim) (fun w => (z0 w).elim) (fun w => (z0 w).elim) (fun w => (z0 w).elim) (fun w => (z0 w).elim) (fun w => (z0 w).elim) (fun w => (z0 w).elim) (fun w => (z0 w).elim) (fun _ w => (no w).elim) (fun _ w => (no w).elim) (fun _ _ w => (z0 w).elim) (fun _ _ w => (z0 w).elim) (fun _ _ w => (z0 w).elim) (fun _ _ w => (z0 w).elim) (fun _ _ w => (z0 w).elim) (fun _ _ w => (z0 w).elim) (fun _ _ w => (z0 w).elim) (fun _ _ w => (z0 w).elim) (fun _ _ w => (z0 w).elim) (fun _ _ _ => by rw [r2, l2, ix]; exact vp_in_nI (by omega) (by decide)) (fun _ _ _ w => yes w) (fun _ _ _ w1 w2 => ?_) (fun _ _ _ _ _ w => (z0 w).elim) (fun _ _ _ _ _ w => (z0 w).elim) (fun _ _ _ _ _ w => (z0 w).elim) (fun _ _ _ _ _ _ => by rw [r8, l8]; exact vp_in_nI (by omega) (by decide)) (fun _ _ _ w1 w2 _ w3 => ?_) (fun _ _ _ w1 w2 _ w3 => ?_)
        · rw [r2, ix, cx, vE, b2i_0] at w2
          exact skip w1 (fun q => by have q2 : E i k = true := q.2; rw [w2] at q2; cases q2)
        · rw [r8, ck, hw.2 k hk1, b2i_0, dc_no] at w3
          exact skip w1 (fun q => w3 q.1)
        · rw [r2, ix, cx, vE, b2i_n] at w2
          rw [r8, ck, hw.2 k hk1, b2i_n, dc_iff] at w3
          exact found ⟨w3, w2⟩
      · subst es
        have z0 : nI 1 = 0 → False := by decide
        have no : hI h y 0 ≤ nI k → False := fun w => absurd w (by rw [g1]; exact nI_ge hk (by omega))
        have hk1 : k < sz 0 := hk
        have ix : (50 : Int32) * nI k + nI i = nI (50 * k + i) := idx50 (by omega) (by omega)
        have cx : Int32.toNatClampNeg (nI (50 * k + i)) = 50 * k + i := nI_clamp (by omega)
        have vE : hI h (y + 1) (50 * k + i) = b2i (E k i) := g5 k i (by omega) (by omega)
        refine s_X6_meetsMissed_5 hm.1 (fun _ w => (no w).elim) (fun _ w => (no w).elim) (by rw [r2]; omega) (by rw [r2]; exact k2) (fun _ _ _ => by rw [r2, l2, ix]; exact vp_in_nI (by omega) (by decide)) (fun _ _ _ w => yes w) (fun _ _ _ w1 w2 => ?_) (by rw [r7]; omega) (by rw [r7]; exact k7) (fun _ _ _ _ _ _ => by rw [r7, l7]; exact vp_in_nI (by omega) (by decide)) (fun _ _ _ w1 w2 _ w3 => ?_) (fun _ _ _ w1 w2 _ w3 => ?_) (by rw [r8]; omega) (by rw [r8]; exact k8) (fun _ _ _ _ _ w => (z0 w).elim) (fun _ _ _ _ _ w => (z0 w).elim) (fun _ _ _ _ _ w => (z0 w).elim) (fun _ _ w => (z0 w).elim) (fun _ _ w => (z0 w).elim) (fun _ _ w => (z0 w).elim) (fun _ _ w => (z0 w).elim) (fun _ _ w => (z0 w).elim) (fun _ _ w => (z0 w).elim) (fun _ _ w => (z0 w).elim) (fun _ _ w => (z0 w).elim) (fun _ _ w => (z0 w).elim) (fun w => (z0 w).elim) (fun w => (z0 w).elim) (fun w => (z0 w).elim) (fun w => (z0 w).elim) (fun w => (z0 w).elim) (fun w => (z0 w).elim) (fun w => (z0 w).elim) (fun w => (z0 w).elim) (fun w => (z0 w).elim) (fun w => (z0 w).elim) (fun w => (z0 w).elim) (fun w => (z0 w).elim) (fun w => (z0 w).elim) (fun w => (z0 w).elim) (fun w => (z0 w).elim) (fun w => (z0 w).elim) (fun w => (z0 w).elim) (fun w => (z0 w).elim) (fun w => (z0 w).elim) (fun w => (z0 w).elim)
        · rw [r2, ix, cx, vE, b2i_0] at w2
          exact skip w1 (fun q => by have q2 : E k i = true := q.2; rw [w2] at q2; cases q2)
        · rw [r7, ck, hw.1 k hk1, b2i_0, dc_no] at w3
          exact skip w1 (fun q => w3 q.1)
        · rw [r2, ix, cx, vE, b2i_n] at w2
          rw [r7, ck, hw.1 k hk1, b2i_n, dc_iff] at w3
          exact found ⟨w3, w2⟩
  refine loop (sz (1 - s)) 0 0 (by omega) ?_
  rw [dc_no.2 (fun ⟨j, w, _⟩ => absurd w (by omega))]; rfl
theorem m_covers (hm : ML h y) (hg : MG h y sz E) (hw : W1 h y sz E) {w s i : Nat} (hw2 : w < 2) (hs2 : s < 2) (hi : i < sz s) : Ev G m_X6_covers [.ref y, .int (nI w), .int (nI s), .int (nI i)] h 0 0 (Ret (some (.int (b2i (cov sz E w s i)))) h) := by
  obtain ⟨g1, g2, g3, g4, g5, g6⟩ := id hg
  obtain ⟨r7, k7, l7⟩ := hm.r 7 4 4 50 (by decide)
  obtain ⟨r8, k8, l8⟩ := hm.r 8 5 4 50 (by decide)
  have y0 := hm.2.1
  have h50 : sz s ≤ 50 := by rcases (by omega : s = 0 ∨ s = 1) with z | z <;> subst z <;> assumption
  have ci : Int32.toNatClampNeg (nI i) = i := nI_clamp (by omega)
  have vi : vp_in (nI i) 50 := vp_in_nI (by omega) (by decide)
  have ws : nI w = nI s ↔ w = s := nI_eq (by omega) (by omega)
  refine Ev.of pn_X6_covers (Nat.le_of_ble_eq_true rfl) ?_
  have fin : ∀ c : Bool, cov sz E w s i = c → (fun v h' => Ret (some (.int (b2i (cov sz E w s i)))) h v h' ∧ hN h' = hN h + 0 ∧ hS h' = hS h + 0) (some (.int (b2i c))) h := fun c e => by rw [e]; exact Zok
  refine s_X6_covers_0 (x1 := b2i (dc (ptA sz E s i))) (fun _ => m_meets hm hg hw hs2 hi) hm.1 (fun z => ?_) (fun _ => b2i_01 _) (by rw [r8]; omega) (by rw [r8]; exact k8) (fun _ _ => by rw [r8, l8]; exact vi) (fun z1 z2 z3 => ?_) (fun z1 z2 z3 => ?_) (by rw [r7]; omega) (by rw [r7]; exact k7) (fun _ _ => by rw [r7, l7]; exact vi) (fun z1 z2 z3 => ?_) (fun z1 z2 z3 => ?_)
  · rw [ws] at z
    exact fin _ (by unfold cov; rw [if_neg z])
  · rw [ws] at z1
    have es := (side01 hs2).1 z2
    subst es
    rw [r8, ci, hw.2 i hi, b2i_n, dc_iff] at z3
    exact fin false (by unfold cov; rw [if_pos z1, dc_no.2 (fun q => q z3)])
  · rw [ws] at z1
    have es := (side01 hs2).1 z2
    subst es
    rw [r8, ci, hw.2 i hi, b2i_0, dc_no] at z3
    exact fin true (by unfold cov; rw [if_pos z1, dc_iff.2 z3])
  · rw [ws] at z1
    have es := (side01 hs2).2 z2
    subst es
    rw [r7, ci, hw.1 i hi, b2i_n, dc_iff] at z3
    exact fin false (by unfold cov; rw [if_pos z1, dc_no.2 (fun q => q z3)])
  · rw [ws] at z1
    have es := (side01 hs2).2 z2
    subst es
    rw [r7, ci, hw.1 i hi, b2i_0, dc_no] at z3
    exact fin true (by unfold cov; rw [if_pos z1, dc_iff.2 z3])
theorem r_cover (hk : MOK h y sz E n U) (w sd nd : Int32) : Ev G m_X6_cover [.ref y, .int w, .int sd, .int nd] h 0 0 (RI (RM2 h y sz E n U (aCover sz E w sd nd))) := by
  obtain ⟨hs, hE, -⟩ := hk.lt
  refine Ev.of pn_X6_cover (Nat.le_of_ble_eq_true rfl) ?_
  have isn := m_isNode (G := G) hk.1.2.1 hk.1.1 sd nd
  have bad : holdB sz sd nd = false → (fun v h' => RI (RM2 h y sz E n U (aCover sz E w sd nd)) v h' ∧ hN h' = hN h + 0 ∧ hS h' = hS h + 0) (some (.int (-1))) h := fun z => rm_fin (by unfold aCover; rw [if_neg (fun q => by rw [z] at q; cases q.2)]) SO.rf hk
  have go : ∀ v, v < 2 → w = nI v → (w = 0 ∨ w = 1) → holdB sz sd nd = true → ∀ h1, (SO y (y + 27) h h1 ∧ MOK h1 y sz E n U ∧ MW h1 y sz E) → RR G (hN h + 0) (hS h + 0) m_X6_cover 24 [some (.ref y), some (.int w), some (.int sd), some (.int nd)] [] h1 (fun v h' => RI (RM2 h y sz E n U (aCover sz E w sd nd)) v h' ∧ hN h' = hN h + 0 ∧ hS h' = hS h + 0) := by
    intro v hv ew e01 z h1 q
    obtain ⟨so, hk1, mw⟩ := q
    obtain ⟨s, i, h2, hi, ea, eb⟩ := hold_ex (fun s hs' => by have := hs s hs'; omega) z
    have hs' := hs s h2
    have ans : aCover sz E w sd nd = b2i (cov sz E v s i) := by
      unfold aCover
      rw [if_pos ⟨e01, z⟩, ea, eb, ew, ct_nI (by omega), ct_nI (by omega), ct_nI (by omega)]
    have ev : Ev G m_X6_covers [.ref y, .int w, .int sd, .int nd] h1 0 0 (Ret (some (.int (b2i (cov sz E v s i)))) h1) := by rw [ew, ea, eb]; exact m_covers hk1.1.1 hk1.1.2.1 mw.2.2.1 hv h2 hi
    refine s_X6_cover_24 ev hk1.1.1.1 (fun w1 => ?_) (fun w1 => ?_)
    · exact rm_fin (by rw [ans]; exact w1.symm) so hk1
    · refine rm_fin ?_ so hk1
      rw [b2i_n] at w1
      rw [ans, w1]; rfl
  refine s_X6_cover_0 (x1 := b2i (holdB sz sd nd)) (x3 := b2i (holdB sz sd nd)) (fun _ => isn) hk.1.1.1 (fun _ _ => w_work hk) (fun z1 z2 h1 q _ _ => go 0 (by decide) z1 (Or.inl z1) (b2i_n.1 z2) h1 q) (fun _ z => bad (b2i_0.1 z)) (fun z1 z2 => ?_) (fun _ _ => isn) (fun _ _ _ => w_work hk) (fun _ z1 z2 h1 q _ _ => go 1 (by decide) z1 (Or.inr z1) (b2i_n.1 z2) h1 q) (fun _ _ z => bad (b2i_0.1 z))
  exact rm_fin (by unfold aCover; rw [if_neg (fun q => by rcases q.1 with w | w; exact z1 w; exact z2 w)]) SO.rf hk
theorem r_hall (hk : MOK h y sz E n U) (w nd : Int32) : Ev G m_X6_hall [.ref y, .int w, .int nd] h 0 0 (RI (RM2 h y sz E n U (aHall sz E w nd))) := by
  obtain ⟨hs, hE, -⟩ := hk.lt
  have h50 := hs 0 (by decide)
  refine Ev.of pn_X6_hall (Nat.le_of_ble_eq_true rfl) ?_
  have isn := m_isNode (G := G) hk.1.2.1 hk.1.1 0 nd
  have bad : holdB sz 0 nd = false → (fun v h' => RI (RM2 h y sz E n U (aHall sz E w nd)) v h' ∧ hN h' = hN h + 0 ∧ hS h' = hS h + 0) (some (.int (-1))) h := fun z => rm_fin (by unfold aHall; rw [if_neg (fun q => by rw [z] at q; cases q.2)]) SO.rf hk
  have go : ∀ v, v < 2 → w = nI v → (w = 0 ∨ w = 1) → holdB sz 0 nd = true → ∀ h1, (SO y (y + 27) h h1 ∧ MOK h1 y sz E n U ∧ MW h1 y sz E) → RR G (hN h + 0) (hS h + 0) m_X6_hall 24 [some (.ref y), some (.int w), some (.int nd)] [] h1 (fun v h' => RI (RM2 h y sz E n U (aHall sz E w nd)) v h' ∧ hN h' = hN h + 0 ∧ hS h' = hS h + 0) := by
    intro v hv ew e01 z h1 q
    obtain ⟨so, hk1, mw⟩ := q
    obtain ⟨i, hi, eb⟩ := in_ex (by omega) (hold0 ▸ z)
    have ans : aHall sz E w nd = b2i (!cov sz E v 0 i) := by
      unfold aHall
      rw [if_pos ⟨e01, z⟩, eb, ew, ct_nI (by omega), ct_nI (by omega)]
    have ev : Ev G m_X6_covers [.ref y, .int w, .int 0, .int nd] h1 0 0 (Ret (some (.int (b2i (cov sz E v 0 i)))) h1) := by rw [ew, eb]; exact m_covers (s := 0) hk1.1.1 hk1.1.2.1 mw.2.2.1 hv (by decide) hi
    refine s_X6_hall_24 ev hk1.1.1.1 (fun w1 => ?_) (fun w1 => ?_)
    · rw [b2i_0] at w1
      exact rm_fin (by rw [ans, w1]; rfl) so hk1
    · rw [b2i_n] at w1
      exact rm_fin (by rw [ans, w1]; rfl) so hk1
  refine s_X6_hall_0 (x1 := b2i (holdB sz 0 nd)) (x3 := b2i (holdB sz 0 nd)) (fun _ => isn) hk.1.1.1 (fun _ _ => w_work hk) (fun z1 z2 h1 q _ _ => go 0 (by decide) z1 (Or.inl z1) (b2i_n.1 z2) h1 q) (fun _ z => bad (b2i_0.1 z)) (fun z1 z2 => ?_) (fun _ _ => isn) (fun _ _ _ => w_work hk) (fun _ z1 z2 h1 q _ _ => go 1 (by decide) z1 (Or.inr z1) (b2i_n.1 z2) h1 q) (fun _ _ z => bad (b2i_0.1 z))
  exact rm_fin (by unfold aHall; rw [if_neg (fun q => by rcases q.1 with w | w; exact z1 w; exact z2 w)]) SO.rf hk
