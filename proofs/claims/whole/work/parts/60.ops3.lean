theorem ne_add (a k : Nat) : a + (k + 1) ≠ 0 := by omega
variable {G : GG} {h h' : PH} {x B L K n : Nat} {sz : Nat → Nat} {E U : Nat → Nat → Bool}
/-- how many edges the first left nodes have -/
def eC (E : Nat → Nat → Bool) (k : Nat) : Nat → Nat
  | 0 => 0
  | l + 1 => eC E k l + cnt k (E l)
theorem esum_eC {g m : Nat} (hg : GS h g m sz E) : ∀ k, k ≤ sz 0 → esum (hJ h (g + 3)) k = eC E (sz 1) k
  | 0, _ => rfl
  | k + 1, hk => by
    show esum _ k + _ = eC E (sz 1) k + _
    have h0 := (hg.2.1 0 (by decide)).2
    have h1 := (hg.2.1 1 (by decide)).2
    have hm := hg.1.2.2.2.2.2.2.2.2.2
    rw [esum_eC hg k (by omega)]
    congr 1
    rw [cnt_congr (q := E k) (fun j _ => hg.2.2.1 0 (by decide) k (by omega) j)]
    exact cnt_cut (by omega) (fun i hi _ => by
      cases e : E k i
      · rfl
      · have := (hg.2.2.2 _ _ e).2; omega)
noncomputable def hgh (n : Nat) (U : Nat → Nat → Bool) : Nat := Classical.epsilon (isHigh n U)
theorem hgh_eq {H : Nat} (h : isHigh n U H) : H = hgh n U := high_unique h (Classical.epsilon_spec (p := isHigh n U) ⟨H, h⟩)
noncomputable def aCount (sz : Nat → Nat) (E : Nat → Nat → Bool) (n : Nat) (U : Nat → Nat → Bool) (w : Int32) : Int32 :=
  if w = 0 then nI (sz 0) else if w = 1 then nI (sz 1) else if w = 2 then nI (eC E (sz 1) (sz 0)) else if w = 3 then nI (siz (sz 0) (bst sz E 0)) else if w = 4 then nI (sz 0) - nI (siz (sz 0) (bst sz E 0)) else
  if w = 5 then nI (inPrt sz E 0) else if w = 6 then nI (inPrt sz E 1) else if w = 7 then nI (inPrt sz E 2) else if w = 8 then nI (nbs (eqb sz E (bst sz E 1)) (sz 0)) else
  if w = 9 then nI n else if w = 10 then nI n - nI (siz n (bst (fun _ => n) U 0)) else if w = 11 then nI (hgh n U) else -1
theorem c_find {cg : Nat} (hx : XL h x B) (hc : CG h x B L cg sz E) (hs : ∀ s, s < 2 → sz s ≤ 50) (pf : PF h (x + 6) 50 sz E) (bf : BF h (x + 17) sz E) (w : Int32) (hw : w = 3 ∨ w = 4 ∨ w = 5 ∨ w = 6 ∨ w = 7 ∨ w = 8 ∨ (w < 0 ∨ 11 < w)) : Ev G m_X5_countFindings [.ref x, .int w] h 0 0 (Ret (some (.int (aCount sz E n U w))) h) := by
  have hE : Rg (sz 0) (sz 1) E := hc.1.2.2.2
  obtain ⟨x1, x2, x3, x4, x5, x6, x7, x8, x9, x10, x11⟩ := id hx
  obtain ⟨mt, p1, p2, p3, p4⟩ := pf
  have bx := bf _ _ p2
  have e0 := bst_at hE p2 (show 0 < 2 by decide)
  have e1 := bst_at hE p2 (show 1 < 2 by decide)
  rw [e0] at p3
  rw [e1] at bx
  refine Ev.of pn_X5_countFindings (Nat.le_of_ble_eq_true rfl) ?_
  have ip : ∀ q, q < 3 → Ev G m_X3_nodesInPart [.ref (x + 6), .int (nI q)] h 0 0 (Ret (some (.int (nI (inPrt sz E q)))) h) := fun q hq => ev_nodesInPart hc.2.1 hE p4 hs hq
  refine s_X5_countFindings_0 (x1 := nI (siz (sz 0) (bst sz E 0))) (x2 := nI (sz 0)) (x3 := nI (siz (sz 0) (bst sz E 0))) (x4 := nI (inPrt sz E 0)) (x5 := nI (inPrt sz E 1)) (x6 := nI (inPrt sz E 2)) (x7 := nI (nbs (eqb sz E (bst sz E 1)) (sz 0))) (fun z => ?_) x1 (by rw [x3]; omega) (fun _ => by rw [x3, ← p3]; exact ev_pairs hc.2.1) (by rw [x3]; exact hc.2.1.1) (fun z => ?_) (by rw [x2]; omega) (fun _ => by rw [x2]; exact ev_sizeOf hc.1 (s := 0) (by decide)) (by rw [x2]; exact hc.1.1.1) (fun _ => by rw [x3, ← p3]; exact ev_pairs hc.2.1) (fun z => ?_) (fun z => ?_) (fun z => ?_) (fun z => ?_) (fun z => ?_) (fun z => ?_) (fun z => ?_) (by rw [x4]; omega) (fun _ => by rw [x4, ← bx.2.1]; exact ev_howMany hc.2.2.1) (by rw [x4]; exact hc.2.2.1.1) (fun z => ?_)
  · have : aCount sz E n U w = -1 := by
      rcases hw with q | q | q | q | q | q | q
      iterate 6 (rw [q] at z; exact absurd z (by decide))
      unfold aCount
      have ne : ∀ v : Int32, (0 ≤ v ∧ v ≤ 11) → w ≠ v := by
        intro v hv e
        subst e
        have q2 : w.toInt < 0 ∨ 11 < w.toInt := by
          rcases q with q | q
          · exact Or.inl (Int32.lt_iff_toInt_lt.1 q)
          · exact Or.inr (Int32.lt_iff_toInt_lt.1 q)
        have a1 : 0 ≤ w.toInt := Int32.le_iff_toInt_le.1 hv.1
        have a2 : w.toInt ≤ 11 := Int32.le_iff_toInt_le.1 hv.2
        omega
      rw [if_neg (ne 0 (by decide)), if_neg (ne 1 (by decide)), if_neg (ne 2 (by decide)), if_neg (ne 3 (by decide)), if_neg (ne 4 (by decide)), if_neg (ne 5 (by decide)), if_neg (ne 6 (by decide)), if_neg (ne 7 (by decide)), if_neg (ne 8 (by decide)), if_neg (ne 9 (by decide)), if_neg (ne 10 (by decide)), if_neg (ne 11 (by decide))]
    rw [this]; exact Zok
  · subst z; exact Zok
  · subst z; exact Zok
  · subst z; rw [x3]; exact ip 0 (by decide)
  · subst z; exact Zok
  · subst z; rw [x3]; exact ip 1 (by decide)
  · subst z; exact Zok
  · subst z; rw [x3]; exact ip 2 (by decide)
  · subst z; exact Zok
  · subst z; exact Zok
theorem c_count (hk : COK h x B L K sz E n U) (w : Int32) : Ev G m_X5_count [.ref x, .int w] h 0 0 (RI (RP h x B L K sz E n U (aCount sz E n U w))) := by
  obtain ⟨hs, hn, hE, hRU, hU⟩ := n_lt hk
  obtain ⟨cg, cu, b1, b2, hx, hc, hu⟩ := id hk
  obtain ⟨x1, x2, x3, x4, x5, x6, x7, x8, x9, x10, x11⟩ := id hx
  refine Ev.of pn_X5_count (Nat.le_of_ble_eq_true rfl) ?_
  have fin : ∀ h1, SO (x + 6) (x + 17) h h1 ∧ CG h1 x B L cg sz E ∧ PF h1 (x + 6) 50 sz E → (w = 3 ∨ w = 4 ∨ w = 5 ∨ w = 6 ∨ w = 7 ∨ w = 8 ∨ (w < 0 ∨ 11 < w)) → RR G (hN h + 0) (hS h + 0) m_X5_count 153 [some (.ref x), some (.int w)] [] h1 (fun v h' => RI (RP h x B L K sz E n U (aCount sz E n U w)) v h' ∧ hN h' = hN h + 0 ∧ hS h' = hS h + 0) := by
    rintro h1 ⟨so, hc1, pf⟩ hw
    obtain ⟨hx1, hu1, hk1⟩ := cok_P b1 b2 hx hu so hc1
    obtain ⟨y1, y2, y3, y4, -⟩ := id hx1
    refine s_X5_count_153 y1 (by rw [y4]; omega) (by rw [y4]; exact rf_B hc1 pf) (by rw [y4]; exact hc1.2.2.1.1) (fun h2 q2 n2 s2 => ?_)
    obtain ⟨so2, hc2, pf2, bf⟩ := q2
    obtain ⟨hx2, hu2, hk2⟩ := cok_B b1 b2 hx1 hu1 so2 hc2
    have so3 : SO (x + 1) (x + 45) h h2 := (so.wide (by omega) (by omega)).trans (so2.wide (by omega) (by omega))
    exact s_X5_count_160 (c_find hx2 hc2 hs pf2 bf w hw) hx2.1 (rp_fin rfl so3 hk2)
  have finU : ∀ h1, SO (x + 31) (x + 42) h h1 ∧ CU h1 x cu n U ∧ PF h1 (x + 31) 40 (fun _ => n) U → (w = 10 ∨ w = 11) → RR G (hN h + 0) (hS h + 0) m_X5_count 106 [some (.ref x), some (.int w)] [] h1 (fun v h' => RI (RP h x B L K sz E n U (aCount sz E n U w)) v h' ∧ hN h' = hN h + 0 ∧ hS h' = hS h + 0) := by
    rintro h1 ⟨so, hu1, pf⟩ hw
    have hx1 := hx.so so
    obtain ⟨y1, y2, y3, y4, y5, y6, y7, y8, -⟩ := id hx1
    refine s_X5_count_106 y1 (by rw [y8]; omega) (by rw [y8]; exact rf_O hu1 pf) (by rw [y8]; exact hu1.2.2.1.1) (fun h2 q2 n2 s2 => ?_)
    obtain ⟨so2, hu2, ⟨mt, p1, p2, p3, p4⟩, of⟩ := q2
    have so3 : SO (x + 1) (x + 45) h h2 := (so.wide (by omega) (by omega)).trans (so2.wide (by omega) (by omega))
    have hx2 := hx1.so so2
    have hk2 : COK h2 x B L K sz E n U := ⟨cg, cu, b1, b2, hx2, (hc.so so (by omega)).so so2 (by omega), hu2⟩
    obtain ⟨w1, w2, w3, w4, w5, w6, w7, w8, -⟩ := id hx2
    obtain ⟨⟨-, H, q2, q3⟩, -⟩ := of
    have e0 : mt 0 = bst (fun _ => n) U 0 := bst_at (sz := fun _ => n) hRU p2 (show 0 < 2 by decide)
    rw [e0] at p3
    refine s_X5_count_113 (x1 := nI H) (x2 := nI n) (x3 := nI (siz n (bst (fun _ => n) U 0))) w1 (by rw [w8]; exact ne_add x 41) (fun _ => by rw [w8, ← q3]; exact ev_howManyLevels hu2.2.2.1) (by rw [w8]; exact hu2.2.2.1.1) (fun z => ?_) (by rw [w6]; exact ne_add x 25) (fun _ => by rw [w6]; exact ev_sizeOf hu2.1 (s := 0) (by decide)) (by rw [w6]; exact hu2.1.1.1) (by rw [w7]; exact ne_add x 30) (fun _ => by rw [w7, ← p3]; exact ev_pairs hu2.2.1) (by rw [w7]; exact hu2.2.1.1) (fun z => ?_)
    · have e : w = 11 := by rcases hw with q | q; exact (z q).elim; exact q
      subst e
      exact rp_fin (by rw [hgh_eq q2]; rfl) so3 hk2
    · subst z
      exact rp_fin rfl so3 hk2
  refine s_X5_count_0 (x2 := nI (sz 0)) (x3 := nI (sz 1)) (x4 := nI (eC E (sz 1) (sz 0))) (x11 := nI n) x1 (by rw [x3]; omega) (fun _ => by rw [x3]; exact rf_P hc) (by rw [x3]; exact hc.2.1.1) (fun z h1 q _ _ => fin h1 q (Or.inr (Or.inr (Or.inr (Or.inr (Or.inr (Or.inr z))))))) (by rw [x2]; omega) (fun _ => by rw [x2]; exact ev_sizeOf hc.1 (s := 0) (by decide)) (by rw [x2]; exact hc.1.1.1) (fun z => ?_) (fun _ => by rw [x2]; exact ev_sizeOf hc.1 (s := 1) (by decide)) (fun z => ?_) (fun _ => by rw [x2, ← esum_eC hc.1 (sz 0) (Nat.le_refl _)]; exact ev_edges hc.1) (fun z => ?_) (fun _ => by rw [x3]; exact rf_P hc) (fun z h1 q _ _ => fin h1 q (Or.inl z)) (fun _ => by rw [x3]; exact rf_P hc) (fun z h1 q _ _ => fin h1 q (Or.inr (Or.inl z))) (fun _ => by rw [x3]; exact rf_P hc) (fun z h1 q _ _ => fin h1 q (Or.inr (Or.inr (Or.inl z)))) (fun _ => by rw [x3]; exact rf_P hc) (fun z h1 q _ _ => fin h1 q (Or.inr (Or.inr (Or.inr (Or.inl z))))) (fun _ => by rw [x3]; exact rf_P hc) (fun z h1 q _ _ => fin h1 q (Or.inr (Or.inr (Or.inr (Or.inr (Or.inl z)))))) (fun _ => by rw [x3]; exact rf_P hc) (fun z h1 q _ _ => fin h1 q (Or.inr (Or.inr (Or.inr (Or.inr (Or.inr (Or.inl z))))))) (by rw [x6]; omega) (fun _ => by rw [x6]; exact ev_sizeOf hu.1 (s := 0) (by decide)) (by rw [x6]; exact hu.1.1.1) (fun z => ?_) (by rw [x7]; omega) (fun _ => by rw [x7]; exact rf_U hu) (by rw [x7]; exact hu.2.1.1) (fun z h1 q _ _ => finU h1 q (Or.inl z)) (fun _ => by rw [x7]; exact rf_U hu) (fun z h1 q _ _ => finU h1 q (Or.inr z))
  · subst z; exact rp_fin rfl SO.rf hk
  · subst z; exact rp_fin rfl SO.rf hk
  · subst z; exact rp_fin rfl SO.rf hk
  · subst z; exact rp_fin rfl SO.rf hk
/-- what a call on the class leaves of the rest -/
def FR (x B : Nat) (h h' : PH) : Prop := ∀ lo hi, (hi ≤ x ∨ x + 45 ≤ lo) → hi ≤ B → AG lo hi h h'
theorem SO.fr (so : SO (x + 1) (x + 45) h h') : FR x B h h' := fun lo hi q _ => so.ag (by omega)
noncomputable def ncd (sz : Nat → Nat) (E : Nat → Nat → Bool) : Nat := Classical.epsilon (HasCard (GM sz E))
theorem ncd_eq {a : Nat} (h : HasCard (GM sz E) a) : a = ncd sz E := h.unique (Classical.epsilon_spec (p := HasCard (GM sz E)) ⟨a, h⟩)
noncomputable def aPairings (sz : Nat → Nat) (E : Nat → Nat → Bool) : Int64 := if 16 < sz 0 ∨ 16 < sz 1 then -3 else c64 (ncd sz E)
theorem fr_three {h1 h2 h3 : PH} (so : SO (x + 6) (x + 17) h h1) (so2 : SO (x + 17) (x + 22) h1 h2) (to : TO (x + 22) B h2 h3) : FR x B h h3 := fun lo hi q q2 =>
  ((so.ag (x := lo) (z := hi) (by omega)).trans (so2.ag (by omega))).trans (to.ag (by omega) (by omega))
theorem cu_tally {h2 h3 : PH} {cu : Nat} (hx : XL h2 x B) (hu : CU h2 x cu n U) (to : TO (x + 22) B h2 h3) : CU h3 x cu n U := by
  have := hx.2.2.2.2.2.2.2.2.2.1
  exact hu.ag (to.ag (by omega) (by omega))
theorem cg_tally {h2 h3 : PH} {cg L' : Nat} (hx : XL h2 x B) (hc2 : CG h2 x B L cg sz E) (pf2 : PF h2 (x + 6) 50 sz E) (bf : BF h2 (x + 17) sz E) (to : TO (x + 22) B h2 h3) (tw : TW h3 (x + 22) B L') (k6 : hI h3 (x + 22) 6 = hI h2 (x + 1) 3) (tf : TF h3 (x + 22) sz E) : CG h3 x B L' cg sz E := by
  have hB := hx.2.2.2.2.2.2.2.2.2.1
  obtain ⟨q1, q2, q3, q4, q5, q6, ⟨q7, q8⟩, ⟨q9, q10⟩, q11, q12⟩ := hc2
  have a1 : AG (x + 1) (x + 1 + 5) h2 h3 := to.ag (by omega) (by omega)
  have a6 : AG (x + 6) (x + 6 + 11) h2 h3 := to.ag (by omega) (by omega)
  have a17 : AG (x + 17) (x + 17 + 5) h2 h3 := to.ag (by omega) (by omega)
  have i1 : hI h3 (x + 1) 3 = hI h2 (x + 1) 3 := (a1 (x + 1) (by omega) (by omega)).2.2.2.1 3
  have i6 : hI h3 (x + 6) 8 = hI h2 (x + 6) 8 := (a6 (x + 6) (by omega) (by omega)).2.2.2.1 8
  have i17 : hI h3 (x + 17) 7 = hI h2 (x + 17) 7 := (a17 (x + 17) (by omega) (by omega)).2.2.2.1 7
  refine ⟨q1.ag a1, q2.ag a6, q3.ag a17, q4.to to, tw, i1.trans q6, ⟨by rw [i6]; exact q7, fun _ => pf2.ag a6⟩, ⟨by rw [i17]; exact q9, fun _ => bf.ag a17⟩, ?_, fun _ => tf⟩
  rw [k6, q6]; exact KN.self
theorem c_pairings (hk : COK h x B L K sz E n U) : ∃ mc ms L', (mc + L ≤ L' ∧ ms + 2 * L ≤ 2 * L' ∧ L' ≤ 65536) ∧ Ev G m_X5_pairings [.ref x] h mc ms (RJ (fun v h' => v = aPairings sz E ∧ FR x B h h' ∧ COK h' x B L' K sz E n U)) := by
  obtain ⟨hs, hn, hE, hRU, hU⟩ := n_lt hk
  obtain ⟨cg, cu, b1, b2, hx, hc, hu⟩ := id hk
  have h0 := hs 0 (by decide)
  have h1 := hs 1 (by decide)
  obtain ⟨x1, x2, x3, x4, x5, x6, x7, x8, x9, x10, x11⟩ := id hx
  have hL2 : L ≤ 65536 := by obtain ⟨_, _, _, _, _, _, e, z1, z2⟩ := hc.2.2.2.2.1; rw [z2]; exact pow_lt31 z1
  have e16 : (16 : Int32) = nI 16 := by decide
  by_cases hbig : 16 < sz 0 ∨ 16 < sz 1
  · refine ⟨0, 0, L, ⟨by omega, by omega, hL2⟩, ?_⟩
    refine Ev.of pn_X5_pairings (Nat.le_of_ble_eq_true rfl) ?_
    have ans : aPairings sz E = -3 := if_pos hbig
    have fin : (fun v h' => RJ (fun v h' => v = aPairings sz E ∧ FR x B h h' ∧ COK h' x B L K sz E n U) v h' ∧ hN h' = hN h + 0 ∧ hS h' = hS h + 0) (some (.long (-3))) h := ⟨⟨_, rfl, ans.symm, fun _ _ _ _ => AG.rf, hk⟩, rfl, rfl⟩
    refine s_X5_pairings_0 (x1 := nI (sz 0)) (x2 := nI (sz 1)) (P3 := fun _ => True) x1 (by rw [x2]; omega) (by rw [x2]; exact ev_sizeOf hc.1 (s := 0) (by decide)) (by rw [x2]; exact hc.1.1.1) (fun _ => fin) (fun _ => by rw [x2]; exact ev_sizeOf hc.1 (s := 1) (by decide)) (by rw [x3]; omega) (fun z1 z2 => ?_) (by rw [x3]; exact hc.2.1.1) (fun z1 z2 => ?_) (fun _ _ => fin)
    · rw [e16, nI_ltI (by decide) (by omega)] at z1
      rw [e16, nI_leI (by omega) (by decide)] at z2
      omega
    · rw [e16, nI_ltI (by decide) (by omega)] at z1
      rw [e16, nI_leI (by omega) (by decide)] at z2
      omega
  · have ans : aPairings sz E = c64 (ncd sz E) := if_neg hbig
    have hLp : ∃ e, e ≤ 16 ∧ L = 2 ^ e := by obtain ⟨_, _, _, _, _, _, z⟩ := hc.2.2.2.2.1; exact z
    obtain ⟨mc, ms, L', hb, ev⟩ := ev_refreshT (t := x + 22) (b := x + 17) (g := x + 1) (m := 50) (B := B) hE (by omega) (by omega) hLp (hI h (x + 22) 6 = nI cg)
    refine ⟨mc, ms, L', hb, ?_⟩
    refine Ev.of pn_X5_pairings (Nat.le_of_ble_eq_true rfl) ?_
    refine s_X5_pairings_0 (x1 := nI (sz 0)) (x2 := nI (sz 1)) x1 (by rw [x2]; omega) (by rw [x2]; exact ev_sizeOf hc.1 (s := 0) (by decide)) (by rw [x2]; exact hc.1.1.1) (fun z => ?_) (fun _ => by rw [x2]; exact ev_sizeOf hc.1 (s := 1) (by decide)) (by rw [x3]; omega) (fun _ _ => by rw [x3]; exact rf_P hc) (by rw [x3]; exact hc.2.1.1) (fun _ _ h1 q n1 s1 => ?_) (fun _ z => ?_)
    · rw [e16, nI_ltI (by decide) (by omega)] at z; omega
    · obtain ⟨so, hc1, pf⟩ := q
      obtain ⟨hx1, hu1, hk1⟩ := cok_P b1 b2 hx hu so hc1
      obtain ⟨y1, y2, y3, y4, -⟩ := id hx1
      refine s_X5_pairings_37 y1 (by rw [y4]; omega) (by rw [y4]; exact rf_B hc1 pf) (by rw [y4]; exact hc1.2.2.1.1) (fun h2 q2 n2 s2 => ?_)
      obtain ⟨so2, hc2, pf2, bf⟩ := q2
      obtain ⟨hx2, hu2, hk2⟩ := cok_B b1 b2 hx1 hu1 so2 hc2
      obtain ⟨w1, w2, w3, w4, w5, -⟩ := id hx2
      have i21 : hI h2 (x + 22) 6 = hI h (x + 22) 6 := by rw [(so2.2.2.2.2.2 (x + 22) (by omega)).1, (so.2.2.2.2.2 (x + 22) (by omega)).1]
      have g3 := hc2.2.2.2.2.2.1
      have ev2 := ev G h2 (x + 6) hc2.1 hc2.2.2.2.1 hc2.2.2.2.2.1 hc2.2.1 pf2 hc2.2.2.1 bf (by rw [i21, g3]) (fun z => hc2.2.2.2.2.2.2.2.2.2 (i21.trans z))
      refine s_X5_pairings_44 w1 (by rw [w5]; omega) (by rw [n2, n1]; exact Nat.le_refl _) (by rw [s2, s1]; exact Nat.le_refl _) (by rw [w5]; exact ev2) (by rw [w5]; exact hc2.2.2.2.1.1) (fun h3 q3 n3 s3 => ?_)
      obtain ⟨to, tw, k6, a, ha, h5⟩ := q3
      have hT3 := hc2.2.2.2.1.to to
      have hx3 := hx2.to to
      obtain ⟨v1, v2, v3, v4, v5, -⟩ := id hx3
      refine s_X5_pairings_51 (x1 := hJ h3 (x + 22) 5) v1 (by rw [v5]; exact ne_add x 21) (by rw [v5]; exact ev_total hT3) (by rw [v5]; exact hT3.1) ?_
      have ea : hJ h3 (x + 22) 5 = aPairings sz E := by
        rw [ans, ← ncd_eq ha]; exact h5
      have en : hN h3 = hN h + mc := by rw [n3, n2, n1]
      have es : hS h3 = hS h + ms := by rw [s3, s2, s1]
      refine ⟨⟨hJ h3 (x + 22) 5, rfl, ea, fun lo hi q q2 => ?_, ?_⟩, en, es⟩
      · exact fr_three so so2 to lo hi q q2
      · exact ⟨cg, cu, b1, b2, hx3, cg_tally hx2 hc2 pf2 bf to tw k6 ⟨a, ha, h5⟩, cu_tally hx2 hu2 to⟩
    · rw [e16, nI_leI (by omega) (by decide)] at z; omega
