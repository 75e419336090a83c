variable {G : GG} {h h' : PH} {y n : Nat} {sz : Nat → Nat} {E U : Nat → Nat → Bool}
theorem cnt_plus (a : Nat) (p : Nat → Bool) : ∀ b, cnt (a + b) p = cnt a p + cnt b (fun j => p (a + j))
  | 0 => rfl
  | b + 1 => by
    rw [← Nat.add_assoc, cnt_s, cnt_plus a p b, cnt_s]; omega
theorem eC_rows (l : Nat) : cnt (50 * l) (fun i => E (i / 50) (i % 50)) = eC E 50 l := by
  induction l with
  | zero => rfl
  | succ l ih =>
    rw [show 50 * (l + 1) = 50 * l + 50 by omega, cnt_plus, ih]
    show _ = eC E 50 l + cnt 50 (E l)
    congr 1
    refine cnt_congr (fun j hj => ?_)
    rw [show (50 * l + j) / 50 = l by omega, show (50 * l + j) % 50 = j by omega]
theorem eC_cut (hE : Rg (sz 0) (sz 1) E) (h0 : sz 0 ≤ 50) (h1 : sz 1 ≤ 50) : eC E 50 50 = eC E (sz 1) (sz 0) := by
  have a : ∀ l, eC E 50 l = eC E (sz 1) l := by
    intro l
    induction l with
    | zero => rfl
    | succ l ih =>
      show eC E 50 l + cnt 50 (E l) = eC E (sz 1) l + cnt (sz 1) (E l)
      rw [ih, cnt_cut h1 (fun i hi _ => by
        cases e : E l i
        · rfl
        · have := (hE _ _ e).2; omega)]
  have b : ∀ d, eC E (sz 1) (sz 0 + d) = eC E (sz 1) (sz 0) := by
    intro d
    induction d with
    | zero => rfl
    | succ d ih =>
      show eC E (sz 1) (sz 0 + d) + cnt (sz 1) (E (sz 0 + d)) = _
      rw [ih, cnt_zero.2 (fun i _ => by
        cases e : E (sz 0 + d) i
        · rfl
        · have := (hE _ _ e).1; omega)]; rfl
  rw [a 50]
  have := b (50 - sz 0)
  rw [show sz 0 + (50 - sz 0) = 50 by omega] at this
  exact this
theorem m_edgesMany (hm : ML h y) (hg : MG h y sz E) : Ev G m_X6_edgesMany [.ref y] h 0 0 (Ret (some (.int (nI (eC E (sz 1) (sz 0))))) h) := by
  obtain ⟨g1, g2, g3, g4, g5, g6⟩ := id hg
  obtain ⟨r2, k2, l2⟩ := hm.r 2 1 4 2500 (by decide)
  have y0 := hm.2.1
  have e2500 : (2500 : Int32) = nI 2500 := by decide
  refine Ev.of pn_X6_edgesMany (Nat.le_of_ble_eq_true rfl) ?_
  refine s_X6_edgesMany_0 ?_
  have loop : ∀ d k, k + d = 2500 → RR G (hN h + 0) (hS h + 0) m_X6_edgesMany 4 [some (.ref y), some (.int (nI (cnt k (fun i => E (i / 50) (i % 50))))), some (.int (nI k))] [] h (fun v h' => Ret (some (.int (nI (eC E (sz 1) (sz 0))))) h v h' ∧ hN h' = hN h + 0 ∧ hS h' = hS h + 0) := by
    intro d
    induction d with
    | zero =>
      intro k e
      have e : k = 2500 := by omega
      subst e
      have no : ¬ (2500 : Int32) ≤ nI 2500 → False := fun z => z (by decide)
      refine s_X6_edgesMany_4 (fun _ => ?_) hm.1 (by rw [r2]; omega) (by rw [r2]; exact k2) (fun z => (no z).elim) (fun z => (no z).elim) (fun z => (no z).elim)
      have : cnt 2500 (fun i => E (i / 50) (i % 50)) = eC E (sz 1) (sz 0) := (eC_rows 50).trans (eC_cut g6 g3 g4)
      rw [this]; exact Zok
    | succ d ih =>
      intro k e
      have ck : Int32.toNatClampNeg (nI k) = k := nI_clamp (by omega)
      have v : hI h (y + 1) k = b2i (E (k / 50) (k % 50)) := by
        have := g5 (k / 50) (k % 50) (by omega) (by omega)
        rw [show 50 * (k / 50) + k % 50 = k by omega] at this; exact this
      have cs : cnt (k + 1) (fun i => E (i / 50) (i % 50)) = cnt k (fun i => E (i / 50) (i % 50)) + (E (k / 50) (k % 50)).toNat := cnt_s k _
      refine s_X6_edgesMany_4 (fun z => absurd z (by rw [e2500]; exact nI_ge (by omega) (by decide))) hm.1 (by rw [r2]; omega) (by rw [r2]; exact k2) (fun _ => by rw [r2, l2]; exact vp_in_nI (by omega) (by decide)) (fun _ z => ?_) (fun _ z => ?_)
      · rw [r2, ck, v, b2i_0] at z
        rw [z] at cs
        rw [nI_1]
        have := ih (k + 1) (by omega)
        rw [cs] at this; exact this
      · rw [r2, ck, v, b2i_n] at z
        rw [z] at cs
        rw [nI_1, nI_1]
        have := ih (k + 1) (by omega)
        rw [cs] at this; exact this
  exact loop 2500 0 (by omega)
theorem m_inPart (hm : ML h y) (hg : MG h y sz E) (hw : W2 h y sz E) {q : Nat} (hq : q < 3) : Ev G m_X6_inPart [.ref y, .int (nI q)] h 0 0 (Ret (some (.int (nI (inPrt sz E q)))) h) := by
  obtain ⟨g1, g2, g3, g4, g5, g6⟩ := id hg
  obtain ⟨r9, k9, l9⟩ := hm.r 9 6 2 50 (by decide)
  obtain ⟨r10, k10, l10⟩ := hm.r 10 7 2 50 (by decide)
  have y0 := hm.2.1
  have pq : ∀ s, s < 2 → ∀ i, (nI (prt sz E s i) = nI q ↔ prt sz E s i = q) := fun s hs i => by
    have hp : prt sz E s i ≤ 2 := by rcases prt_cases sz E s i with q | q | q <;> omega
    exact nI_eq (by omega) (by omega)
  refine Ev.of pn_X6_inPart (Nat.le_of_ble_eq_true rfl) ?_
  refine s_X6_inPart_0 ?_
  have right : ∀ d k, k + d = sz 1 → RR G (hN h + 0) (hS h + 0) m_X6_inPart 38 [some (.ref y), some (.int (nI q)), some (.int (nI (cnt (sz 0) (fun i => decide (prt sz E 0 i = q)) + cnt k (fun i => decide (prt sz E 1 i = q))))), some (.int (nI k))] [] h (fun v h' => Ret (some (.int (nI (inPrt sz E q)))) h v h' ∧ hN h' = hN h + 0 ∧ hS h' = hS h + 0) := by
    intro d
    induction d with
    | zero =>
      intro k e
      have e : k = sz 1 := by omega
      subst e
      have no : ¬ hI h y 1 ≤ nI (sz 1) → False := fun z => z (by rw [g2]; exact nI_le (Nat.le_refl _) (by omega))
      exact s_X6_inPart_38 hm.1 (fun _ => Zok) (by rw [r10]; omega) (by rw [r10]; exact k10) (fun z => (no z).elim) (fun z => (no z).elim) (fun z => (no z).elim)
    | succ d ih =>
      intro k e
      have hk : k < sz 1 := by omega
      have ck : Int32.toNatClampNeg (nI k) = k := nI_clamp (by omega)
      have cs : cnt (k + 1) (fun i => decide (prt sz E 1 i = q)) = cnt k (fun i => decide (prt sz E 1 i = q)) + (decide (prt sz E 1 k = q)).toNat := cnt_s k _
      have := ih (k + 1) (by omega)
      refine s_X6_inPart_38 hm.1 (fun z => absurd z (by rw [g2]; exact nI_ge hk (by omega))) (by rw [r10]; omega) (by rw [r10]; exact k10) (fun _ => by rw [r10, l10]; exact vp_in_nI (by omega) (by decide)) (fun _ z => ?_) (fun _ z => ?_)
      · rw [r10, ck, hw.2 k hk, pq 1 (by decide)] at z
        rw [decide_eq_false z] at cs
        rw [cs] at this
        rw [nI_1]; exact this
      · rw [r10, ck, hw.2 k hk, pq 1 (by decide)] at z
        rw [decide_eq_true z] at cs
        rw [cs] at this
        rw [nI_1, nI_1]; exact this
  have left : ∀ d k, k + d = sz 0 → RR G (hN h + 0) (hS h + 0) m_X6_inPart 4 [some (.ref y), some (.int (nI q)), some (.int (nI (cnt k (fun i => decide (prt sz E 0 i = q))))), some (.int (nI k))] [] h (fun v h' => Ret (some (.int (nI (inPrt sz E q)))) h v h' ∧ hN h' = hN h + 0 ∧ hS h' = hS h + 0) := by
    intro d
    induction d with
    | zero =>
      intro k e
      have e : k = sz 0 := by omega
      subst e
      have no : ¬ hI h y 0 ≤ nI (sz 0) → False := fun z => z (by rw [g1]; exact nI_le (Nat.le_refl _) (by omega))
      exact s_X6_inPart_4 hm.1 (fun _ => right (sz 1) 0 (by omega)) (by rw [r9]; omega) (by rw [r9]; exact k9) (fun z => (no z).elim) (fun z => (no z).elim) (fun z => (no z).elim)
    | succ d ih =>
      intro k e
      have hk : k < sz 0 := by omega
      have ck : Int32.toNatClampNeg (nI k) = k := nI_clamp (by omega)
      have cs : cnt (k + 1) (fun i => decide (prt sz E 0 i = q)) = cnt k (fun i => decide (prt sz E 0 i = q)) + (decide (prt sz E 0 k = q)).toNat := cnt_s k _
      have := ih (k + 1) (by omega)
      refine s_X6_inPart_4 hm.1 (fun z => absurd z (by rw [g1]; exact nI_ge hk (by omega))) (by rw [r9]; omega) (by rw [r9]; exact k9) (fun _ => by rw [r9, l9]; exact vp_in_nI (by omega) (by decide)) (fun _ z => ?_) (fun _ z => ?_)
      · rw [r9, ck, hw.1 k hk, pq 0 (by decide)] at z
        rw [decide_eq_false z] at cs
        rw [cs] at this
        rw [nI_1]; exact this
      · rw [r9, ck, hw.1 k hk, pq 0 (by decide)] at z
        rw [decide_eq_true z] at cs
        rw [cs] at this
        rw [nI_1, nI_1]; exact this
  exact left (sz 0) 0 (by omega)
theorem aC_out {w : Int32} (q : w < 0 ∨ 11 < w) : aCount sz E n U w = -1 := by
  unfold aCount
  have ne : ∀ v : Int32, (0 ≤ v ∧ v ≤ 11) → w ≠ v := by
    intro v hv e
    subst e
    have q2 : w.toInt < 0 ∨ 11 < w.toInt := by
      rcases q with q | q
      · exact Or.inl (Int32.lt_iff_toInt_lt.1 q)
      · exact Or.inr (Int32.lt_iff_toInt_lt.1 q)
    have a1 : 0 ≤ w.toInt := Int32.le_iff_toInt_le.1 hv.1
    have a2 : w.toInt ≤ 11 := Int32.le_iff_toInt_le.1 hv.2
    omega
  rw [if_neg (ne 0 (by decide)), if_neg (ne 1 (by decide)), if_neg (ne 2 (by decide)), if_neg (ne 3 (by decide)), if_neg (ne 4 (by decide)), if_neg (ne 5 (by decide)), if_neg (ne 6 (by decide)), if_neg (ne 7 (by decide)), if_neg (ne 8 (by decide)), if_neg (ne 9 (by decide)), if_neg (ne 10 (by decide)), if_neg (ne 11 (by decide))]
theorem i32_11 {w : Int32} (h1 : ¬ w < 0) (h2 : w ≤ 11) (h3 : w < 0 ∨ 10 < w) : w = 11 := by
  have a1 : ¬ w.toInt < 0 := fun z => h1 (Int32.lt_iff_toInt_lt.2 z)
  have a2 : w.toInt ≤ 11 := Int32.le_iff_toInt_le.1 h2
  have a3 : w.toInt < 0 ∨ 10 < w.toInt := by
    rcases h3 with q | q
    · exact Or.inl (Int32.lt_iff_toInt_lt.1 q)
    · exact Or.inr (Int32.lt_iff_toInt_lt.1 q)
  exact Int32.toInt_inj.1 (show w.toInt = (11 : Int32).toInt by rw [show (11 : Int32).toInt = 11 by decide]; omega)
theorem r_count (hk : MOK h y sz E n U) (w : Int32) : Ev G m_X6_count [.ref y, .int w] h 0 0 (RI (RM2 h y sz E n U (aCount sz E n U w))) := by
  obtain ⟨hs, hE, hn, hRU, hU⟩ := hk.lt
  refine Ev.of pn_X6_count (Nat.le_of_ble_eq_true rfl) ?_
  have high : ∀ h1, ¬ w < 0 → w ≤ 11 → SO y (y + 27) h h1 → MOK h1 y sz E n U → (¬ w ≤ 8 → MT h1 y n U) → (w < 0 ∨ 10 < w) → RR G (hN h + 0) (hS h + 0) m_X6_count 145 [some (.ref y), some (.int w), some (.int 0), some (.int 0)] [] h1 (fun v h' => RI (RM2 h y sz E n U (aCount sz E n U w)) v h' ∧ hN h' = hN h + 0 ∧ hS h' = hS h + 0) := by
    intro h1 z1 z2 so hk1 hmt z3
    have e := i32_11 z1 z2 z3
    subst e
    have mtx := hmt (by decide)
    have hm := hk1.1.1
    have y0 := hm.2.1
    have u1 := hk1.2.2.1.1
    obtain ⟨r23, k23, l23⟩ := hm.r 23 14 2 40 (by decide)
    have loop : ∀ d k H, k + d = n → (∀ t, t < k → lev n U t < H) → (0 < H → ∃ t, t < k ∧ lev n U t + 1 = H) → RR G (hN h + 0) (hS h + 0) m_X6_count 145 [some (.ref y), some (.int 11), some (.int (nI H)), some (.int (nI k))] [] h1 (fun v h' => RI (RM2 h y sz E n U (aCount sz E n U 11)) v h' ∧ hN h' = hN h + 0 ∧ hS h' = hS h + 0) := by
      intro d
      induction d with
      | zero =>
        intro k H e a1 a2
        have e : k = n := by omega
        subst e
        have no : ¬ hI h1 y 17 ≤ nI k → False := fun z => z (by rw [u1]; exact nI_le (Nat.le_refl _) (by omega))
        refine s_X6_count_145 hm.1 (fun _ => rm_fin ?_ so hk1) (by rw [r23]; omega) (by rw [r23]; exact k23) (fun z => (no z).elim) (fun z => (no z).elim) (fun z => (no z).elim)
        rw [hgh_eq (show isHigh k U H from ⟨a1, a2⟩)]; rfl
      | succ d ih =>
        intro k H e a1 a2
        have hkn : k < n := by omega
        have ck : Int32.toNatClampNeg (nI k) = k := nI_clamp (by omega)
        have lk := lev_lt hU hkn
        have hH : H < 100 := by
          rcases Nat.eq_zero_or_pos H with z | z
          · omega
          · obtain ⟨t, t1, t2⟩ := a2 z
            have := lev_lt hU (show t < n by omega)
            omega
        have v : hI h1 (y + 14) k = nI (lev n U k) := (mtx.2.1 k hkn).2.2.1
        refine s_X6_count_145 hm.1 (fun z => absurd z (by rw [u1]; exact nI_ge hkn (by omega))) (by rw [r23]; omega) (by rw [r23]; exact k23) (fun _ => by rw [r23, l23]; exact vp_in_nI (by omega) (by decide)) (fun _ z => ?_) (fun _ z => ?_)
        · rw [r23, ck, v, nI_1, nI_leI (by omega) (by omega)] at z
          rw [nI_1]
          refine ih (k + 1) H (by omega) (fun t ht => ?_) (fun z0 => ?_)
          · by_cases et : t = k
            · rw [et]; omega
            · exact a1 t (by omega)
          · obtain ⟨t, t1, t2⟩ := a2 z0; exact ⟨t, by omega, t2⟩
        · rw [r23, ck, v, nI_1, nI_leI (by omega) (by omega)] at z
          rw [r23, ck, v, nI_1, nI_1]
          refine ih (k + 1) (lev n U k + 1) (by omega) (fun t ht => ?_) (fun _ => ⟨k, by omega, rfl⟩)
          by_cases et : t = k
          · rw [et]; omega
          · have := a1 t (by omega); omega
    have := loop n 0 0 (by omega) (fun t ht => absurd ht (by omega)) (fun z => absurd z (by omega))
    exact this
  have main : ∀ h1, ¬ w < 0 → w ≤ 11 → SO y (y + 27) h h1 → MOK h1 y sz E n U → (w ≤ 8 → MW h1 y sz E) → (¬ w ≤ 8 → MT h1 y n U) → RR G (hN h + 0) (hS h + 0) m_X6_count 29 [some (.ref y), some (.int w), none, none] [] h1 (fun v h' => RI (RM2 h y sz E n U (aCount sz E n U w)) v h' ∧ hN h' = hN h + 0 ∧ hS h' = hS h + 0) := by
    intro h1 z1 z2 so hk1 hmw hmt
    have hm := hk1.1.1
    have g := hk1.1.2.1
    have fin : ∀ v c : Int32, w = c → v = aCount sz E n U c → (fun v h' => RI (RM2 h y sz E n U (aCount sz E n U w)) v h' ∧ hN h' = hN h + 0 ∧ hS h' = hS h + 0) (some (.int v)) h1 := fun v c e1' e2' => rm_fin (by rw [e1']; exact e2') so hk1
    have ip : ∀ q, q < 3 → w ≤ 8 → w - 5 = nI q → Ev G m_X6_inPart [.ref y, .int (w - 5)] h1 0 0 (Ret (some (.int (nI (inPrt sz E q)))) h1) := fun q hq hw e => by rw [e]; exact m_inPart hm g (hmw hw).2.2.2.1 hq
    refine s_X6_count_29 (x1 := nI (eC E (sz 1) (sz 0))) (x2 := nI (inPrt sz E 0)) (x3 := nI (inPrt sz E 1)) (x4 := nI (inPrt sz E 2)) (fun z => high h1 z1 z2 so hk1 hmt z) hm.1 (fun z => fin _ 0 z g.1) (fun z => fin _ 1 z g.2.1) (fun _ => m_edgesMany hm g) (fun z => fin _ 2 z rfl) (fun z => ?_) (fun z => ?_) (fun z => ip 0 (by decide) (by rw [z]; decide) (by rw [z]; decide)) (fun z => fin _ 5 z rfl) (fun z => ip 1 (by decide) (by rw [z]; decide) (by rw [z]; decide)) (fun z => fin _ 6 z rfl) (fun z => ip 2 (by decide) (by rw [z]; decide) (by rw [z]; decide)) (fun z => fin _ 7 z rfl) (fun z => ?_) (fun z => fin _ 9 z hk1.2.2.1.1) (fun z => ?_)
    · exact fin _ 3 z (hmw (by rw [z]; decide)).1
    · exact fin _ 4 z (by rw [g.1, (hmw (by rw [z]; decide)).1]; rfl)
    · exact fin _ 8 z (hmw (by rw [z]; decide)).2.2.2.2.1.2.1
    · exact fin _ 10 z (hmt (by rw [z]; decide)).1
  refine s_X6_count_0 (fun z => rm_fin (aC_out (Or.inl z)).symm SO.rf hk) (fun _ _ _ => w_work hk) hk.1.1.1 (fun z1 z2 z3 h1 q _ _ => main h1 z1 z2 q.1 q.2.1 (fun _ => q.2.2) (fun z => (z z3).elim)) (fun _ _ _ => w_workT hk) (fun z1 z2 z3 h1 q _ _ => s_X6_count_22 (main h1 z1 z2 q.1 q.2.1 (fun z => (z3 z).elim) (fun _ => q.2.2))) (fun _ z => rm_fin (aC_out (Or.inr (Int32.not_le.1 z))).symm SO.rf hk)
theorem r_thing (hk : MOK h y sz E n U) : Ev G m_X6_thing [.ref y] h 0 0 (RI (RM2 h y sz E (sThing n) U (aThing n))) := by
  obtain ⟨hg, hm, ⟨u1, u2, u3, u4, u5⟩, h01, hfr⟩ := id hk
  refine Ev.of pn_X6_thing (Nat.le_of_ble_eq_true rfl) ?_
  have f40 : hI h y 17 = 40 ↔ n = 40 := by rw [u1, show (40 : Int32) = nI 40 by decide]; exact nI_eq (by omega) (by decide)
  refine s_X6_thing_0 hm.1 (fun z => ?_) (fun z => ?_)
  · rw [f40] at z
    have es : sThing n = n + 1 := if_neg z
    have aT : aThing n = nI n := if_neg z
    have e : hI (sI (sI h y 17 ((hI h y 17) + 1)) y 19 0) y 17 = nI (n + 1) := by rw [sI_nk (by decide), sI_eq, u1, nI_1]
    rw [e, nI_pred, es, aT]
    have eo : EO y [] [17, 19] h (sI (sI h y 17 ((hI h y 17) + 1)) y 19 0) := (EO.s0 (by decide)).trans (EO.s0 (by decide))
    exact rm_fin rfl eo.so ⟨hg.eo eo (by decide), hm.eo eo, ⟨e, by omega, u3.eo eo rfl, fun a b q => by have := u4 a b q; omega, u5⟩, Or.inl sI_eq, fun w => (w sI_eq).elim⟩
  · rw [f40] at z
    have es : sThing n = n := if_pos z
    have aT : aThing n = -2 := if_pos z
    rw [es, aT]
    exact rm_fin rfl SO.rf hk
theorem in2 {a b : Int32} (hn : n ≤ 40) (ha : inB a n = true) (hb : inB b n = true) : ∃ i j, i < n ∧ j < n ∧ a = nI i ∧ b = nI j ∧ ct a = i ∧ ct b = j := by
  obtain ⟨i, hi, ea⟩ := in_ex (by omega) ha
  obtain ⟨j, hj, eb⟩ := in_ex (by omega) hb
  exact ⟨i, j, hi, hj, ea, eb, by rw [ea]; exact ct_nI (by omega), by rw [eb]; exact ct_nI (by omega)⟩
theorem r_below (hk : MOK h y sz E n U) (a b : Int32) : Ev G m_X6_below [.ref y, .int a, .int b] h 0 0 (RI (RM2 h y sz E n U (aBelow n U a b))) := by
  obtain ⟨hg, hm, ⟨u1, u2, u3, u4, u5⟩, h01, hfr⟩ := id hk
  obtain ⟨r18, k18, l18⟩ := hm.r 18 11 4 2500 (by decide)
  have y0 := hm.2.1
  refine Ev.of pn_X6_below (Nat.le_of_ble_eq_true rfl) ?_
  have fin : ∀ c : Bool, jn (fun _ => n) U a b = c → (fun v h' => RI (RM2 h y sz E n U (aBelow n U a b)) v h' ∧ hN h' = hN h + 0 ∧ hS h' = hS h + 0) (some (.int (b2i c))) h := fun c e => rm_fin (by unfold aBelow; rw [e]) SO.rf hk
  have na : inB a n = false → jn (fun _ => n) U a b = false := fun e => by unfold jn; rw [e]; rfl
  have nb : inB b n = false → jn (fun _ => n) U a b = false := fun e => by unfold jn; rw [e]; simp
  have pos : ¬ a < 0 → ¬ hI h y 17 ≤ a → ¬ b < 0 → ¬ hI h y 17 ≤ b → ∃ i j, i < n ∧ j < n ∧ (50 : Int32) * a + b = nI (50 * i + j) ∧ jn (fun _ => n) U a b = U i j := by
    intro z1 z2 z3 z4
    rw [u1, ge_in (by omega) z1] at z2
    rw [u1, ge_in (by omega) z3] at z4
    have z2 : inB a n = true := by simpa using z2
    have z4 : inB b n = true := by simpa using z4
    obtain ⟨i, j, hi, hj, ea, eb, ca, cb⟩ := in2 u2 z2 z4
    exact ⟨i, j, hi, hj, by rw [ea, eb]; exact idx50 (by omega) (by omega), by unfold jn; rw [z2, z4, ca, cb]; rfl⟩
  refine s_X6_below_0 (fun z => fin false (na (neg_in z))) hm.1 (fun z1 z2 => ?_) (fun _ _ z => fin false (nb (neg_in z))) (fun _ _ z1 z2 => ?_) (by rw [r18]; omega) (by rw [r18]; exact k18) (fun z1 z2 z3 z4 => ?_) (fun z1 z2 z3 z4 z5 => ?_) (fun z1 z2 z3 z4 z5 => ?_)
  · rw [u1, ge_in (by omega) z1] at z2
    exact fin false (na z2)
  · rw [u1, ge_in (by omega) z1] at z2
    exact fin false (nb z2)
  · obtain ⟨i, j, hi, hj, e, _⟩ := pos z1 z2 z3 z4
    rw [r18, l18, e]; exact vp_in_nI (by omega) (by decide)
  · obtain ⟨i, j, hi, hj, e, ej⟩ := pos z1 z2 z3 z4
    rw [r18, e, nI_clamp (by omega), u3 i j (by omega) (by omega), b2i_0] at z5
    exact fin false (by rw [ej]; exact z5)
  · obtain ⟨i, j, hi, hj, e, ej⟩ := pos z1 z2 z3 z4
    rw [r18, e, nI_clamp (by omega), u3 i j (by omega) (by omega), b2i_n] at z5
    exact fin true (by rw [ej]; exact z5)
