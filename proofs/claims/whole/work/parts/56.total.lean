variable {G : GG} {h : PH} {t b g p m B L : Nat} {sz : Nat → Nat} {E : Nat → Nat → Bool} {f f' : Nat → Option Nat}
/-- the total of the tally is how many greatest pairings there are -/
def TF (h : PH) (t : Nat) (sz : Nat → Nat) (E : Nat → Nat → Bool) : Prop := ∃ a, HasCard (GM sz E) a ∧ hJ h t 5 = c64 a
def dn (sz : Nat → Nat) (W : Int64) (l : Nat) : Bool := decide (l < sz 0) && !bt W l
theorem lW_le {C : Nat} (h : ∃ e, e ≤ 16 ∧ L = 2 ^ e) : mcW L C + L ≤ lW L C ∧ msW L C + 2 * L ≤ 2 * lW L C := by
  obtain ⟨e, h1, h2⟩ := h
  unfold mcW msW lW
  by_cases q : L < 2 ^ C
  · rw [if_pos q, if_pos q, if_pos q]
    have hp : 0 < 2 ^ C := Nat.two_pow_pos C
    have : e < C := by
      rcases Nat.lt_or_ge e C with z | z
      · exact z
      · have := Nat.pow_le_pow_right (n := 2) (by decide) z
        omega
    have h3 := Nat.pow_le_pow_right (n := 2) (by decide) (show e + 1 ≤ C from this)
    rw [Nat.pow_succ] at h3
    omega
  · rw [if_neg q, if_neg q, if_neg q]; omega
theorem dn_card (hE : Rg (sz 0) (sz 1) E) {k : Nat} {W : Int64} (hk : k < sz 0) (h0 : sz 0 ≤ 16) : dn sz (W &&& (ofP (Cl (sh sz E) k) ^^^ (-1))) = fun l => pcs sz E k l || dn sz W l := by
  funext l
  unfold dn
  rw [bt_andn]
  by_cases hl : l < sz 0
  · have bx : bt (ofP (Cl (sh sz E) k)) l = pcs sz E k l := dc_eq (by rw [bt_ofP]; exact ⟨fun z => z.2, fun z => ⟨by omega, z⟩⟩)
    rw [bx, decide_eq_true hl]
    cases bt W l <;> cases pcs sz E k l <;> rfl
  · have : pcs sz E k l = false := dc_no.2 (fun z => hl (cl_sh_lt hE hk z))
    rw [decide_eq_false hl, this]; rfl
theorem dn_apart (hE : Rg (sz 0) (sz 1) E) {k : Nat} {W : Int64} (hk : bt W k = true) (hD : Cls sz E (dn sz W)) (l : Nat) (h1 : pcs sz E k l = true) (h2 : dn sz W l = true) : False := by
  have : dn sz W l = false := by
    refine dc_iff.1 h1 (fun x => dn sz W x = false) (by show (_ && !bt W k) = false; rw [hk, Bool.not_true, Bool.and_false]) ?_
    rintro x y hx ⟨r, z1, z2⟩
    cases e : dn sz W y
    · rfl
    · rw [hD y x r e z2 z1] at hx; cases hx
  rw [this] at h2; cases h2
theorem rt_loop (hE : Rg (sz 0) (sz 1) E) (h0 : sz 0 ≤ 16) (h1 : sz 1 ≤ 16) (hf : Great (sz 0) E f f') : ∀ d k (W : Int64) L, k + d = sz 0 → (∃ e, e ≤ 16 ∧ L = 2 ^ e) → Cls sz E (dn sz W) → (∀ l, l < k → bt W l = false) →
    ∃ mc ms L', (mc + L ≤ L' ∧ ms + 2 * L ≤ 2 * L' ∧ L' ≤ 65536) ∧ ∀ (G : GG) (nc ns : Nat) (Z : Option Value → PH → Prop) (h1 : PH) (a : Nat), GS h1 g m sz E → TL h1 t b g B → TW h1 t B L → TU h1 t sz E → HasCard (MS (UQ sz E (dn sz W)) (sz 0) (siz (sz 0) (res (dn sz W) f))) a → hJ h1 t 5 = c64 a → hN h1 + mc ≤ nc → hS h1 + ms ≤ ns →
      (∀ h2, TO t B h1 h2 → TW h2 t B L' → (∀ j, hI h2 t j = hI h1 t j) → TF h2 t sz E → hN h2 = hN h1 + mc → hS h2 = hS h1 + ms → Z none h2) →
      RR G nc ns m_X4_refresh 72 [some (.ref t), some (.long W), none, some (.int (nI k)), none, none] [] h1 Z := by
  intro d
  induction d with
  | zero =>
    intro k W L e hL hD hW
    have e : k = sz 0 := by omega
    subst e
    have hL2 : L ≤ 65536 := by obtain ⟨e, z1, z2⟩ := hL; rw [z2]; exact pow_lt31 z1
    refine ⟨0, 0, L, ⟨by omega, by omega, hL2⟩, ?_⟩
    intro G nc ns Z h1 a hg hT hTW hU hc h5 hnc hns hz
    have no : ¬ nI (sz 0) ≤ nI (sz 0) → False := fun z => z (nI_le (Nat.le_refl _) (by omega))
    refine s_X4_refresh_72 (x1 := nI (sz 0)) (x2 := 0) (x3 := 0) (mc4 := 0) (ms4 := 0) (P4 := fun _ _ => True) (ev_lefts hT hg h0) hT.1 (fun _ => ?_) (fun z => (no z).elim) (fun z => (no z).elim) (fun z => (no z).elim) hnc hns (fun z => (no z).elim) (fun z => (no z).elim)
    refine hz h1 TO.rf hTW (fun _ => rfl) ⟨a, card_all hE hf (fun i hi => ?_) hc, h5⟩ rfl rfl
    unfold dn
    rw [decide_eq_true hi, hW i hi]; rfl
  | succ d ih =>
    intro k W L e hL hD hW
    have hk : k < sz 0 := by omega
    have no : nI (sz 0) ≤ nI k → False := nI_ge hk (by omega)
    cases ew : bt W k
    · obtain ⟨mc, ms, L', hb, K⟩ := ih (k + 1) W L (by omega) hL hD (fun l hl => by
        by_cases el : l = k
        · rw [el]; exact ew
        · exact hW l (by omega))
      refine ⟨mc, ms, L', hb, ?_⟩
      intro G nc ns Z h1 a hg hT hTW hU hc h5 hnc hns hz
      refine s_X4_refresh_72 (x1 := nI (sz 0)) (x2 := if bt W k then 1 else 0) (x3 := 0) (mc4 := 0) (ms4 := 0) (P4 := fun _ _ => True) (ev_lefts hT hg h0) hT.1 (fun z => (no z).elim) (fun _ => ev_contains _ (by omega)) (fun _ _ => ?_) (fun _ z => (z (by rw [ew]; rfl)).elim) (by omega) (by omega) (fun _ z => (z (by rw [ew]; rfl)).elim) (fun _ z => (z (by rw [ew]; rfl)).elim)
      rw [nI_1]
      exact K G nc ns Z h1 a hg hT hTW hU hc h5 hnc hns hz
    · have nP : cnt (sz 0) (pcs sz E k) ≤ sz 0 := cnt_le _ _
      have nR : cnt (sz 1) (prs sz E k) ≤ sz 1 := cnt_le _ _
      have hC : pcC sz E k ≤ 16 := by unfold pcC; split <;> omega
      obtain ⟨l1, l2⟩ := lW_le (C := pcC sz E k) hL
      obtain ⟨mc, ms, L', hb, K⟩ := ih (k + 1) (W &&& (ofP (Cl (sh sz E) k) ^^^ (-1))) (lW L (pcC sz E k)) (by omega) (lW_pow hC hL) (by rw [dn_card hE hk h0]; exact cls_or pcs_cls hD) (fun l hl => by
        rw [bt_andn]
        by_cases el : l = k
        · have : bt (ofP (Cl (sh sz E) k)) l = true := bt_ofP.2 ⟨by omega, by rw [el]; exact Cl.rf⟩
          rw [this]; simp
        · rw [hW l (by omega)]; rfl)
      refine ⟨mcW L (pcC sz E k) + mc, msW L (pcC sz E k) + ms, L', ⟨by omega, by omega, hb.2.2⟩, ?_⟩
      intro G nc ns Z h1' a hg hT hTW hU hc h5 hnc hns hz
      refine s_X4_refresh_72 (x1 := nI (sz 0)) (x2 := if bt W k then 1 else 0) (x3 := ofP (Cl (sh sz E) k)) (mc4 := mcW L (pcC sz E k)) (ms4 := msW L (pcC sz E k)) (ev_lefts hT hg h0) hT.1 (fun z => (no z).elim) (fun _ => ev_contains _ (by omega)) (fun _ z => ?_) (fun _ _ => ev_pieceOf hT hg h0 hU hk) (by omega) (by omega) (fun _ _ => ev_waysToPair hT hTW hg h0 h1 hU hf hk) (fun _ _ x4 h4 q n4 s4 => ?_)
      · rw [ew] at z; cases z
      · obtain ⟨q1, q2, q3, q4, q5, a', q6, q7⟩ := q
        have hT4 := hT.to q1
        obtain ⟨a1, a2, a3, a4, a5, a6, a7, a8, a9, a10, a11, a12, a13⟩ := id hT4
        refine s_X4_refresh_115 a1 ?_
        have so : SO t (t + 1) h4 (sJ h4 t 5 (hJ h1' t 5 * x4)) := SO.sJ (Nat.le_refl _) (by omega)
        have to2 : TO t B h4 (sJ h4 t 5 (hJ h1' t 5 * x4)) := so.to (by omega)
        rw [nI_1]
        refine K G nc ns Z _ (a' * a) (hg.ag ((q1.trans to2).ag (by omega) (by omega))) (hT4.to to2) (q5.so so) (fun l hl => ?_) ?_ ?_ ?_ ?_ (fun h2 to3 tw3 ii tf n3 s3 => ?_)
        · rw [(so.2.2.2.2.2 (t + 1) (by omega)).2, q4 l]; exact hU l hl
        · rw [dn_card hE hk h0]
          exact card_or pcs_cls hD (dn_apart hE ew hD) hf q6 hc
        · rw [hJ_sJ, if_pos ⟨rfl, rfl⟩, h5, q7, c64_mul, Int64.mul_comm]
        · rw [so.2.2.2.1]; omega
        · rw [so.2.2.2.2.1]; omega
        · refine hz h2 ((q1.trans to2).trans to3) tw3 (fun j => ?_) tf ?_ ?_
          · rw [ii j]; exact q2 j
          · rw [n3, so.2.2.2.1]; omega
          · rw [s3, so.2.2.2.2.1]; omega
theorem ru_loop {nc ns : Nat} {Z : Option Value → PH → Prop} {mt : Nat → Nat → Option Nat} (hg : GS h g m sz E) (hT : TL h t b g B) (h0 : sz 0 ≤ 16) (hl : PL h p g m) (hp : PS h p m mt (opAll sz)) (hP : PP h p sz E) (hG : Great (sz 0) E (mt 0) (mt 1)) (hb : BL h b p g) (hx : BFx h b sz E (mt 1))
    (K : ∀ h1, SO t (t + 2) h h1 → (∀ j, hI h1 t j = hI h t j) → TU h1 t sz E → hJ h1 t 5 = 1 → RR G nc ns m_X4_refresh 72 [some (.ref t), some (.long (allv (sz 0))), none, some (.int 0), none, none] [] h1 Z) : ∀ d k h1, k + d = sz 0 → SO (t + 1) (t + 2) h h1 → (∀ l, l < k → hJ h1 (t + 1) l = ofP (Use sz E l)) →
    RR G nc ns m_X4_refresh 28 [some (.ref t), some (.int (nI k)), none, none, none, none] [] h1 Z := by
  obtain ⟨a1, a2, a3, a4, a5, a6, a7, a8, a9, a10, a11, a12, a13⟩ := id hT
  intro d
  have hpb : p + 11 ≤ b := hb.2.2.2.2.2.2.2.2.2.2.1
  induction d with
  | zero =>
    intro k h1 e so hu
    have e : k = sz 0 := by omega
    subst e
    obtain ⟨o1, o2, o3, o4, o5, o6⟩ := id so
    have no : ¬ nI (sz 0) ≤ nI (sz 0) → False := fun z => z (nI_le (Nat.le_refl _) (by omega))
    have so2 : SO t (t + 2) h (sJ h1 t 5 1) := (so.wide (by omega) (Nat.le_refl _)).trans (SO.sJ (Nat.le_refl _) (by omega))
    refine s_X4_refresh_28 (x1 := nI (sz 0)) (x2 := allv (sz 0)) (x3 := 0) (ev_lefts (hT.so so) (hg.so so (Or.inl (by omega))) h0) (by rw [o1]; exact a1) (by rw [o3, a2]; omega) (fun _ => ?_) (by rw [o1, o3, a2]; exact hg.1.1) (fun _ => ?_) (by rw [o3, a4]; omega) (by rw [o3, a3]; omega) (fun z => (no z).elim) (by rw [o1, o3, a3]; exact hb.1) (by rw [o1, o3, a4]; exact a6.1) (fun z => (no z).elim) (fun z => (no z).elim)
    · rw [o3, a2]; exact ev_all (hg.so so2 (Or.inl (by omega))) (s := 0) (by decide)
    · refine K _ so2 (fun j => ?_) (fun l hl => ?_) ?_
      · rw [hI_sJ, (o6 t (by omega)).1]
      · rw [hJ_sJ, if_neg (by omega)]; exact hu l hl
      · rw [hJ_sJ, if_pos ⟨rfl, rfl⟩]
  | succ d ih =>
    intro k h1 e so hu
    have hk : k < sz 0 := by omega
    obtain ⟨o1, o2, o3, o4, o5, o6⟩ := id so
    have ck : Int32.toNatClampNeg (nI k) = k := nI_clamp (by omega)
    have no : nI (sz 0) ≤ nI k → False := nI_ge hk (by omega)
    refine s_X4_refresh_28 (x1 := nI (sz 0)) (x2 := 0) (x3 := ofP (Use sz E k)) (ev_lefts (hT.so so) (hg.so so (Or.inl (by omega))) h0) (by rw [o1]; exact a1) (by rw [o3, a2]; omega) (fun z => (no z).elim) (by rw [o1, o3, a2]; exact hg.1.1) (fun z => (no z).elim) (by rw [o3, a4]; omega) (by rw [o3, a3]; omega) (fun _ => ?_) (by rw [o1, o3, a3]; exact hb.1) (by rw [o1, o3, a4]; exact a6.1) (fun _ => ?_) (fun _ => ?_)
    · rw [o3, a3]
      exact ev_usefulRights (hg.so so (Or.inl (by omega))) (hl.so so) (hp.so so (Or.inl (by omega))) (hP.so so (Or.inl (by omega))) hG (hb.so so) (hx.ag (so.ag (Or.inl (by omega)))) hk
    · rw [o2, o3, a4, a6.2]; exact vp_in_nI (by omega) (by decide)
    · rw [o3, a4, ck, nI_1]
      refine ih (k + 1) _ (by omega) (so.trans (SO.sJ (Nat.le_refl _) (by omega))) (fun l hl => ?_)
      rw [hJ_sJ]
      by_cases q : l = k
      · rw [if_pos ⟨rfl, q⟩, q]
      · rw [if_neg (fun z => q z.2)]; exact hu l (by omega)
theorem great_ex {n : Nat} {A : Nat → Nat → Bool} : ∃ f f', Great n A f f' := by
  have key : ∀ d f f', IsM A f f' → n ≤ siz n f + d → ∃ f f', Great n A f f' := by
    intro d
    induction d with
    | zero =>
      intro f f' hf hd
      refine ⟨f, f', hf, fun g g' hg => ?_⟩
      have := siz_le_n (n := n) (f := g)
      omega
    | succ d ih =>
      intro f f' hf hd
      by_cases q : ∀ g g', IsM A g g' → siz n g ≤ siz n f
      · exact ⟨f, f', hf, q⟩
      · obtain ⟨g, hg⟩ := Classical.not_forall.1 q
        obtain ⟨g', hg⟩ := Classical.not_forall.1 hg
        obtain ⟨h1, h2⟩ := Classical.not_imp.1 hg
        exact ih g g' h1 (by omega)
  exact key n _ _ isM_none (by omega)
theorem ev_refreshT (hE : Rg (sz 0) (sz 1) E) (h0 : sz 0 ≤ 16) (h1 : sz 1 ≤ 16) (hL : ∃ e, e ≤ 16 ∧ L = 2 ^ e) (kn : Prop) :
    ∃ mc ms L', (mc + L ≤ L' ∧ ms + 2 * L ≤ 2 * L' ∧ L' ≤ 65536) ∧ ∀ (G : GG) (h : PH) (p : Nat), GS h g m sz E → TL h t b g B → TW h t B L → PL h p g m → PF h p m sz E → BL h b p g → BF h b sz E → (hI h t 6 = hI h g 3 ↔ kn) → (kn → TF h t sz E) →
      Ev G m_X4_refresh [.ref t] h mc ms (RV (fun h' => TO t B h h' ∧ TW h' t B L' ∧ hI h' t 6 = hI h g 3 ∧ TF h' t sz E)) := by
  have hL2 : L ≤ 65536 := by obtain ⟨e, z1, z2⟩ := hL; rw [z2]; exact pow_lt31 z1
  by_cases hkn : kn
  · refine ⟨0, 0, L, ⟨by omega, by omega, hL2⟩, ?_⟩
    intro G h p hg hT hTW hl hF hb hB hk htf
    obtain ⟨a1, a2, a3, a4, a5, a6, a7, a8, a9, a10, a11, a12, a13⟩ := id hT
    have hkn2 := hk.2 hkn
    refine Ev.of pn_X4_refresh (Nat.le_of_ble_eq_true rfl) ?_
    have no : ¬ hI h t 6 = hI h g 3 → False := fun z => z hkn2
    exact s_X4_refresh_0 (x1 := hI h g 3) (x2 := 0) a1 (by rw [a2]; omega) (by rw [a2]; exact ev_changes hg.1) (by rw [a2]; exact hg.1.1) (fun z => (no z).elim) (fun z => (no z).elim) (fun _ => ⟨⟨rfl, TO.rf, hTW, hkn2, htf hkn⟩, rfl, rfl⟩)
  · have hno : ∀ l, dn sz (allv (sz 0)) l = false := fun l => by
      unfold dn
      rw [bt_all (by omega)]
      cases decide (l < sz 0) <;> rfl
    obtain ⟨f, f', hf⟩ := great_ex (n := sz 0) (A := E)
    obtain ⟨mc, ms, L', hb', K⟩ := rt_loop (t := t) (b := b) (g := g) (m := m) (B := B) hE h0 h1 hf (sz 0) 0 (allv (sz 0)) L (by omega) hL (fun i i' r z => by rw [hno] at z; cases z) (fun l hl => absurd hl (by omega))
    refine ⟨mc, ms, L', hb', ?_⟩
    intro G h p hg hT hTW hl hF hb hB hk htf
    obtain ⟨a1, a2, a3, a4, a5, a6, a7, a8, a9, a10, a11, a12, a13⟩ := id hT
    obtain ⟨mt, p1, p2, p3, p4⟩ := hF
    have hpb : p + 11 ≤ b := hb.2.2.2.2.2.2.2.2.2.2.1
    have hkn2 : ¬ hI h t 6 = hI h g 3 := fun z => hkn (hk.1 z)
    refine Ev.of pn_X4_refresh (Nat.le_of_ble_eq_true rfl) ?_
    refine s_X4_refresh_0 (x1 := hI h g 3) (x2 := hI h g 3) a1 (by rw [a2]; omega) (by rw [a2]; exact ev_changes hg.1) (by rw [a2]; exact hg.1.1) (fun _ => by rw [a2]; exact ev_changes hg.1) (fun _ => ?_) (fun z => (hkn2 z).elim)
    have so0 : SO t (t + 1) h (sI h t 6 (hI h g 3)) := SO.sI (Nat.le_refl _) (by omega)
    rw [← nI_0]
    refine ru_loop (h := sI h t 6 (hI h g 3)) (mt := mt) (hg.so so0 (Or.inl (by omega))) (hT.so so0) h0 (hl.so so0) (p1.so so0 (Or.inl (by omega))) (p4.so so0 (Or.inl (by omega))) p2.1 (hb.so so0) ((hB _ _ p2).ag (so0.ag (Or.inl (by omega)))) (fun h2 so2 ii hu h5 => ?_) (sz 0) 0 _ (by omega) SO.rf (fun l hl => absurd hl (by omega))
    have so3 := (so0.wide (Nat.le_refl _) (by omega)).trans so2
    have to3 : TO t B h h2 := so3.to (by omega)
    rw [← nI_0]
    refine K G _ _ _ h2 1 (hg.ag (to3.ag (by omega) (by omega))) (hT.to to3) (hTW.so so3) hu (card_none hE hno) h5 (by rw [so3.2.2.2.1]; exact Nat.le_refl _) (by rw [so3.2.2.2.2.1]; exact Nat.le_refl _) (fun h3 to4 tw4 i4 tf n4 s4 => ⟨⟨rfl, to3.trans to4, tw4, ?_, tf⟩, by rw [n4, so3.2.2.2.1], by rw [s4, so3.2.2.2.2.1]⟩)
    rw [i4, ii, hI_sI, if_pos ⟨rfl, rfl⟩]
theorem ev_total (hT : TL h t b g B) : Ev G m_X4_total [.ref t] h 0 0 (Ret (some (.long (hJ h t 5))) h) := by
  refine Ev.of pn_X4_total (Nat.le_of_ble_eq_true rfl) ?_
  exact s_X4_total_0 hT.1 Zok
