section CHAIN
variable {G : GG} {h : PH} {o p g m n : Nat} {sz : Nat → Nat} {U : Nat → Nat → Bool} {mt : Nat → Nat → Option Nat}
theorem nc_loop {nc ns : Nat} {Z : Option Value → PH → Prop} {r : Nat} {num : Int32} (hg : GS h g m sz U) (h0 : sz 0 = n) (hs1 : sz 1 = n) (hn : n ≤ 40) (hU : SPO U) (hl : PL h p g m) (hp : PS h p m mt (opAll sz)) (hM : IsM U (mt 0) (mt 1)) (ho : OL h o p g) (e0 : Int32)
    (hz : ∀ h1, SO (o + 2) (o + 3) h h1 → (∀ x, x < n → hI h1 (o + 2) x = if dc (Cl (nxt (mt 0)) r x) then num else hI h (o + 2) x) → Z none h1) : ∀ d s (cur : Option Nat) h1, s + d = 41 → SO (o + 2) (o + 3) h h1 → (∀ c, cur = some c → c < n ∧ Cl (nxt (mt 0)) r c ∧ s ≤ lev n U c) → (∀ x, x < n → hI h1 (o + 2) x = if dc (Cl (nxt (mt 0)) r x ∧ ¬ ∃ c, cur = some c ∧ Cl (nxt (mt 0)) c x) then num else hI h (o + 2) x) →
    RR G nc ns m_X2_numberChain 5 [some (.ref o), some (.int e0), some (.int num), some (.int (enc cur)), some (.int (nI s))] [] h1 Z := by
  have hRg : Rg n n U := by have := hg.2.2.2; rw [h0, hs1] at this; exact this
  have hsm := (hg.2.1 0 (by decide)).2
  have ho' := ho
  obtain ⟨k0, r0, r1, r2, r3, k1, k2, p0, pb⟩ := ho
  have g0 := hl.2.2.2.2.2.2.2.2.2.2.2.2.2.2.2.2.2.2.1
  have gp := hl.2.2.2.2.2.2.2.2.2.2.2.2.2.2.2.2.2.2.2
  have fin : ∀ h1, SO (o + 2) (o + 3) h h1 → (∀ x, x < n → hI h1 (o + 2) x = if dc (Cl (nxt (mt 0)) r x ∧ ¬ ∃ c, (none : Option Nat) = some c ∧ Cl (nxt (mt 0)) c x) then num else hI h (o + 2) x) → Z none h1 := fun h1 so w => by
    refine hz h1 so (fun x hx => ?_)
    rw [w x hx, dc_congr (Q := Cl (nxt (mt 0)) r x) ⟨fun z => z.1, fun z => ⟨z, fun ⟨c, e, _⟩ => by cases e⟩⟩]
  intro d
  induction d with
  | zero =>
    intro s cur h1 e so q1 q2
    have yes : (40 : Int32) ≤ nI s := (nI_leI (a := 40) (by decide) (by omega)).mpr (by omega)
    obtain ⟨o1, o2, o3, o4, o5, o6⟩ := id so
    have hc : cur = none := by
      cases cur with
      | none => rfl
      | some c =>
        obtain ⟨c1, c2, c3⟩ := q1 c rfl
        have := lev_lt hU c1
        omega
    subst hc
    exact s_X2_numberChain_5 (x1 := 0) (x2 := 0) (fun _ => fin h1 so q2) (by rw [o1]; exact k0) (by rw [o3, r0]; omega) (fun z => absurd yes z) (by rw [o1, o3, r0]; exact hg.1.1) (fun z => absurd yes z) (by rw [o3, r3]; omega) (by rw [o1, o3, r3]; exact k2.1) (fun z => absurd yes z) (by rw [o3, r1]; omega) (fun z => absurd yes z) (by rw [o1, o3, r1]; exact hl.1) (fun z => absurd yes z)
  | succ d ih =>
    intro s cur h1 e so q1 q2
    obtain ⟨o1, o2, o3, o4, o5, o6⟩ := id so
    have hg1 := hg.so so (Or.inl (by omega))
    have eh := ev_holds (G := G) hg1 (nI 0) (enc cur)
    rw [holdB_nI (by decide)] at eh
    have rr : hR h1 o 3 = o + 2 := by rw [o3]; exact r3
    cases cur with
    | none =>
      refine s_X2_numberChain_5 (x1 := b2i (inB (enc none) (sz 0))) (x2 := 0) (fun _ => fin h1 so q2) (by rw [o1]; exact k0) (by rw [o3, r0]; omega) (fun _ => by rw [o3, r0]; exact eh) (by rw [o1, o3, r0]; exact hg.1.1) (fun _ _ => fin h1 so q2) (by rw [rr]; omega) (by rw [o1, rr]; exact k2.1) (fun _ z => absurd rfl z) (by rw [o3, r1]; omega) (fun _ z => absurd rfl z) (by rw [o1, o3, r1]; exact hl.1) (fun _ z => absurd rfl z)
    | some c =>
      obtain ⟨c1, c2, c3⟩ := q1 c rfl
      have hlt := lev_lt hU c1
      have cc : Int32.toNatClampNeg (nI c) = c := nI_clamp (by omega)
      have no : ¬ (40 : Int32) ≤ nI s := fun z => by
        have : 40 ≤ s := (nI_leI (a := 40) (by decide) (by omega)).mp z
        omega
      have eh : Ev G m_X1_holds [.ref g, .int 0, .int (nI c)] h1 0 0 (Ret (some (.int (b2i true))) h1) := by
        have eh : Ev G m_X1_holds [.ref g, .int 0, .int (nI c)] h1 0 0 (Ret (some (.int (b2i (inB (nI c) (sz 0))))) h1) := eh
        rw [inB_nI (by omega), decide_eq_true (by omega)] at eh
        exact eh
      have so2 : SO (o + 2) (o + 3) h (sI h1 (o + 2) c num) := so.trans (SO.sI (by omega) (by omega))
      have hm2 := ev_mateOf (G := G) (hg.so so2 (Or.inl (by omega))) (hl.so so2) (hp.so so2 (Or.inl (by omega))) (s := 0) (i := c) (by decide) (by omega)
      refine s_X2_numberChain_5 (l3 := nI c) (x1 := b2i true) (x2 := enc (mt 0 c)) (fun z => absurd z no) (by rw [o1]; exact k0) (by rw [o3, r0]; omega) (fun _ => by rw [o3, r0]; exact eh) (by rw [o1, o3, r0]; exact hg.1.1) (fun _ z => absurd z (by decide)) (by rw [rr]; omega) (by rw [o1, rr]; exact k2.1) (fun _ _ => by rw [o2, rr, k2.2]; exact vp_in_nI (by omega) (by decide)) (by rw [o3, r1]; omega) (fun _ _ => by rw [o3, r1, r3, cc]; exact hm2) (by rw [o1, o3, r1]; exact hl.1) (fun _ _ => ?_)
      rw [rr, cc, nI_1]
      refine ih (s + 1) (mt 0 c) _ (by omega) so2 (fun c' hc' => ?_) (fun x hx => ?_)
      · have h1 := hM.2 c c' hc'
        have := lev_up hU hRg h1
        exact ⟨(hRg c c' h1).2, c2.step hc', by omega⟩
      · by_cases ex : x = c
        · subst ex
          rw [sI_eq, dc_iff.mpr]
          · rfl
          · refine ⟨c2, fun ⟨c', y1, y2⟩ => ?_⟩
            have := lev_up hU hRg (hM.2 x c' y1)
            rcases nxt_lev hU hRg hM y2 with w | w
            · subst w; omega
            · omega
        · rw [sI_nk ex, q2 x hx]
          rw [dc_congr (P := Cl (nxt (mt 0)) r x ∧ ¬ ∃ c1, some c = some c1 ∧ Cl (nxt (mt 0)) c1 x) (Q := Cl (nxt (mt 0)) r x ∧ ¬ ∃ c1, mt 0 c = some c1 ∧ Cl (nxt (mt 0)) c1 x)]
          constructor
          · rintro ⟨z1, z2⟩
            exact ⟨z1, fun ⟨c', y1, y2⟩ => z2 ⟨c, rfl, cl_head.mpr (Or.inr ⟨c', y1, y2⟩)⟩⟩
          · rintro ⟨z1, z2⟩
            refine ⟨z1, fun ⟨c', y1, y2⟩ => ?_⟩
            cases y1
            rcases cl_head.mp y2 with w | ⟨b, w1, w2⟩
            · exact ex w
            · exact z2 ⟨b, w1, w2⟩
theorem ev_numberChain {r : Nat} {num : Int32} (hg : GS h g m sz U) (h0 : sz 0 = n) (hs1 : sz 1 = n) (hn : n ≤ 40) (hU : SPO U) (hl : PL h p g m) (hp : PS h p m mt (opAll sz)) (hM : IsM U (mt 0) (mt 1)) (ho : OL h o p g) (hr : r < n) :
    Ev G m_X2_numberChain [.ref o, .int (nI r), .int num] h 0 0 (RV (fun h1 => SO (o + 2) (o + 3) h h1 ∧ ∀ x, x < n → hI h1 (o + 2) x = if dc (Cl (nxt (mt 0)) r x) then num else hI h (o + 2) x)) := by
  refine Ev.of pn_X2_numberChain (Nat.le_of_ble_eq_true rfl) ?_
  refine s_X2_numberChain_0 ?_
  refine nc_loop (r := r) hg h0 hs1 hn hU hl hp hM ho (nI r) (fun h1 so w => ⟨⟨rfl, so, w⟩, so.2.2.2.1, so.2.2.2.2.1⟩) 41 0 (some r) h (by omega) SO.rf (fun c hc => ?_) (fun x hx => ?_)
  · cases hc; exact ⟨hr, Cl.rf, Nat.zero_le _⟩
  · rw [dc_no.mpr (fun z => z.2 ⟨r, rfl, z.1⟩)]; rfl
/-- the chains are written -/
def CH (h : PH) (o n : Nat) (f f' : Nat → Option Nat) : Prop := ∃ c : Nat → Nat, isChain n f f' c ∧ (∀ x, x < n → hI h (o + 2) x = nI (c x)) ∧ ∀ x, c x < 2 ^ 31
theorem fc_loop {nc ns : Nat} {Z : Option Value → PH → Prop} (hg : GS h g m sz U) (h0 : sz 0 = n) (hs1 : sz 1 = n) (hn : n ≤ 40) (hU : SPO U) (hl : PL h p g m) (hp : PS h p m mt (opAll sz)) (hM : IsM U (mt 0) (mt 1)) (ho : OL h o p g)
    (hz : ∀ h1, SO (o + 2) (o + 3) h h1 → (∀ r x, r < n → mt 1 r = none → x < n → Cl (nxt (mt 0)) r x → hI h1 (o + 2) x = nI (cnt r (fun j => (mt 1 j).isNone))) → Z none h1) : ∀ d F h1, F + d = n → SO (o + 2) (o + 3) h h1 → (∀ r x, r < F → mt 1 r = none → x < n → Cl (nxt (mt 0)) r x → hI h1 (o + 2) x = nI (cnt r (fun j => (mt 1 j).isNone))) →
    RR G nc ns m_X2_findChains 4 [some (.ref o), some (.int (nI (cnt F (fun j => (mt 1 j).isNone)))), some (.int (nI F))] [] h1 Z := by
  have hRg : Rg n n U := by have := hg.2.2.2; rw [h0, hs1] at this; exact this
  have ho' := ho
  obtain ⟨k0, r0, r1, r2, r3, k1, k2, p0, pb⟩ := ho
  have g0 := hl.2.2.2.2.2.2.2.2.2.2.2.2.2.2.2.2.2.2.1
  have gp := hl.2.2.2.2.2.2.2.2.2.2.2.2.2.2.2.2.2.2.2
  intro d
  induction d with
  | zero =>
    intro F h1 e so q
    have e : F = n := by omega
    subst e
    obtain ⟨o1, o2, o3, o4, o5, o6⟩ := id so
    have hg1 := hg.so so (Or.inl (by omega))
    have es := ev_sizeOf (G := G) hg1 (s := 0) (by decide)
    rw [h0] at es
    have no : ¬ nI F ≤ nI F → False := fun z => z (nI_le (Nat.le_refl _) (by omega))
    exact s_X2_findChains_4 (x1 := nI F) (x2 := 0) (P3 := fun _ => True) (by rw [o1]; exact k0) (by rw [o3, r0]; omega) (by rw [o3, r0]; exact es) (by rw [o1, o3, r0]; exact hg.1.1) (fun _ => hz h1 so q) (by rw [o3, r1]; omega) (fun z => (no z).elim) (by rw [o1, o3, r1]; exact hl.1) (fun z => (no z).elim) (fun z => (no z).elim) (fun z => (no z).elim)
  | succ d ih =>
    intro F h1 e so q
    have hF : F < n := by omega
    obtain ⟨o1, o2, o3, o4, o5, o6⟩ := id so
    have hg1 := hg.so so (Or.inl (by omega))
    have hl1 := hl.so so
    have hp1 := hp.so so (Or.inl (by omega))
    have es := ev_sizeOf (G := G) hg1 (s := 0) (by decide)
    rw [h0] at es
    have em := ev_mateOf (G := G) hg1 hl1 hp1 (s := 1) (i := F) (by decide) (by omega)
    have en := enc_no (o := mt 1 F) (fun v hv => by have := hRg v F (hM.2 v F ((hM.1 v F).mpr hv)); omega)
    refine s_X2_findChains_4 (x1 := nI n) (x2 := enc (mt 1 F)) (by rw [o1]; exact k0) (by rw [o3, r0]; omega) (by rw [o3, r0]; exact es) (by rw [o1, o3, r0]; exact hg.1.1) (fun z => absurd z (nI_ge (by omega) (by omega))) (by rw [o3, r1]; omega) (fun _ => by rw [o3, r1]; exact em) (by rw [o1, o3, r1]; exact hl.1) (fun _ z => ?_) (fun _ _ => ev_numberChain hg1 h0 hs1 hn hU hl1 hp1 hM (ho'.so so) hF) (fun _ z h3 w _ _ => ?_)
    · have hno : ¬ mt 1 F = none := fun e => z (en.mpr e)
      have ec : cnt (F + 1) (fun j => (mt 1 j).isNone) = cnt F (fun j => (mt 1 j).isNone) := by
        rw [cnt]
        cases e : mt 1 F with
        | none => exact absurd e hno
        | some v => simp
      rw [← ec, nI_1]
      refine ih (F + 1) h1 (by omega) so (fun r x hr1 hr2 hx hc => ?_)
      by_cases er : r = F
      · subst er; exact absurd hr2 hno
      · exact q r x (by omega) hr2 hx hc
    · have hno := en.mp z
      have ec : cnt (F + 1) (fun j => (mt 1 j).isNone) = cnt F (fun j => (mt 1 j).isNone) + 1 := by
        rw [cnt, hno]; rfl
      obtain ⟨so3, w⟩ := w
      refine s_X2_findChains_36 ?_
      rw [nI_1, nI_1, ← ec]
      refine ih (F + 1) h3 (by omega) (so.trans so3) (fun r x hr1 hr2 hx hc => ?_)
      rw [w x hx]
      by_cases er : r = F
      · subst er
        rw [dc_iff.mpr hc]; rfl
      · rw [dc_no.mpr (fun z => er (root_unique hM hr2 hno hc z))]
        exact q r x (by omega) hr2 hx hc
theorem ev_findChains (hg : GS h g m sz U) (h0 : sz 0 = n) (hs1 : sz 1 = n) (hn : n ≤ 40) (hU : SPO U) (hl : PL h p g m) (hp : PS h p m mt (opAll sz)) (hM : IsM U (mt 0) (mt 1)) (ho : OL h o p g) :
    Ev G m_X2_findChains [.ref o] h 0 0 (RV (fun h1 => SO (o + 2) (o + 3) h h1 ∧ CH h1 o n (mt 0) (mt 1))) := by
  have hRg : Rg n n U := by have := hg.2.2.2; rw [h0, hs1] at this; exact this
  refine Ev.of pn_X2_findChains (Nat.le_of_ble_eq_true rfl) ?_
  refine s_X2_findChains_0 ?_
  refine fc_loop hg h0 hs1 hn hU hl hp hM ho (fun h1 so w => ⟨⟨rfl, so, fun x => (hI h1 (o + 2) x).toNatClampNeg, fun r x hr1 hr2 hc => ?_, fun x hx => ?_, fun x => ?_⟩, so.2.2.2.1, so.2.2.2.2.1⟩) n 0 h (by omega) SO.rf (fun r x hr => absurd hr (by omega))
  · have hx : x < n := by
      rcases nxt_U hU hM hc with e | e
      · omega
      · exact (hRg r x e).2
    have := cnt_le r (fun j => (mt 1 j).isNone)
    show (hI h1 (o + 2) x).toNatClampNeg = _
    rw [w r x hr1 hr2 hx hc, nI_clamp (by omega)]
  · obtain ⟨r, r1, r2, r3⟩ := root_ex hU hRg hM _ x hx (Nat.le_refl _)
    have := cnt_le r (fun j => (mt 1 j).isNone)
    show _ = nI (hI h1 (o + 2) x).toNatClampNeg
    rw [w r x r1 r2 hx r3, nI_clamp (by omega)]
  · show (hI h1 (o + 2) x).toNatClampNeg < 2 ^ 31
    have h1 := (hI h1 (o + 2) x).toInt_lt
    unfold Int32.toNatClampNeg
    omega
/-- the order is fresh -/
def OF (h : PH) (o : Nat) (sz : Nat → Nat) (U : Nat → Nat → Bool) : Prop := LV h o (sz 0) U ∧ ∀ f f', Best (sz 0) U f f' (sz 0) → CH h o (sz 0) f f'
theorem ev_refreshO (hg : GS h g m sz U) (h01 : sz 1 = sz 0) (hn : sz 0 ≤ 40) (hU : SPO U) (hl : PL h p g m) (hF : PF h p m sz U) (ho : OL h o p g) (hk : hI h o 5 = hI h g 3 → OF h o sz U) :
    Ev G m_X2_refresh [.ref o] h 0 0 (RV (fun h1 => SO o (o + 3) h h1 ∧ hI h1 o 5 = hI h g 3 ∧ OF h1 o sz U)) := by
  have hE : Rg (sz 0) (sz 1) U := hg.2.2.2
  have ho' := ho
  obtain ⟨k0, r0, r1, r2, r3, k1, k2, p0, pb⟩ := ho
  have g0 := hl.2.2.2.2.2.2.2.2.2.2.2.2.2.2.2.2.2.2.1
  have gp := hl.2.2.2.2.2.2.2.2.2.2.2.2.2.2.2.2.2.2.2
  obtain ⟨mt, q1, q2, q3, q4⟩ := hF
  have so1 : SO o (o + 3) h (sI h o 5 (hI h g 3)) := SO.sI (by omega) (by omega)
  refine Ev.of pn_X2_refresh (Nat.le_of_ble_eq_true rfl) ?_
  refine s_X2_refresh_0 (x1 := hI h g 3) (x2 := hI h g 3) k0 (by rw [r0]; omega) (by rw [r0]; exact ev_changes hg.1) (by rw [r0]; exact hg.1.1) (fun _ => by rw [r0]; exact ev_changes hg.1) (fun _ => ev_findLevels (hg.so so1 (Or.inl (by omega))) rfl h01 hn hU g0 gp (ho'.so so1)) (fun _ h3 w _ _ => ?_) (fun z => ⟨⟨rfl, SO.rf, z, hk z⟩, rfl, rfl⟩)
  obtain ⟨so2, i5, w⟩ := w
  have so3 := so1.trans (so2.wide (by omega) (by omega))
  refine s_X2_refresh_30 (ev_findChains (hg.so so3 (Or.inl (by omega))) rfl h01 hn hU (hl.so so3) (q1.so so3 (Or.inl (by omega))) q2.1.1 (ho'.so so3)) (by rw [so3.1]; exact k0) (fun h4 y _ _ => s_X2_refresh_34 ?_)
  obtain ⟨so4, y⟩ := y
  have so5 := so3.trans (so4.wide (by omega) (by omega))
  obtain ⟨v1, H, v2, v3⟩ := w
  refine ⟨⟨rfl, so5, ?_, ⟨fun t ht => ?_, H, v2, ?_⟩, fun f f' hf => ?_⟩, so5.2.2.2.1, so5.2.2.2.2.1⟩
  · rw [(so4.2.2.2.2.2 o (by omega)).1, i5, sI_eq]
  · rw [(so4.2.2.2.2.2 (o + 1) (by omega)).1]; exact v1 t ht
  · rw [(so4.2.2.2.2.2 o (by omega)).1]; exact v3
  · obtain ⟨e1, e2⟩ := best_full hE q2 hf
    rw [← e1, ← e2]; exact y
theorem ev_howManyLevels (ho : OL h o p g) : Ev G m_X2_howManyLevels [.ref o] h 0 0 (Ret (some (.int (hI h o 4))) h) := by
  refine Ev.of pn_X2_howManyLevels (Nat.le_of_ble_eq_true rfl) ?_
  exact s_X2_howManyLevels_0 ho.1 Zok
theorem ev_levelOf (hg : GS h g m sz U) (hn : sz 0 ≤ 40) (hg0 : 0 < g) (ho : OL h o p g) {t : Nat} (ht : t < sz 0) : Ev G m_X2_levelOf [.ref o, .int (nI t)] h 0 0 (Ret (some (.int (hI h (o + 1) t))) h) := by
  obtain ⟨k0, r0, r1, r2, r3, k1, k2, p0, pb⟩ := ho
  have e2 := ev_holds (G := G) hg (nI 0) (nI t)
  rw [holdB_nI (by decide), inB_nI (by omega), decide_eq_true (by omega)] at e2
  refine Ev.of pn_X2_levelOf (Nat.le_of_ble_eq_true rfl) ?_
  refine s_X2_levelOf_0 (x1 := b2i true) k0 (by rw [r0]; omega) (by rw [r0]; exact e2) (by rw [r0]; exact hg.1.1) (fun z => absurd z (by decide)) (by rw [r2]; omega) (by rw [r2]; exact k1.1) (fun _ => by rw [r2, k1.2]; exact vp_in_nI (by omega) (by decide)) (fun _ => ?_)
  rw [r2, nI_clamp (by omega)]
  exact Zok
theorem ev_chainOf (hg : GS h g m sz U) (hn : sz 0 ≤ 40) (hg0 : 0 < g) (ho : OL h o p g) {t : Nat} (ht : t < sz 0) : Ev G m_X2_chainOf [.ref o, .int (nI t)] h 0 0 (Ret (some (.int (hI h (o + 2) t))) h) := by
  obtain ⟨k0, r0, r1, r2, r3, k1, k2, p0, pb⟩ := ho
  have e2 := ev_holds (G := G) hg (nI 0) (nI t)
  rw [holdB_nI (by decide), inB_nI (by omega), decide_eq_true (by omega)] at e2
  refine Ev.of pn_X2_chainOf (Nat.le_of_ble_eq_true rfl) ?_
  refine s_X2_chainOf_0 (x1 := b2i true) k0 (by rw [r0]; omega) (by rw [r0]; exact e2) (by rw [r0]; exact hg.1.1) (fun z => absurd z (by decide)) (by rw [r3]; omega) (by rw [r3]; exact k2.1) (fun _ => by rw [r3, k2.2]; exact vp_in_nI (by omega) (by decide)) (fun _ => ?_)
  rw [r3, nI_clamp (by omega)]
  exact Zok
theorem ev_isInAntichain (hg : GS h g m sz U) (h01 : sz 1 = sz 0) (hn : sz 0 ≤ 40) (hl : PL h p g m) (hP : PP h p sz U) (ho : OL h o p g) {w t : Nat} (hw : w < 2) (ht : t < sz 0) : Ev G m_X2_isInAntichain [.ref o, .int (nI w), .int (nI t)] h 0 0 (Ret (some (.int (b2i (!cov sz U (1 - w) 0 t && !cov sz U (1 - w) 1 t)))) h) := by
  have hE : Rg (sz 0) (sz 1) U := hg.2.2.2
  obtain ⟨k0, r0, r1, r2, r3, k1, k2, p0, pb⟩ := ho
  have e1 := ev_isInCover (G := G) hl hE hP (w := 1 - w) (s := 0) (i := t) (by omega) (by decide) ht (by omega)
  have e2 := ev_isInCover (G := G) hl hE hP (w := 1 - w) (s := 1) (i := t) (by omega) (by decide) (by omega) (by omega)
  refine Ev.of pn_X2_isInAntichain (Nat.le_of_ble_eq_true rfl) ?_
  refine s_X2_isInAntichain_0 (x1 := b2i (cov sz U (1 - w) 0 t)) (x2 := b2i (cov sz U (1 - w) 1 t)) k0 (by rw [r1]; omega) (by rw [r1, one_sub w hw]; exact e1) (by rw [r1]; exact hl.1) (fun z => ?_) (fun _ => by rw [r1, one_sub w hw]; exact e2) (fun z1 z2 => ?_) (fun z1 z2 => ?_)
  · rw [b2i_n.mp z]; exact Zok
  · rw [b2i_0.mp z1, b2i_n.mp z2]; exact Zok
  · rw [b2i_0.mp z1, b2i_0.mp z2]; exact Zok
end CHAIN
