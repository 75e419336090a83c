section REFRESH
variable {G : GG} {h : PH} {p g m : Nat} {sz : Nat → Nat} {E : Nat → Nat → Bool} {mt : Nat → Nat → Option Nat} {op : Nat → Nat → Bool}
def opAll (sz : Nat → Nat) : Nat → Nat → Bool := fun s i => decide (i < sz s)
/-- sides below k have no pairs -/
def beg (h : PH) (p m k : Nat) (h' : PH) : Prop := SO (p + 2) (p + 5) h h' ∧ ∀ s, s < k → (∀ i, i < m → hI h' (p + 2 + s) i = -3) ∧ hJ h' (p + 4) s = 0
theorem bg_loop {nc ns : Nat} {Z : Option Value → PH → Prop} (hg : GS h g m sz E) (hl : PL h p g m) (hz : ∀ h1, SO p (p + 11) h h1 → hI h1 p 8 = hI h p 8 → hI h1 p 7 = 0 → PS h1 p m (fun _ _ => none) (opAll sz) → Z none h1) : ∀ d k h1, k + d = 2 → beg h p m k h1 →
    RR G nc ns m_X3_begin 2 [some (.ref p), some (.int (nI k))] [] h1 Z := by
  have hl' := hl
  obtain ⟨k0, r0, r1, r2, r3, r4, r5, r6, k1, n1, ks, kp, ko, kt, kts, kq, kc, hm, g0, gp⟩ := hl
  intro d
  induction d with
  | zero =>
    intro k h1 e q
    have e : k = 2 := by omega
    subst e
    obtain ⟨so, q⟩ := q
    obtain ⟨o1, o2, o3, o4, o5, o6⟩ := id so
    have no : ¬ (1 : Int32) < nI 2 → False := fun z => z (by decide)
    have so1 : SO p (p + 11) h (sI h1 p 7 0) := (so.wide (by omega) (by omega)).trans (SO.sI (by omega) (by omega))
    have hps : PS (sI h1 p 7 0) p m (fun _ _ => none) (fun s i => bt (hJ h1 (p + 5) s) i) := by
      refine ⟨fun s hs i hi => ?_, fun s hs i j hij => ?_, fun s hs i => ?_, fun s hs i => ?_⟩
      · rw [sI_ne (by omega)]; exact (q s hs).1 i hi
      · cases hij
      · rw [hJ_sI, (q s hs).2, bt_zero]; rfl
      · rw [hJ_sI]
    refine s_X3_begin_2 (P2 := fun _ => True) (by rw [o1]; exact k0) (fun _ => ev_openAll (hg.so so1 (Or.inl (by omega))) (hl'.so so1) hps) (fun _ h2 q2 _ _ => s_X3_begin_40 ?_) (by rw [o3, r1]; omega) (Or.inl (by rw [o1, o3, r1]; exact k1)) (fun z => (no z).elim) (fun z => (no z).elim) (fun z => (no z).elim) (fun z => (no z).elim)
    obtain ⟨so2, q2⟩ := q2
    refine hz h2 (so1.trans (so2.wide (by omega) (by omega))) ?_ ?_ q2
    · rw [(so2.2.2.2.2.2 p (by omega)).1, sI_nk (by decide), (o6 p (by omega)).1]
    · rw [(so2.2.2.2.2.2 p (by omega)).1, sI_eq]
  | succ d ih =>
    intro k h1 e q
    obtain ⟨so, q⟩ := q
    have hk : k < 2 := by omega
    obtain ⟨o1, o2, o3, o4, o5, o6⟩ := id so
    obtain ⟨a1, a2, a3⟩ := ks k hk
    have ck : Int32.toNatClampNeg (nI k) = k := nI_clamp (by omega)
    have rr : hR h1 (hR h1 p 1) (Int32.toNatClampNeg (nI k)) = p + 2 + k := by rw [o3, r1, ck]; exact a3
    refine s_X3_begin_2 (P1 := fun _ => True) (by rw [o1]; exact k0) (fun z => ?_) (fun z => ?_) (by rw [o3, r1]; omega) (Or.inl (by rw [o1, o3, r1]; exact k1)) (fun _ => by rw [o2, o3, r1, n1]; exact vp_in_nI hk (by decide)) (fun _ => by rw [rr]; omega) (fun _ => by rw [rr]; exact ev_fillI (n := m) (by rw [o1]; exact a1) (by rw [o2]; exact a2) (by omega)) (fun _ h2 q2 _ _ => ?_)
    · exact absurd z (by match k, hk with | 0, _ => decide | 1, _ => decide)
    · exact absurd z (by match k, hk with | 0, _ => decide | 1, _ => decide)
    · obtain ⟨so2, j2, i2⟩ := q2
      have so3 : SO (p + 2) (p + 5) h h2 := so.trans (so2.wide (by omega) (by omega))
      obtain ⟨u1, u2, u3, u4, u5, u6⟩ := id so3
      have rr2 : hR h2 p 2 = p + 4 := by rw [u3]; exact r2
      refine s_X3_begin_18 (by rw [u1]; exact k0) (by rw [rr2]; omega) (by rw [u1, rr2]; exact kp.1) (by rw [u2, rr2, kp.2]; exact vp_in_nI hk (by decide)) ?_
      rw [nI_1, rr2, ck]
      refine ih (k + 1) _ (by omega) ⟨so3.trans (SO.sJ (by omega) (by omega)), fun s hs => ⟨fun i hi => ?_, ?_⟩⟩
      · rw [hI_sJ]
        by_cases es : s = k
        · subst es; rw [i2 i, if_pos hi]
        · rw [(so2.2.2.2.2.2 (p + 2 + s) (by omega)).1]; exact (q s (by omega)).1 i hi
      · by_cases es : s = k
        · subst es; rw [sJ_eq]
        · rw [sJ_nk es, (so2.2.2.2.2.2 (p + 4) (by omega)).2]; exact (q s (by omega)).2
theorem ev_begin (hg : GS h g m sz E) (hl : PL h p g m) : Ev G m_X3_begin [.ref p] h 0 0 (RV (fun h1 => SO p (p + 11) h h1 ∧ hI h1 p 8 = hI h p 8 ∧ hI h1 p 7 = 0 ∧ PS h1 p m (fun _ _ => none) (opAll sz))) := by
  refine Ev.of pn_X3_begin (Nat.le_of_ble_eq_true rfl) ?_
  refine s_X3_begin_0 ?_
  exact bg_loop hg hl (fun h1 so q1 q2 q3 => ⟨⟨rfl, so, q1, q2, q3⟩, so.2.2.2.1, so.2.2.2.2.1⟩) 2 0 h (by omega) ⟨SO.rf, fun s hs => absurd hs (by omega)⟩
/-- the pairing is fresh -/
def PF (h : PH) (p m : Nat) (sz : Nat → Nat) (E : Nat → Nat → Bool) : Prop := ∃ mt, PS h p m mt (opAll sz) ∧ Best (sz 0) E (mt 0) (mt 1) (sz 0) ∧ hI h p 7 = nI (siz (sz 0) (mt 0)) ∧ PP h p sz E
theorem opA_all (hE : Rg (sz 0) (sz 1) E) : opA E (opAll sz) = E := by
  funext i j
  unfold opA opAll
  cases e : E i j with
  | false => rfl
  | true => have := hE i j e; simp [this]
theorem opF_all (hE : Rg (sz 0) (sz 1) E) (hM : IsM E (mt 0) (mt 1)) : opF mt (opAll sz) 0 = mt 0 ∧ opF mt (opAll sz) 1 = mt 1 := by
  constructor
  · funext i
    unfold opF opAll
    cases e : mt 0 i with
    | none => simp
    | some j => have := (hE i j (hM.2 i j e)).1; simp [this]
  · funext j
    unfold opF opAll
    cases e : mt 1 j with
    | none => simp
    | some i => have := (hE i j (hM.2 i j ((hM.1 i j).mpr e))).2; simp [this]
theorem cert_all (hE : Rg (sz 0) (sz 1) E) (hM : IsM E (mt 0) (mt 1)) (hC : Cert E mt (opAll sz)) : Great (sz 0) E (mt 0) (mt 1) := by
  have := cert_great hE hM (fun l b e => by
    have := hE l b (hM.2 l b e)
    unfold opAll; rw [decide_eq_true this.1, decide_eq_true this.2]) hC
  rw [opA_all hE, (opF_all hE hM).1, (opF_all hE hM).2] at this
  exact this
theorem siz_le_n {n : Nat} {f : Nat → Option Nat} : siz n f ≤ n := cnt_le n _
theorem isM_none : IsM E (fun _ => none) (fun _ => none) := ⟨fun i j => ⟨fun z => (by cases z), fun z => (by cases z)⟩, fun i j z => (by cases z)⟩
theorem siz_none {n : Nat} : siz n (fun _ => none) = 0 := cnt_zero.mpr (fun _ _ => rfl)
/-- growing -/
theorem gr_loop {nc ns : Nat} {Z : Option Value → PH → Prop} (hg : GS h g m sz E) (hl : PL h p g m)
    (K : ∀ mt h1, SO p (p + 11) h h1 → hI h1 p 8 = hI h p 8 → PS h1 p m mt (opAll sz) → Great (sz 0) E (mt 0) (mt 1) → hI h1 p 7 = nI (siz (sz 0) (mt 0)) → RR G nc ns m_X3_refresh 68 [some (.ref p), some (.int 0)] [] h1 Z) : ∀ d t mt h1, t + d = m → SO p (p + 11) h h1 → hI h1 p 8 = hI h p 8 → PS h1 p m mt (opAll sz) → IsM E (mt 0) (mt 1) → siz (sz 0) (mt 0) = t → hI h1 p 7 = nI t →
    RR G nc ns m_X3_refresh 32 [some (.ref p), some (.int (nI t))] [] h1 Z := by
  have hE : Rg (sz 0) (sz 1) E := hg.2.2.2
  have hsm := (hg.2.1 0 (by decide)).2
  intro d
  induction d with
  | zero =>
    intro t mt h1 e so i8 q1 q2 q3 q4
    have e : t = m := by omega
    subst e
    have hg1 := hg.so so (Or.inl (by have := hl.2.2.2.2.2.2.2.2.2.2.2.2.2.2.2.2.2.2.2; omega))
    obtain ⟨k0, r0, r1, r2, r3, r4, r5, r6, k1, n1, ks, kp, ko, kt, kts, kq, kc, hm, g0, gp⟩ := hl.so so
    have no : ¬ nI t ≤ nI t → False := fun z => z (nI_le (Nat.le_refl _) (by omega))
    refine s_X3_refresh_32 (x1 := nI t) (P2 := fun _ _ => True) k0 (by rw [r0]; omega) (by rw [r0]; exact ev_most hg1.1) (by rw [r0]; exact hg1.1.1) (fun _ => ?_) (fun z => (no z).elim) (fun z => (no z).elim)
    refine K mt h1 so i8 q1 ⟨q2, fun f f' hf => ?_⟩ (by rw [q3]; exact q4)
    have := siz_le_n (n := sz 0) (f := f)
    omega
  | succ d ih =>
    intro t mt h1 e so i8 q1 q2 q3 q4
    have gp' := hl.2.2.2.2.2.2.2.2.2.2.2.2.2.2.2.2.2.2.2
    have hg1 := hg.so so (Or.inl (by omega))
    have hl1 := hl.so so
    obtain ⟨k0, r0, r1, r2, r3, r4, r5, r6, k1, n1, ks, kp, ko, kt, kts, kq, kc, hm, g0, gp⟩ := hl.so so
    have hoc : ∀ l b, mt 0 l = some b → opAll sz 0 l = opAll sz 1 b := fun l b e => by
      have := hE l b (q2.2 l b e)
      unfold opAll; rw [decide_eq_true this.1, decide_eq_true this.2]
    refine s_X3_refresh_32 (x1 := nI m) k0 (by rw [r0]; omega) (by rw [r0]; exact ev_most hg1.1) (by rw [r0]; exact hg1.1.1) (fun z => absurd z (nI_ge (by omega) (by omega))) (fun _ => ev_lengthen hg1 hl1 q1 q2 hoc (fun l hl => of_decide_eq_true hl)) (fun _ x2 h2 w _ _ => ?_)
    rcases w with ⟨w0, so2, mt', w1, w2, w3, w4, w5⟩ | ⟨w0, so2, w1⟩
    · subst w0
      obtain ⟨v1, v2, v3, v4, v5, v6⟩ := id so2
      refine s_X3_refresh_47 (fun z => absurd z (by decide)) (by rw [v1]; exact k0) (fun _ => ?_)
      have e7 : hI h2 p 7 = nI t := by rw [(v6 p (by omega)).1]; exact q4
      have e8 : hI h2 p 8 = hI h p 8 := by rw [(v6 p (by omega)).1]; exact i8
      rw [nI_1, e7, nI_1]
      refine ih (t + 1) mt' _ (by omega) ((so.trans (so2.wide (by omega) (by omega))).trans (SO.sI (by omega) (by omega))) ?_ (w1.so (SO.sI (lo := p) (hi := p + 1) (by omega) (by omega)) (Or.inr (by omega))) w2 (by omega) sI_eq
      rw [sI_nk (by decide)]; exact e8
    · subst w0
      obtain ⟨v1, v2, v3, v4, v5, v6⟩ := id so2
      refine s_X3_refresh_47 (fun _ => ?_) (by rw [v1]; exact k0) (fun z => absurd rfl z)
      refine K mt h2 (so.trans (so2.wide (by omega) (by omega))) ?_ (q1.so so2 (Or.inl (by omega))) (cert_all hE q2 w1) ?_
      · rw [(v6 p (by omega)).1]; exact i8
      · rw [(v6 p (by omega)).1, q3]; exact q4
/-- settling -/
theorem se_loop {nc ns : Nat} {Z : Option Value → PH → Prop} (hg : GS h g m sz E) (hl : PL h p g m)
    (hz : ∀ h1, SO p (p + 11) h h1 → hI h1 p 8 = hI h p 8 → PF h1 p m sz E → Z none h1) {N : Nat} : ∀ d c mt op h1, c + d = sz 0 → SO p (p + 11) h h1 → hI h1 p 8 = hI h p 8 → PS h1 p m mt op → Best (sz 0) E (mt 0) (mt 1) c → Settled (sz 0) (sz 1) mt op c → siz (sz 0) (mt 0) = N → hI h1 p 7 = nI N →
    RR G nc ns m_X3_refresh 68 [some (.ref p), some (.int (nI c))] [] h1 Z := by
  have hE : Rg (sz 0) (sz 1) E := hg.2.2.2
  have hsm := (hg.2.1 0 (by decide)).2
  have gp' := hl.2.2.2.2.2.2.2.2.2.2.2.2.2.2.2.2.2.2.2
  intro d
  induction d with
  | zero =>
    intro c mt op h1 e so i8 q1 q2 q3 q4 q5
    have e : c = sz 0 := by omega
    have hg1 := hg.so so (Or.inl (by omega))
    have hl1 := hl.so so
    obtain ⟨k0, r0, r1, r2, r3, r4, r5, r6, k1, n1, ks, kp, ko, kt, kts, kq, kc, hm, g0, gp⟩ := hl.so so
    have no : ¬ nI (sz 0) ≤ nI c → False := fun z => z (by rw [e]; exact nI_le (Nat.le_refl _) (by omega))
    refine s_X3_refresh_68 (x1 := nI (sz 0)) (x3 := 0) (P4 := fun _ => True) k0 (by rw [r0]; omega) (by rw [r0]; exact ev_sizeOf hg1 (s := 0) (by decide)) (by rw [r0]; exact hg1.1.1) (fun _ => ev_openAll hg1 hl1 q1) (fun _ h2 w _ _ => ?_) (fun z => (no z).elim) (fun z => (no z).elim) (fun z => (no z).elim)
    obtain ⟨so2, w1⟩ := w
    have so3 : SO p (p + 11) h h2 := so.trans (so2.wide (by omega) (by omega))
    have hl2 := hl.so so3
    refine s_X3_refresh_100 (ev_findParts (hg.so so3 (Or.inl (by omega))) hl2 w1 q2.1 (fun _ _ => rfl)) hl2.1 (fun h3 w2 _ _ => s_X3_refresh_104 ?_)
    obtain ⟨so4, w2⟩ := w2
    have so5 : SO p (p + 11) h h3 := so3.trans (so4.wide (by omega) (by omega))
    refine hz h3 so5 ?_ ⟨mt, w1.so so4 (Or.inl (by omega)), by rw [← e]; rw [e]; rw [e] at q2; exact q2, ?_, w2⟩
    · rw [(so4.2.2.2.2.2 p (by omega)).1, (so2.2.2.2.2.2 p (by omega)).1]; exact i8
    · rw [(so4.2.2.2.2.2 p (by omega)).1, (so2.2.2.2.2.2 p (by omega)).1, q4]; exact q5
  | succ d ih =>
    intro c mt op h1 e so i8 q1 q2 q3 q4 q5
    have hg1 := hg.so so (Or.inl (by omega))
    have hl1 := hl.so so
    obtain ⟨k0, r0, r1, r2, r3, r4, r5, r6, k1, n1, ks, kp, ko, kt, kts, kq, kc, hm, g0, gp⟩ := hl.so so
    have no : nI (sz 0) ≤ nI c → False := fun z => absurd z (nI_ge (by omega) (by omega))
    refine s_X3_refresh_68 (x1 := nI (sz 0)) (x3 := ofP (Ch (sz 0) E op c)) (P2 := fun _ => True) k0 (by rw [r0]; omega) (by rw [r0]; exact ev_sizeOf hg1 (s := 0) (by decide)) (by rw [r0]; exact hg1.1.1) (fun z => (no z).elim) (fun z => (no z).elim) (fun _ => ev_choicesOf hg1 hl1 q1 q2.1 q3 (by omega)) (fun _ => ev_settle hg1 hl1 q1 q2 q3 (by omega)) (fun _ h2 w _ _ => s_X3_refresh_90 ?_)
    obtain ⟨so2, mt', op', w1, w2, w3⟩ := w
    rw [nI_1]
    refine ih (c + 1) mt' op' h2 (by omega) (so.trans (so2.wide (by omega) (by omega))) ?_ w1 w2 w3 ?_ ?_
    · rw [(so2.2.2.2.2.2 p (by omega)).1]; exact i8
    · rw [← q4]; exact great_siz w2.1 q2.1
    · rw [(so2.2.2.2.2.2 p (by omega)).1]; exact q5
theorem ev_refreshP (hg : GS h g m sz E) (hl : PL h p g m) (hk : hI h p 8 = hI h g 3 → PF h p m sz E) : Ev G m_X3_refresh [.ref p] h 0 0 (RV (fun h1 => SO p (p + 11) h h1 ∧ hI h1 p 8 = hI h g 3 ∧ PF h1 p m sz E)) := by
  have hE : Rg (sz 0) (sz 1) E := hg.2.2.2
  have gp' := hl.2.2.2.2.2.2.2.2.2.2.2.2.2.2.2.2.2.2.2
  have hl' := hl
  obtain ⟨k0, r0, r1, r2, r3, r4, r5, r6, k1, n1, ks, kp, ko, kt, kts, kq, kc, hm, g0, gp⟩ := hl
  have so1 : SO p (p + 11) h (sI h p 8 (hI h g 3)) := SO.sI (by omega) (by omega)
  have e8 : hI (sI h p 8 (hI h g 3)) p 8 = hI h g 3 := sI_eq
  refine Ev.of pn_X3_refresh (Nat.le_of_ble_eq_true rfl) ?_
  refine s_X3_refresh_0 (x1 := hI h g 3) (x2 := hI h g 3) k0 (by rw [r0]; omega) (by rw [r0]; exact ev_changes hg.1) (by rw [r0]; exact hg.1.1) (fun _ => by rw [r0]; exact ev_changes hg.1) (fun _ => ev_begin (hg.so so1 (Or.inl (by omega))) (hl'.so so1)) (fun _ h3 q _ _ => ?_) (fun z => ⟨⟨rfl, SO.rf, z, hk z⟩, rfl, rfl⟩)
  obtain ⟨so2, i8, i7, q⟩ := q
  have so3 := so1.trans so2
  have hg3 := hg.so so3 (Or.inl (by omega))
  have hl3 := hl'.so so3
  refine s_X3_refresh_30 ?_
  refine gr_loop hg3 hl3 (fun mt h4 so4 j8 w1 w2 w3 => ?_) m 0 (fun _ _ => none) h3 (by omega) SO.rf rfl q isM_none siz_none i7
  have so5 := so3.trans so4
  refine se_loop (N := siz (sz 0) (mt 0)) (hg.so so5 (Or.inl (by omega))) (hl'.so so5) (fun h5 so6 y8 pf => ?_) (sz 0) 0 mt (opAll sz) h4 (by omega) SO.rf rfl w1 ⟨w2, fun l hl => absurd hl (by omega)⟩ ⟨fun i => ?_, fun b => ?_⟩ rfl w3
  · have so7 := so5.trans so6
    refine ⟨⟨rfl, so7, ?_, pf⟩, so7.2.2.2.1, so7.2.2.2.2.1⟩
    rw [y8, j8, i8]; exact e8
  · unfold opAll; simp
  · unfold opAll; simp
end REFRESH
