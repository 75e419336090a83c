variable {G : GG} {h h' : PH} {y : Nat} {sz : Nat → Nat} {E : Nat → Nat → Bool}
theorem sz2_at {s : Nat} (hs : s < 2) : sz2 (sz 0) (sz 1) s = sz s := by
  rcases (by omega : s = 0 ∨ s = 1) with e | e <;> subst e <;> rfl
theorem mis_sz2 {s i : Nat} (hs : s < 2) : mis (sz2 (sz 0) (sz 1)) E s i ↔ mis sz E s i := by
  unfold mis
  rw [sz2_at hs]; exact Iff.rfl
/-- the reference's graph -/
def MG (h : PH) (y : Nat) (sz : Nat → Nat) (E : Nat → Nat → Bool) : Prop := hI h y 0 = nI (sz 0) ∧ hI h y 1 = nI (sz 1) ∧ sz 0 ≤ 50 ∧ sz 1 ≤ 50 ∧ MX5 h (y + 1) E ∧ Rg (sz 0) (sz 1) E
theorem MX5.eo {S D : List Nat} {o : Nat} {A : Nat → Nat → Bool} (hx : MX5 h (y + o) A) (eo : EO y S D h h') (h0 : (decide (0 < o) && decide (o < 27) && decide (o ∉ S)) = true) : MX5 h' (y + o) A := fun l r hl hr => (eo.i o h0 _).trans (hx l r hl hr)
theorem MG.eo {S D : List Nat} (hg : MG h y sz E) (eo : EO y S D h h') (h1 : 1 ∉ S) (h2 : 0 ∉ D) (h3 : 1 ∉ D) : MG h' y sz E := by
  obtain ⟨q1, q2, q3, q4, q5, q6⟩ := hg
  refine ⟨(eo.f 0 h2).trans q1, (eo.f 1 h3).trans q2, q3, q4, fun l r hl hr => ?_, q6⟩
  rw [(eo.2.2.2.2.2.2.1 1 (by decide) (by decide) h1).1]; exact q5 l r hl hr
def W1 (h : PH) (y : Nat) (sz : Nat → Nat) (E : Nat → Nat → Bool) : Prop := (∀ l, l < sz 0 → hI h (y + 4) l = b2i (dc (mis sz E 0 l))) ∧ ∀ r, r < sz 1 → hI h (y + 5) r = b2i (dc (mis sz E 1 r))
def W2 (h : PH) (y : Nat) (sz : Nat → Nat) (E : Nat → Nat → Bool) : Prop := (∀ l, l < sz 0 → hI h (y + 6) l = nI (prt sz E 0 l)) ∧ ∀ r, r < sz 1 → hI h (y + 7) r = nI (prt sz E 1 r)
theorem W1.eo {S D : List Nat} (hw : W1 h y sz E) (eo : EO y S D h h') (h1 : 4 ∉ S) (h2 : 5 ∉ S) : W1 h' y sz E := ⟨fun l hl => ((eo.2.2.2.2.2.2.1 4 (by decide) (by decide) h1).1 l).trans (hw.1 l hl), fun r hr => ((eo.2.2.2.2.2.2.1 5 (by decide) (by decide) h2).1 r).trans (hw.2 r hr)⟩
theorem W2.eo {S D : List Nat} (hw : W2 h y sz E) (eo : EO y S D h h') (h1 : 6 ∉ S) (h2 : 7 ∉ S) : W2 h' y sz E := ⟨fun l hl => ((eo.2.2.2.2.2.2.1 6 (by decide) (by decide) h1).1 l).trans (hw.1 l hl), fun r hr => ((eo.2.2.2.2.2.2.1 7 (by decide) (by decide) h2).1 r).trans (hw.2 r hr)⟩
/-- the part as the reference finds it: first whether it can be missed, then over the edges seen so far -/
noncomputable def pv (sz : Nat → Nat) (E : Nat → Nat → Bool) (s i k : Nat) : Nat := if dc (∃ j, j < k ∧ mis sz E (1 - s) j ∧ ad E s i j = true) then 2 * (1 - s) else if dc (mis sz E s i) then 2 * s else 1
theorem pv_end (hE : Rg (sz 0) (sz 1) E) {s i : Nat} (hs : s < 2) : pv sz E s i (sz (1 - s)) = prt sz E s i := by
  unfold pv prt
  have e : (∃ j, j < sz (1 - s) ∧ mis sz E (1 - s) j ∧ ad E s i j = true) ↔ ptA sz E s i := by
    constructor
    · rintro ⟨j, _, h1, h2⟩; exact ⟨j, h1, h2⟩
    · rintro ⟨j, h1, h2⟩; exact ⟨j, h1.1, h1, h2⟩
  rw [dc_congr e]
  by_cases q : mis sz E s i
  · rw [dc_iff.2 q, dc_no.2 (mis_not hE hs q)]; rfl
  · rw [dc_no.2 q]
    by_cases p : ptA sz E s i
    · rw [dc_iff.2 p]; rfl
    · rw [dc_no.2 p]; rfl
theorem pv_no {s i k : Nat} (h : ¬ (mis sz E (1 - s) k ∧ ad E s i k = true)) : pv sz E s i (k + 1) = pv sz E s i k := by
  unfold pv
  rw [dc_congr (P := ∃ j, j < k + 1 ∧ mis sz E (1 - s) j ∧ ad E s i j = true) (Q := ∃ j, j < k ∧ mis sz E (1 - s) j ∧ ad E s i j = true)]
  constructor
  · rintro ⟨j, h1, h2⟩
    refine ⟨j, ?_, h2⟩
    by_cases e : j = k
    · subst e; exact (h h2).elim
    · omega
  · rintro ⟨j, h1, h2⟩; exact ⟨j, by omega, h2⟩
theorem pv_yes {s i k : Nat} (h : mis sz E (1 - s) k ∧ ad E s i k = true) : pv sz E s i (k + 1) = 2 * (1 - s) := by
  unfold pv
  rw [dc_iff.2 ⟨k, by omega, h⟩]; rfl
theorem pv_0 {s i : Nat} : pv sz E s i 0 = if dc (mis sz E s i) then 2 * s else 1 := by
  unfold pv
  rw [dc_no.2 (fun ⟨j, h, _⟩ => absurd h (by omega))]; rfl
theorem m_parts (hm : ML h y) (hg : MG h y sz E) (hw : W1 h y sz E) : Ev G m_X6_parts [.ref y] h 0 0 (RV (fun h1 => EO y [6, 7] [] h h1 ∧ W2 h1 y sz E)) := by
  obtain ⟨r2, k2, l2⟩ := hm.r 2 1 4 2500 (by decide)
  obtain ⟨r7, k7, l7⟩ := hm.r 7 4 4 50 (by decide)
  obtain ⟨r8, k8, l8⟩ := hm.r 8 5 4 50 (by decide)
  obtain ⟨r9, k9, l9⟩ := hm.r 9 6 2 50 (by decide)
  obtain ⟨r10, k10, l10⟩ := hm.r 10 7 2 50 (by decide)
  have y0 := hm.2.1
  obtain ⟨g1, g2, g3, g4, g5, g6⟩ := id hg
  refine Ev.of pn_X6_parts (Nat.le_of_ble_eq_true rfl) ?_
  refine s_X6_parts_0 ?_
  have in2 : ∀ l, l < sz 1 → ∀ (Z : Option Value → PH → Prop), (∀ h1, EO y [6, 7] [] h h1 → (∀ l', l' < sz 0 → hI h1 (y + 6) l' = nI (prt sz E 0 l')) → (∀ l', l' < l + 1 → hI h1 (y + 7) l' = nI (prt sz E 1 l')) → RR G (hN h + 0) (hS h + 0) m_X6_parts 93 [some (.ref y), some (.int (nI l + 1)), none] [] h1 Z) →
      ∀ d r h1, r + d = sz 0 → EO y [6, 7] [] h h1 → (∀ l', l' < sz 0 → hI h1 (y + 6) l' = nI (prt sz E 0 l')) → (∀ l', l' < l → hI h1 (y + 7) l' = nI (prt sz E 1 l')) → hI h1 (y + 7) l = nI (pv sz E 1 l r) → RR G (hN h + 0) (hS h + 0) m_X6_parts 123 [some (.ref y), some (.int (nI l)), some (.int (nI r))] [] h1 Z := by
    intro l hl Z K d
    induction d with
    | zero =>
      intro r h1 e eo hp6 hb hv
      have e : r = sz 0 := by omega
      subst e
      obtain ⟨o1, o2, o3, -⟩ := id eo
      have en : hI h1 y 0 = nI (sz 0) := (eo.f 0 (by decide)).trans g1
      have no : ¬ hI h1 y 0 ≤ nI (sz 0) → False := fun z => z (by rw [en]; exact nI_le (Nat.le_refl _) (by omega))
      refine s_X6_parts_123 (by rw [o1]; exact hm.1) (fun _ => K h1 eo hp6 (fun l' hl' => ?_)) (by rw [o3, r10]; omega) (by rw [o3, r2]; omega) (by rw [o1, o3, r2]; exact k2) (fun z => (no z).elim) (by rw [o1, o3, r10]; exact k10) (fun z => (no z).elim) (fun z => (no z).elim) (by rw [o3, r7]; omega) (by rw [o1, o3, r7]; exact k7) (fun z => (no z).elim) (fun z => (no z).elim) (fun z => (no z).elim) (fun z => (no z).elim) (fun z => (no z).elim) (fun z => (no z).elim)
      by_cases e : l' = l
      · rw [e, hv]
        exact congrArg nI (pv_end g6 (s := 1) (by decide))
      · exact hb l' (by omega)
    | succ d ih =>
      intro r h1 e eo hp6 hb hv
      have hr : r < sz 0 := by omega
      obtain ⟨o1, o2, o3, -⟩ := id eo
      have en : hI h1 y 0 = nI (sz 0) := (eo.f 0 (by decide)).trans g1
      have cl' : Int32.toNatClampNeg (nI l) = l := nI_clamp (by omega)
      have cr : Int32.toNatClampNeg (nI r) = r := nI_clamp (by omega)
      have ix : (50 : Int32) * nI r + nI l = nI (50 * r + l) := idx50 (by omega) (by omega)
      have ci : Int32.toNatClampNeg (nI (50 * r + l)) = 50 * r + l := nI_clamp (by omega)
      have vE : hI h1 (y + 1) (50 * r + l) = b2i (E r l) := (eo.i 1 rfl _).trans (g5 r l (by omega) (by omega))
      have v7 : hI h1 (y + 4) r = b2i (dc (mis sz E 0 r)) := (eo.i 4 rfl _).trans (hw.1 r hr)
      have vpl : vp_in (nI l) 50 := vp_in_nI (by omega) (by decide)
      have e10 : hR h1 y 10 = y + 7 := by rw [o3]; exact r10
      have e2 : hR h1 y 2 = y + 1 := by rw [o3]; exact r2
      have e7 : hR h1 y 7 = y + 4 := by rw [o3]; exact r7
      have vp10 : vp_in (nI l) (hL h1 (hR h1 y 10)) := by rw [o2, e10, l10]; exact vpl
      have step : ∀ v, v = nI (pv sz E 1 l (r + 1)) → RR G (hN h + 0) (hS h + 0) m_X6_parts 123 [some (.ref y), some (.int (nI l)), some (.int (nI r + 1))] [] (sI h1 (y + 7) l v) Z := by
        intro v ev
        rw [nI_1]
        refine ih (r + 1) _ (by omega) (eo.trans (EO.cI (by decide) (by decide) (by decide))) (fun l' hl' => by rw [sI_ne (by omega)]; exact hp6 l' hl') (fun l' hl' => by rw [sI_nk (by omega)]; exact hb l' hl') ?_
        rw [sI_eq]; exact ev
      refine s_X6_parts_123 (by rw [o1]; exact hm.1) (fun z => absurd z (by rw [en]; exact nI_ge hr (by omega))) (by rw [e10]; omega) (by rw [e2]; omega) (by rw [o1, e2]; exact k2) (fun _ => by rw [o2, e2, l2, ix]; exact vp_in_nI (by omega) (by decide)) (by rw [o1, e10]; exact k10) (fun _ _ => vp10) (fun _ z => ?_) (by rw [e7]; omega) (by rw [o1, e7]; exact k7) (fun _ _ => by rw [o2, e7, l7]; exact vp_in_nI (by omega) (by decide)) (fun _ _ _ => vp10) (fun _ _ _ => vp10) (fun _ z1 z2 => ?_) (fun _ _ _ => vp10) (fun _ z1 z2 => ?_)
      · rw [e2, ix, ci, vE, b2i_0] at z
        rw [e10, cl']
        exact step _ (hv.trans (congrArg nI (pv_no (fun w => by have w2 : E r l = true := w.2; rw [z] at w2; cases w2)).symm))
      · rw [e7, cr, v7, b2i_0, dc_no] at z2
        rw [e10, cl']
        exact step _ (hv.trans (congrArg nI (pv_no (fun w => z2 w.1)).symm))
      · rw [e2, ix, ci, vE, b2i_n] at z1
        rw [e7, cr, v7, b2i_n, dc_iff] at z2
        rw [e10, cl']
        exact step 0 (by rw [pv_yes (s := 1) ⟨z2, z1⟩]; rfl)
  have out2 : ∀ d l h1, l + d = sz 1 → EO y [6, 7] [] h h1 → (∀ l', l' < sz 0 → hI h1 (y + 6) l' = nI (prt sz E 0 l')) → (∀ l', l' < l → hI h1 (y + 7) l' = nI (prt sz E 1 l')) → RR G (hN h + 0) (hS h + 0) m_X6_parts 93 [some (.ref y), some (.int (nI l)), none] [] h1 (fun v h' => RV (fun h1 => EO y [6, 7] [] h h1 ∧ W2 h1 y sz E) v h' ∧ hN h' = hN h + 0 ∧ hS h' = hS h + 0) := by
    intro d
    induction d with
    | zero =>
      intro l h1 e eo hp6 hb
      have e : l = sz 1 := by omega
      subst e
      obtain ⟨o1, o2, o3, -⟩ := id eo
      have en : hI h1 y 1 = nI (sz 1) := (eo.f 1 (by decide)).trans g2
      have no : ¬ hI h1 y 1 ≤ nI (sz 1) → False := fun z => z (by rw [en]; exact nI_le (Nat.le_refl _) (by omega))
      exact s_X6_parts_93 (by rw [o1]; exact hm.1) (fun _ => ⟨⟨rfl, eo, hp6, hb⟩, eo.2.2.2.1, eo.2.2.2.2.1⟩) (by rw [o3, r10]; omega) (by rw [o3, r8]; omega) (by rw [o1, o3, r8]; exact k8) (fun z => (no z).elim) (by rw [o1, o3, r10]; exact k10) (fun z => (no z).elim) (fun z => (no z).elim) (fun z => (no z).elim) (fun z => (no z).elim)
    | succ d ih =>
      intro l h1 e eo hp6 hb
      have hl : l < sz 1 := by omega
      obtain ⟨o1, o2, o3, -⟩ := id eo
      have en : hI h1 y 1 = nI (sz 1) := (eo.f 1 (by decide)).trans g2
      have cl' : Int32.toNatClampNeg (nI l) = l := nI_clamp (by omega)
      have vpl : vp_in (nI l) 50 := vp_in_nI (by omega) (by decide)
      have v8 : hI h1 (y + 5) l = b2i (dc (mis sz E 1 l)) := (eo.i 5 rfl _).trans (hw.2 l hl)
      have go : ∀ v, v = nI (pv sz E 1 l 0) → RR G (hN h + 0) (hS h + 0) m_X6_parts 123 [some (.ref y), some (.int (nI l)), some (.int (nI 0))] [] (sI h1 (y + 7) l v) (fun v h' => RV (fun h1 => EO y [6, 7] [] h h1 ∧ W2 h1 y sz E) v h' ∧ hN h' = hN h + 0 ∧ hS h' = hS h + 0) := by
        intro v ev
        refine in2 l hl _ (fun h2 eo2 hp2 hb2 => by rw [nI_1]; exact ih (l + 1) h2 (by omega) eo2 hp2 hb2) (sz 0) 0 _ (by omega) (eo.trans (EO.cI (by decide) (by decide) (by decide))) (fun l' hl' => by rw [sI_ne (by omega)]; exact hp6 l' hl') (fun l' hl' => by rw [sI_nk (by omega)]; exact hb l' hl') (by rw [sI_eq]; exact ev)
      refine s_X6_parts_93 (by rw [o1]; exact hm.1) (fun z => absurd z (by rw [en]; exact nI_ge hl (by omega))) (by rw [o3, r10]; omega) (by rw [o3, r8]; omega) (by rw [o1, o3, r8]; exact k8) (fun _ => by rw [o2, o3, r8, l8]; exact vpl) (by rw [o1, o3, r10]; exact k10) (fun _ _ => by rw [o2, o3, r10, l10]; exact vpl) (fun _ z => ?_) (fun _ _ => by rw [o2, o3, r10, l10]; exact vpl) (fun _ z => ?_)
      · rw [o3, r8, cl', v8, b2i_0] at z
        rw [o3, r10, cl']
        exact go 1 (by rw [pv_0, z]; rfl)
      · rw [o3, r8, cl', v8, b2i_n] at z
        rw [o3, r10, cl']
        exact go 2 (by rw [pv_0, z]; rfl)
  have in1 : ∀ l, l < sz 0 → ∀ (Z : Option Value → PH → Prop), (∀ h1, EO y [6, 7] [] h h1 → (∀ l', l' < l + 1 → hI h1 (y + 6) l' = nI (prt sz E 0 l')) → RR G (hN h + 0) (hS h + 0) m_X6_parts 2 [some (.ref y), some (.int (nI l + 1)), none] [] h1 Z) →
      ∀ d r h1, r + d = sz 1 → EO y [6, 7] [] h h1 → (∀ l', l' < l → hI h1 (y + 6) l' = nI (prt sz E 0 l')) → hI h1 (y + 6) l = nI (pv sz E 0 l r) → RR G (hN h + 0) (hS h + 0) m_X6_parts 32 [some (.ref y), some (.int (nI l)), some (.int (nI r))] [] h1 Z := by
    intro l hl Z K d
    induction d with
    | zero =>
      intro r h1 e eo hb hv
      have e : r = sz 1 := by omega
      subst e
      obtain ⟨o1, o2, o3, -⟩ := id eo
      have en : hI h1 y 1 = nI (sz 1) := (eo.f 1 (by decide)).trans g2
      have no : ¬ hI h1 y 1 ≤ nI (sz 1) → False := fun z => z (by rw [en]; exact nI_le (Nat.le_refl _) (by omega))
      refine s_X6_parts_32 (by rw [o1]; exact hm.1) (fun _ => K h1 eo (fun l' hl' => ?_)) (by rw [o3, r9]; omega) (by rw [o3, r2]; omega) (by rw [o1, o3, r2]; exact k2) (fun z => (no z).elim) (by rw [o1, o3, r9]; exact k9) (fun z => (no z).elim) (fun z => (no z).elim) (by rw [o3, r8]; omega) (by rw [o1, o3, r8]; exact k8) (fun z => (no z).elim) (fun z => (no z).elim) (fun z => (no z).elim) (fun z => (no z).elim) (fun z => (no z).elim) (fun z => (no z).elim)
      by_cases e : l' = l
      · rw [e, hv]
        exact congrArg nI (pv_end g6 (s := 0) (by decide))
      · exact hb l' (by omega)
    | succ d ih =>
      intro r h1 e eo hb hv
      have hr : r < sz 1 := by omega
      obtain ⟨o1, o2, o3, -⟩ := id eo
      have en : hI h1 y 1 = nI (sz 1) := (eo.f 1 (by decide)).trans g2
      have cl' : Int32.toNatClampNeg (nI l) = l := nI_clamp (by omega)
      have cr : Int32.toNatClampNeg (nI r) = r := nI_clamp (by omega)
      have ix : (50 : Int32) * nI l + nI r = nI (50 * l + r) := idx50 (by omega) (by omega)
      have ci : Int32.toNatClampNeg (nI (50 * l + r)) = 50 * l + r := nI_clamp (by omega)
      have vE : hI h1 (y + 1) (50 * l + r) = b2i (E l r) := (eo.i 1 rfl _).trans (g5 l r (by omega) (by omega))
      have v8 : hI h1 (y + 5) r = b2i (dc (mis sz E 1 r)) := (eo.i 5 rfl _).trans (hw.2 r hr)
      have vpl : vp_in (nI l) 50 := vp_in_nI (by omega) (by decide)
      have e9 : hR h1 y 9 = y + 6 := by rw [o3]; exact r9
      have e2 : hR h1 y 2 = y + 1 := by rw [o3]; exact r2
      have e8 : hR h1 y 8 = y + 5 := by rw [o3]; exact r8
      have vp9 : vp_in (nI l) (hL h1 (hR h1 y 9)) := by rw [o2, e9, l9]; exact vpl
      have step : ∀ v, v = nI (pv sz E 0 l (r + 1)) → RR G (hN h + 0) (hS h + 0) m_X6_parts 32 [some (.ref y), some (.int (nI l)), some (.int (nI r + 1))] [] (sI h1 (y + 6) l v) Z := by
        intro v ev
        rw [nI_1]
        refine ih (r + 1) _ (by omega) (eo.trans (EO.cI (by decide) (by decide) (by decide))) (fun l' hl' => by rw [sI_nk (by omega)]; exact hb l' hl') ?_
        rw [sI_eq]; exact ev
      refine s_X6_parts_32 (by rw [o1]; exact hm.1) (fun z => absurd z (by rw [en]; exact nI_ge hr (by omega))) (by rw [e9]; omega) (by rw [e2]; omega) (by rw [o1, e2]; exact k2) (fun _ => by rw [o2, e2, l2, ix]; exact vp_in_nI (by omega) (by decide)) (by rw [o1, e9]; exact k9) (fun _ _ => vp9) (fun _ z => ?_) (by rw [e8]; omega) (by rw [o1, e8]; exact k8) (fun _ _ => by rw [o2, e8, l8]; exact vp_in_nI (by omega) (by decide)) (fun _ _ _ => vp9) (fun _ _ _ => vp9) (fun _ z1 z2 => ?_) (fun _ _ _ => vp9) (fun _ z1 z2 => ?_)
      · rw [e2, ix, ci, vE, b2i_0] at z
        rw [e9, cl']
        exact step _ (hv.trans (congrArg nI (pv_no (fun w => by have w2 : E l r = true := w.2; rw [z] at w2; cases w2)).symm))
      · rw [e8, cr, v8, b2i_0, dc_no] at z2
        rw [e9, cl']
        exact step _ (hv.trans (congrArg nI (pv_no (fun w => z2 w.1)).symm))
      · rw [e2, ix, ci, vE, b2i_n] at z1
        rw [e8, cr, v8, b2i_n, dc_iff] at z2
        rw [e9, cl']
        exact step 2 (by rw [pv_yes (s := 0) ⟨z2, z1⟩]; rfl)
  have out1 : ∀ d l h1, l + d = sz 0 → EO y [6, 7] [] h h1 → (∀ l', l' < l → hI h1 (y + 6) l' = nI (prt sz E 0 l')) → RR G (hN h + 0) (hS h + 0) m_X6_parts 2 [some (.ref y), some (.int (nI l)), none] [] h1 (fun v h' => RV (fun h1 => EO y [6, 7] [] h h1 ∧ W2 h1 y sz E) v h' ∧ hN h' = hN h + 0 ∧ hS h' = hS h + 0) := by
    intro d
    induction d with
    | zero =>
      intro l h1 e eo hb
      have e : l = sz 0 := by omega
      subst e
      obtain ⟨o1, o2, o3, -⟩ := id eo
      have en : hI h1 y 0 = nI (sz 0) := (eo.f 0 (by decide)).trans g1
      have no : ¬ hI h1 y 0 ≤ nI (sz 0) → False := fun z => z (by rw [en]; exact nI_le (Nat.le_refl _) (by omega))
      refine s_X6_parts_2 (by rw [o1]; exact hm.1) (fun _ => ?_) (by rw [o3, r9]; omega) (by rw [o3, r7]; omega) (by rw [o1, o3, r7]; exact k7) (fun z => (no z).elim) (by rw [o1, o3, r9]; exact k9) (fun z => (no z).elim) (fun z => (no z).elim) (fun z => (no z).elim) (fun z => (no z).elim)
      rw [← nI_0]
      exact out2 (sz 1) 0 h1 (by omega) eo hb (fun l' hl' => absurd hl' (by omega))
    | succ d ih =>
      intro l h1 e eo hb
      have hl : l < sz 0 := by omega
      obtain ⟨o1, o2, o3, -⟩ := id eo
      have en : hI h1 y 0 = nI (sz 0) := (eo.f 0 (by decide)).trans g1
      have cl' : Int32.toNatClampNeg (nI l) = l := nI_clamp (by omega)
      have vpl : vp_in (nI l) 50 := vp_in_nI (by omega) (by decide)
      have v7 : hI h1 (y + 4) l = b2i (dc (mis sz E 0 l)) := (eo.i 4 rfl _).trans (hw.1 l hl)
      have go : ∀ v, v = nI (pv sz E 0 l 0) → RR G (hN h + 0) (hS h + 0) m_X6_parts 32 [some (.ref y), some (.int (nI l)), some (.int (nI 0))] [] (sI h1 (y + 6) l v) (fun v h' => RV (fun h1 => EO y [6, 7] [] h h1 ∧ W2 h1 y sz E) v h' ∧ hN h' = hN h + 0 ∧ hS h' = hS h + 0) := by
        intro v ev
        refine in1 l hl _ (fun h2 eo2 hb2 => by rw [nI_1]; exact ih (l + 1) h2 (by omega) eo2 hb2) (sz 1) 0 _ (by omega) (eo.trans (EO.cI (by decide) (by decide) (by decide))) (fun l' hl' => by rw [sI_nk (by omega)]; exact hb l' hl') (by rw [sI_eq]; exact ev)
      refine s_X6_parts_2 (by rw [o1]; exact hm.1) (fun z => absurd z (by rw [en]; exact nI_ge hl (by omega))) (by rw [o3, r9]; omega) (by rw [o3, r7]; omega) (by rw [o1, o3, r7]; exact k7) (fun _ => by rw [o2, o3, r7, l7]; exact vpl) (by rw [o1, o3, r9]; exact k9) (fun _ _ => by rw [o2, o3, r9, l9]; exact vpl) (fun _ z => ?_) (fun _ _ => by rw [o2, o3, r9, l9]; exact vpl) (fun _ z => ?_)
      · rw [o3, r7, cl', v7, b2i_0] at z
        rw [o3, r9, cl']
        exact go 1 (by rw [pv_0, z]; rfl)
      · rw [o3, r7, cl', v7, b2i_n] at z
        rw [o3, r9, cl']
        exact go 0 (by rw [pv_0, z]; rfl)
  rw [← nI_0]
  exact out1 (sz 0) 0 h (by omega) EO.rf (fun l' hl' => absurd hl' (by omega))
