variable {G : GG} {h h' : PH} {y : Nat} {sz : Nat → Nat} {E : Nat → Nat → Bool}
theorem EG.eo {S D : List Nat} {n m : Nat} {A : Nat → Nat → Bool} {mt : Nat → Nat → Option Nat} {op : Nat → Nat → Bool} (hg : EG h y n m A mt op) (eo : EO y S D h h') (h1 : (decide (18 ∉ S) && decide (19 ∉ S) && decide (20 ∉ S) && decide (21 ∉ S) && decide (22 ∉ S) && decide (28 ∉ D) && decide (29 ∉ D)) = true) : EG h' y n m A mt op := by
  simp only [Bool.and_eq_true, decide_eq_true_iff] at h1
  obtain ⟨⟨⟨⟨⟨⟨a, b⟩, c⟩, d⟩, e⟩, f⟩, g⟩ := h1
  exact hg.grow eo (hg.2.2.2.2.eo eo d e) a b c f g
/-- what the reference knows of its graph once it has worked it out -/
def MW (h : PH) (y : Nat) (sz : Nat → Nat) (E : Nat → Nat → Bool) : Prop := hI h y 4 = nI (siz (sz 0) (bst sz E 0)) ∧ (∀ i, i < 50 → hI h (y + 2) i = e1 (bst sz E 0 i) ∧ hI h (y + 3) i = e1 (bst sz E 1 i)) ∧ W1 h y sz E ∧ W2 h y sz E ∧ W3 h y sz E (bst sz E 1) ∧ Best (sz 0) E (bst sz E 0) (bst sz E 1) (sz 0)
def MGS (h : PH) (y : Nat) (sz : Nat → Nat) (E : Nat → Nat → Bool) : Prop := ML h y ∧ MG h y sz E ∧ (hI h y 3 = 0 ∨ hI h y 3 = 1) ∧ (¬ hI h y 3 = 0 → MW h y sz E ∧ (¬ hI h y 14 = 0 → hJ h y 15 = c64 (ncd sz E)))
def wkS : List Nat := [2, 3, 4, 5, 6, 7, 8, 9, 18, 19, 20, 21, 22, 23, 24, 25, 26]
def wkD : List Nat := [3, 4, 13, 14, 28, 29, 38]
theorem MW.eo {S D : List Nat} (hw : MW h y sz E) (eo : EO y S D h h') (h1 : (decide (2 ∉ S) && decide (3 ∉ S) && decide (4 ∉ S) && decide (5 ∉ S) && decide (6 ∉ S) && decide (7 ∉ S) && decide (8 ∉ S) && decide (9 ∉ S) && decide (4 ∉ D) && decide (13 ∉ D)) = true) : MW h' y sz E := by
  simp only [Bool.and_eq_true, decide_eq_true_iff] at h1
  obtain ⟨⟨⟨⟨⟨⟨⟨⟨⟨a2, a3⟩, a4⟩, a5⟩, a6⟩, a7⟩, a8⟩, a9⟩, d4⟩, d13⟩ := h1
  obtain ⟨q1, q2, q3, q4, ⟨q5, q6, q7⟩, q8⟩ := hw
  have c := eo.2.2.2.2.2.2.1
  refine ⟨(eo.f 4 d4).trans q1, fun i hi => ⟨((c 2 (by decide) (by decide) a2).1 i).trans (q2 i hi).1, ((c 3 (by decide) (by decide) a3).1 i).trans (q2 i hi).2⟩, q3.eo eo a4 a5, q4.eo eo a6 a7, ⟨fun a b ha hb => ((c 9 (by decide) (by decide) a9).1 _).trans (q5 a b ha hb), (eo.f 13 d13).trans q6, fun l hl => ((c 8 (by decide) (by decide) a8).1 l).trans (q7 l hl)⟩, q8⟩
theorem m_work (hg : MGS h y sz E) : Ev G m_X6_work [.ref y] h 0 0 (RV (fun h1 => EO y wkS wkD h h1 ∧ MGS h1 y sz E ∧ MW h1 y sz E ∧ ¬ hI h1 y 3 = 0)) := by
  obtain ⟨hm, hG0, h01, hfr⟩ := id hg
  obtain ⟨g1, g2, g3, g4, g5, g6⟩ := id hG0
  obtain ⟨r2, k2, l2⟩ := hm.r 2 1 4 2500 (by decide)
  obtain ⟨r7, k7, l7⟩ := hm.r 7 4 4 50 (by decide)
  obtain ⟨r8, k8, l8⟩ := hm.r 8 5 4 50 (by decide)
  obtain ⟨r5, k5, l5⟩ := hm.r 5 2 2 50 (by decide)
  obtain ⟨r6, k6, l6⟩ := hm.r 6 3 2 50 (by decide)
  obtain ⟨r32, k32, l32⟩ := hm.r 32 21 2 50 (by decide)
  obtain ⟨r33, k33, l33⟩ := hm.r 33 22 2 50 (by decide)
  have y0 := hm.2.1
  refine Ev.of pn_X6_work (Nat.le_of_ble_eq_true rfl) ?_
  refine s_X6_work_0 hm.1 (by rw [r2]; omega) (fun _ => by rw [r2, g1, g2]; exact m_use hm (Or.inl rfl) g3 g4 g5 g6) (fun _ h1 q _ _ => ?_) (fun z => ⟨⟨rfl, EO.rf, hg, (hfr z).1, z⟩, rfl, rfl⟩)
  obtain ⟨eo1, eg1⟩ := q
  have eo1 : EO y wkS wkD h h1 := eo1.wide (by decide) (by decide)
  refine s_X6_work_24 (m_growAll eg1 isM_none (fun l b z => by cases z)) eg1.1.1 (fun x h2 q _ _ => ?_)
  obtain ⟨eo2, mt, k, p1, p2, p3, p4, p5, p6, p7⟩ := q
  have eg2 : EG h2 y (sz 0) (sz 1) E mt (opAll (sz2 (sz 0) (sz 1))) := eg1.grow eo2 p1 (by decide) (by decide) (by decide) (by decide) (by decide)
  have hGr : Great (sz 0) E (mt 0) (mt 1) := cert_all (sz := sz2 (sz 0) (sz 1)) g6 p2 p4
  have ek : k = siz (sz 0) (mt 0) := by
    rw [show siz (sz 0) ((fun _ _ => none : Nat → Nat → Option Nat) 0) = 0 from siz_none] at p6
    omega
  subst p7
  refine s_X6_work_28 eg2.1.1 ?_
  have eoA : EO y [] [3, 14, 4] h2 (sI (sI (sI h2 y 3 1) y 14 0) y 4 (nI k)) := ((EO.s0 (by decide)).trans (EO.s0 (by decide))).trans (EO.s0 (by decide))
  have eo3 : EO y wkS wkD h (sI (sI (sI h2 y 3 1) y 14 0) y 4 (nI k)) := (eo1.trans (eo2.wide (by decide) (by decide))).trans (eoA.wide (by decide) (by decide))
  have eg3 := eg2.eo eoA rfl
  have s3 : hI (sI (sI (sI h2 y 3 1) y 14 0) y 4 (nI k)) y 3 = 1 := by rw [sI_nk (by decide), sI_nk (by decide), sI_eq]
  have s14 : hI (sI (sI (sI h2 y 3 1) y 14 0) y 4 (nI k)) y 14 = 0 := by rw [sI_nk (by decide), sI_eq]
  have s4 : hI (sI (sI (sI h2 y 3 1) y 14 0) y 4 (nI k)) y 4 = nI k := sI_eq
  generalize (sI (sI (sI h2 y 3 1) y 14 0) y 4 (nI k)) = h3 at eo3 eg3 s3 s14 s4 ⊢
  clear eoA
  -- the copy of the best pairing, and the blocks
  have copy : ∀ (mt' : Nat → Nat → Option Nat) (h4 : PH), Best (sz 0) E (mt' 0) (mt' 1) (sz 0) → EO y wkS wkD h h4 → EG h4 y (sz 0) (sz 1) E mt' (opAll (sz2 (sz 0) (sz 1))) → W1 h4 y sz E → W2 h4 y sz E → hI h4 y 3 = 1 → hI h4 y 14 = 0 → hI h4 y 4 = nI k → ∀ e1' : Int32, ∀ d i h5, i + d = 50 → EO y [2, 3] [] h4 h5 → (∀ j, j < i → hI h5 (y + 2) j = e1 (mt' 0 j) ∧ hI h5 (y + 3) j = e1 (mt' 1 j)) → RR G (hN h + 0) (hS h + 0) m_X6_work 110 [some (.ref y), some (.int e1'), some (.int (nI i))] [] h5 (fun v h' => RV (fun h1 => EO y wkS wkD h h1 ∧ MGS h1 y sz E ∧ MW h1 y sz E ∧ ¬ hI h1 y 3 = 0) v h' ∧ hN h' = hN h + 0 ∧ hS h' = hS h + 0) := by
    intro mt' h4 hB eo4 eg4 w1 w2 t3 t14 t4 e1' d
    obtain ⟨eb0, eb1⟩ := bst_eq g6 hB
    induction d with
    | zero =>
      intro i h5 e eo5 hb
      have e : i = 50 := by omega
      subst e
      obtain ⟨o1, o2, o3, -⟩ := id (eo4.trans (eo5.wide (S' := wkS) (D' := wkD) (by decide) (by decide)))
      have eo6 : EO y wkS wkD h h5 := eo4.trans (eo5.wide (by decide) (by decide))
      have no : ¬ (50 : Int32) ≤ nI 50 → False := fun z => z (by decide)
      refine s_X6_work_110 (fun _ => m_blocks (f := mt' 0) (f' := mt' 1) (hm.eo eo6) (hG0.eo eo6 (by decide) (by decide) (by decide)) (w2.eo eo5 (by decide) (by decide)) hB.1.1 (fun r hr => (hb r hr).2)) (by rw [o1]; exact hm.1) (fun _ h7 q _ _ => ?_) (by rw [o3, r5]; omega) (by rw [o3, r32]; omega) (by rw [o1, o3, r32]; exact k32) (fun z => (no z).elim) (by rw [o1, o3, r5]; exact k5) (fun z => (no z).elim) (by rw [o3, r6]; omega) (by rw [o3, r33]; omega) (by rw [o1, o3, r33]; exact k33) (fun z => (no z).elim) (by rw [o1, o3, r6]; exact k6) (fun z => (no z).elim) (fun z => (no z).elim)
      obtain ⟨eo7, w3⟩ := q
      have eo8 : EO y wkS wkD h h7 := eo6.trans (eo7.wide (by decide) (by decide))
      have mw : MW h7 y sz E := by
        refine ⟨?_, fun j hj => ?_, (w1.eo eo5 (by decide) (by decide)).eo eo7 (by decide) (by decide), (w2.eo eo5 (by decide) (by decide)).eo eo7 (by decide) (by decide), by rw [← eb1]; exact w3, by rw [← eb0, ← eb1]; exact hB⟩
        · rw [eo7.f 4 (by decide), eo5.f 4 (by decide), t4, ek, ← eb0, great_siz hGr hB.1]
        · rw [eo7.i 2 rfl, eo7.i 3 rfl, ← eb0, ← eb1]; exact hb j hj
      have u3 : hI h7 y 3 = 1 := by rw [eo7.f 3 (by decide), eo5.f 3 (by decide)]; exact t3
      have u14 : hI h7 y 14 = 0 := by rw [eo7.f 14 (by decide), eo5.f 14 (by decide)]; exact t14
      refine s_X6_work_150 ⟨⟨rfl, eo8, ⟨hm.eo eo8, hG0.eo eo8 (by decide) (by decide) (by decide), Or.inr u3, fun _ => ⟨mw, fun z => (z u14).elim⟩⟩, mw, by rw [u3]; decide⟩, eo8.2.2.2.1, eo8.2.2.2.2.1⟩
    | succ d ih =>
      intro i h5 e eo5 hb
      obtain ⟨o1, o2, o3, -⟩ := id (eo4.trans (eo5.wide (S' := wkS) (D' := wkD) (by decide) (by decide)))
      have ci : Int32.toNatClampNeg (nI i) = i := nI_clamp (by omega)
      have vp : vp_in (nI i) 50 := vp_in_nI (by omega) (by decide)
      refine s_X6_work_110 (P1 := fun _ => True) (fun z => absurd z (by rw [e50]; exact nI_ge (by omega) (by decide))) (by rw [o1]; exact hm.1) (fun z => absurd z (by rw [e50]; exact nI_ge (by omega) (by decide))) (by rw [o3, r5]; omega) (by rw [o3, r32]; omega) (by rw [o1, o3, r32]; exact k32) (fun _ => by rw [o2, o3, r32, l32]; exact vp) (by rw [o1, o3, r5]; exact k5) (fun _ => by rw [o2, o3, r5, l5]; exact vp) (by rw [o3, r6]; omega) (by rw [o3, r33]; omega) (by rw [o1, o3, r33]; exact k33) (fun _ => by rw [o2, o3, r33, l33]; exact vp) (by rw [o1, o3, r6]; exact k6) (fun _ => by rw [o2, o3, r6, l6]; exact vp) (fun _ => ?_)
      rw [o3, r5, r32, r6, r33, ci, nI_1, sI_ne (show y + 22 ≠ y + 2 by omega)]
      refine ih (i + 1) _ (by omega) ((eo5.trans (EO.cI (by decide) (by decide) (by decide))).trans (EO.cI (by decide) (by decide) (by decide))) (fun j hj => ?_)
      have em := eg4.2.2.2.2.1
      rw [sI_ne (show y + 2 ≠ y + 3 by omega)]
      by_cases ej : j = i
      · subst ej
        rw [sI_eq, sI_eq, eo5.i 21 rfl, eo5.i 22 rfl]
        exact em j (by omega)
      · rw [sI_nk ej, sI_nk ej, sI_ne (show y + 3 ≠ y + 2 by omega)]
        exact hb j (by omega)
  -- the right nodes that can be missed
  have right : ∀ (e1' : Int32) d r h4, r + d = sz 1 → EO y wkS wkD h h4 → EG h4 y (sz 0) (sz 1) E mt (opAll (sz2 (sz 0) (sz 1))) → hI h4 y 3 = 1 → hI h4 y 14 = 0 → hI h4 y 4 = nI k → (∀ l, l < sz 0 → hI h4 (y + 4) l = b2i (dc (mis sz E 0 l))) → (∀ r', r' < r → hI h4 (y + 5) r' = b2i (dc (mis sz E 1 r'))) → RR G (hN h + 0) (hS h + 0) m_X6_work 74 [some (.ref y), some (.int e1'), some (.int (nI r))] [] h4 (fun v h' => RV (fun h1 => EO y wkS wkD h h1 ∧ MGS h1 y sz E ∧ MW h1 y sz E ∧ ¬ hI h1 y 3 = 0) v h' ∧ hN h' = hN h + 0 ∧ hS h' = hS h + 0) := by
    intro e1' d
    induction d with
    | zero =>
      intro r h4 e eo4 eg4 t3 t14 t4 hl hr
      have e : r = sz 1 := by omega
      subst e
      obtain ⟨o1, o2, o3, -⟩ := id eo4
      have en : hI h4 y 1 = nI (sz 1) := (eo4.f 1 (by decide)).trans g2
      have no : ¬ hI h4 y 1 ≤ nI (sz 1) → False := fun z => z (by rw [en]; exact nI_le (Nat.le_refl _) (by omega))
      have w1 : W1 h4 y sz E := ⟨hl, hr⟩
      refine s_X6_work_74 (P2 := fun _ _ => True) (by rw [o1]; exact hm.1) (fun _ => m_parts (hm.eo eo4) (hG0.eo eo4 (by decide) (by decide) (by decide)) w1) (fun _ h5 q _ _ => ?_) (by rw [o3, r8]; omega) (fun z => (no z).elim) (fun z => (no z).elim)
      obtain ⟨eo5, w2⟩ := q
      have eg5 := eg4.eo eo5 rfl
      refine s_X6_work_104 (m_improve eg5 hGr) eg5.1.1 (fun h6 q _ _ => ?_)
      obtain ⟨eo6, mt', eg6, hB⟩ := q
      refine s_X6_work_108 ?_
      rw [← nI_0]
      exact copy mt' h6 hB ((eo4.trans (eo5.wide (by decide) (by decide))).trans (eo6.wide (by decide) (by decide))) eg6 ((w1.eo eo5 (by decide) (by decide)).eo eo6 (by decide) (by decide)) (w2.eo eo6 (by decide) (by decide)) (by rw [eo6.f 3 (by decide), eo5.f 3 (by decide)]; exact t3) (by rw [eo6.f 14 (by decide), eo5.f 14 (by decide)]; exact t14) (by rw [eo6.f 4 (by decide), eo5.f 4 (by decide)]; exact t4) e1' 50 0 h6 (by omega) EO.rf (fun j hj => absurd hj (by omega))
    | succ d ih =>
      intro r h4 e eo4 eg4 t3 t14 t4 hl hr
      have hrl : r < sz 1 := by omega
      obtain ⟨o1, o2, o3, -⟩ := id eo4
      have en : hI h4 y 1 = nI (sz 1) := (eo4.f 1 (by decide)).trans g2
      have no : hI h4 y 1 ≤ nI r → False := fun z => absurd z (by rw [en]; exact nI_ge hrl (by omega))
      refine s_X6_work_74 (P1 := fun _ => True) (by rw [o1]; exact hm.1) (fun z => (no z).elim) (fun z => (no z).elim) (by rw [o3, r8]; omega) (fun _ => m_canMiss (s := 1) eg4 hGr (by decide) hrl) (fun _ x h5 q _ _ => ?_)
      obtain ⟨ex, eo5, eg5⟩ := q
      have cr : Int32.toNatClampNeg (nI r) = r := nI_clamp (by omega)
      obtain ⟨p1, p2', p3', -⟩ := id (eo4.trans (eo5.wide (S' := wkS) (D' := wkD) (by decide) (by decide)))
      rw [o3, r8]
      refine s_X6_work_93 (by rw [p1]; exact k8) (by rw [p2', l8]; exact vp_in_nI (by omega) (by decide)) (by rw [ex]; exact b2i_01 _) ?_
      rw [cr, nI_1]
      have eoB : EO y [5] [] h5 (sI h5 (y + 5) r x) := EO.cI (by decide) (by decide) (by decide)
      refine ih (r + 1) _ (by omega) ((eo4.trans (eo5.wide (by decide) (by decide))).trans (eoB.wide (by decide) (by decide))) (eg5.eo eoB rfl) (by rw [eoB.f 3 (by decide), eo5.f 3 (by decide)]; exact t3) (by rw [eoB.f 14 (by decide), eo5.f 14 (by decide)]; exact t14) (by rw [eoB.f 4 (by decide), eo5.f 4 (by decide)]; exact t4) (fun l hl' => by rw [eoB.i 4 rfl, eo5.i 4 rfl]; exact hl l hl') (fun r' hr' => ?_)
      by_cases er : r' = r
      · subst er; rw [sI_eq, ex, dc_congr (mis_sz2 (by decide))]
      · rw [sI_nk er, eo5.i 5 rfl]; exact hr r' (by omega)
  -- the left nodes that can be missed
  have left : ∀ (e1' : Int32) d l h4, l + d = sz 0 → EO y wkS wkD h h4 → EG h4 y (sz 0) (sz 1) E mt (opAll (sz2 (sz 0) (sz 1))) → hI h4 y 3 = 1 → hI h4 y 14 = 0 → hI h4 y 4 = nI k → (∀ l', l' < l → hI h4 (y + 4) l' = b2i (dc (mis sz E 0 l'))) → RR G (hN h + 0) (hS h + 0) m_X6_work 46 [some (.ref y), some (.int e1'), some (.int (nI l))] [] h4 (fun v h' => RV (fun h1 => EO y wkS wkD h h1 ∧ MGS h1 y sz E ∧ MW h1 y sz E ∧ ¬ hI h1 y 3 = 0) v h' ∧ hN h' = hN h + 0 ∧ hS h' = hS h + 0) := by
    intro e1' d
    induction d with
    | zero =>
      intro l h4 e eo4 eg4 t3 t14 t4 hl
      have e : l = sz 0 := by omega
      subst e
      obtain ⟨o1, o2, o3, -⟩ := id eo4
      have en : hI h4 y 0 = nI (sz 0) := (eo4.f 0 (by decide)).trans g1
      have no : ¬ hI h4 y 0 ≤ nI (sz 0) → False := fun z => z (by rw [en]; exact nI_le (Nat.le_refl _) (by omega))
      refine s_X6_work_46 (P1 := fun _ _ => True) (by rw [o1]; exact hm.1) (fun _ => ?_) (by rw [o3, r7]; omega) (fun z => (no z).elim) (fun z => (no z).elim)
      rw [← nI_0]
      exact right e1' (sz 1) 0 h4 (by omega) eo4 eg4 t3 t14 t4 hl (fun r' hr' => absurd hr' (by omega))
    | succ d ih =>
      intro l h4 e eo4 eg4 t3 t14 t4 hl
      have hll : l < sz 0 := by omega
      obtain ⟨o1, o2, o3, -⟩ := id eo4
      have en : hI h4 y 0 = nI (sz 0) := (eo4.f 0 (by decide)).trans g1
      have no : hI h4 y 0 ≤ nI l → False := fun z => absurd z (by rw [en]; exact nI_ge hll (by omega))
      refine s_X6_work_46 (by rw [o1]; exact hm.1) (fun z => (no z).elim) (by rw [o3, r7]; omega) (fun _ => m_canMiss (s := 0) eg4 hGr (by decide) hll) (fun _ x h5 q _ _ => ?_)
      obtain ⟨ex, eo5, eg5⟩ := q
      have cl' : Int32.toNatClampNeg (nI l) = l := nI_clamp (by omega)
      obtain ⟨p1, p2', p3', -⟩ := id (eo4.trans (eo5.wide (S' := wkS) (D' := wkD) (by decide) (by decide)))
      rw [o3, r7]
      refine s_X6_work_65 (by rw [p1]; exact k7) (by rw [p2', l7]; exact vp_in_nI (by omega) (by decide)) (by rw [ex]; exact b2i_01 _) ?_
      rw [cl', nI_1]
      have eoB : EO y [4] [] h5 (sI h5 (y + 4) l x) := EO.cI (by decide) (by decide) (by decide)
      refine ih (l + 1) _ (by omega) ((eo4.trans (eo5.wide (by decide) (by decide))).trans (eoB.wide (by decide) (by decide))) (eg5.eo eoB rfl) (by rw [eoB.f 3 (by decide), eo5.f 3 (by decide)]; exact t3) (by rw [eoB.f 14 (by decide), eo5.f 14 (by decide)]; exact t14) (by rw [eoB.f 4 (by decide), eo5.f 4 (by decide)]; exact t4) (fun l' hl' => ?_)
      by_cases er : l' = l
      · subst er; rw [sI_eq, ex, dc_congr (mis_sz2 (by decide))]
      · rw [sI_nk er, eo5.i 4 rfl]; exact hl l' (by omega)
  rw [← nI_0]
  exact left _ (sz 0) 0 h3 (by omega) eo3 eg3 s3 s14 s4 (fun l' hl' => absurd hl' (by omega))
