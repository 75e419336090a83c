variable {G : GG} {h h' : PH} {y n m : Nat} {A : Nat → Nat → Bool} {mt : Nat → Nat → Option Nat} {op : Nat → Nat → Bool}
/-- the searching part of the reference -/
def EG (h : PH) (y n m : Nat) (A : Nat → Nat → Bool) (mt : Nat → Nat → Option Nat) (op : Nat → Nat → Bool) : Prop := ML h y ∧ EN h y n m ∧ EE h y n m A ∧ EQ h y n m op ∧ EM h y mt
theorem EG.grow {S D : List Nat} {mt' : Nat → Nat → Option Nat} (hg : EG h y n m A mt op) (eo : EO y S D h h') (hp : EM h' y mt') (h1 : 18 ∉ S) (h2 : 19 ∉ S) (h3 : 20 ∉ S) (h4 : 28 ∉ D) (h5 : 29 ∉ D) : EG h' y n m A mt' op :=
  ⟨hg.1.eo eo, hg.2.1.eo eo h4 h5, hg.2.2.1.eo eo h1, hg.2.2.2.1.eo eo h2 h3, hp⟩
theorem siz_m {f f' : Nat → Option Nat} (hM : IsM A f f') : siz n f ≤ n := siz_le_n
theorem ga_all {nc ns : Nat} {Z : Option Value → PH → Prop} (hg0 : EG h y n m A mt op) (hz : ∀ mt' h1, EO y [21, 22, 25, 26] [38] h h1 → EM h1 y mt' → IsM A (mt' 0) (mt' 1) → (∀ l b, mt' 0 l = some b → op 0 l = op 1 b) → Cert A mt' op → (∀ s i, s < 2 → op s i = false → mt' s i = mt s i) → ∀ k, siz n (mt' 0) = siz n (mt 0) + k → Z (some (.int (nI k))) h1) :
    ∀ d k mc h1, n ≤ siz n (mc 0) + d → EO y [21, 22, 25, 26] [38] h h1 → EM h1 y mc → IsM A (mc 0) (mc 1) → (∀ l b, mc 0 l = some b → op 0 l = op 1 b) → (∀ s i, s < 2 → op s i = false → mc s i = mt s i) → siz n (mc 0) = siz n (mt 0) + k →
    RR G nc ns m_X6_growAll 2 [some (.ref y), some (.int (nI k))] [] h1 Z := by
  intro d
  induction d with
  | zero =>
    intro k mc h1 hd eo hp hM hoc hcl hk
    obtain ⟨q1, q2, q3, q4, q5⟩ := hg0.grow eo hp (by decide) (by decide) (by decide) (by decide) (by decide)
    refine s_X6_growAll_2 (m_grow q1 q2 q3 q4 q5 hM hoc) q1.1 (fun x h2 q n2 s2 => ?_)
    rcases q with ⟨e, eo2, mt', p1, p2, p3, p4, p5⟩ | ⟨e, eo2, p1, hC⟩
    · have := siz_le_n (n := n) (f := mt' 0)
      omega
    · subst e
      exact s_X6_growAll_6 (fun _ => hz mc h2 (eo.trans eo2) p1 hM hoc hC hcl k hk) (fun z => (z rfl).elim)
  | succ d ih =>
    intro k mc h1 hd eo hp hM hoc hcl hk
    obtain ⟨q1, q2, q3, q4, q5⟩ := hg0.grow eo hp (by decide) (by decide) (by decide) (by decide) (by decide)
    refine s_X6_growAll_2 (m_grow q1 q2 q3 q4 q5 hM hoc) q1.1 (fun x h2 q n2 s2 => ?_)
    rcases q with ⟨e, eo2, mt', p1, p2, p3, p4, p5⟩ | ⟨e, eo2, p1, hC⟩
    · subst e
      refine s_X6_growAll_6 (fun z => absurd z (by decide)) (fun _ => ?_)
      rw [nI_1]
      exact ih (k + 1) mt' h2 (by omega) (eo.trans eo2) p1 p2 p3 (fun s i hs ho => (p5 s i hs ho).trans (hcl s i hs ho)) (by omega)
    · subst e
      exact s_X6_growAll_6 (fun _ => hz mc h2 (eo.trans eo2) p1 hM hoc hC hcl k hk) (fun z => (z rfl).elim)
theorem m_growAll (hg : EG h y n m A mt op) (hM : IsM A (mt 0) (mt 1)) (hoc : ∀ l b, mt 0 l = some b → op 0 l = op 1 b) : Ev G m_X6_growAll [.ref y] h 0 0 (RI (fun x h' => EO y [21, 22, 25, 26] [38] h h' ∧ ∃ mt' k, EM h' y mt' ∧ IsM A (mt' 0) (mt' 1) ∧ (∀ l b, mt' 0 l = some b → op 0 l = op 1 b) ∧ Cert A mt' op ∧ (∀ s i, s < 2 → op s i = false → mt' s i = mt s i) ∧ siz n (mt' 0) = siz n (mt 0) + k ∧ x = nI k)) := by
  refine Ev.of pn_X6_growAll (Nat.le_of_ble_eq_true rfl) ?_
  refine s_X6_growAll_0 ?_
  rw [← nI_0]
  exact ga_all hg (fun mt' h1 eo p1 p2 p3 p4 p5 k hk => ⟨⟨nI k, rfl, eo, mt', k, p1, p2, p3, p4, p5, hk, rfl⟩, eo.2.2.2.1, eo.2.2.2.2.1⟩) n 0 mt h (by omega) EO.rf hg.2.2.2.2 hM hoc (fun _ _ _ _ => rfl) rfl
def KP (h : PH) (y : Nat) (mt : Nat → Nat → Option Nat) : Prop := (∀ i, i < 50 → hI h (y + 23) i = e1 (mt 0 i) ∧ hI h (y + 24) i = e1 (mt 1 i)) ∧ ∀ s i j, s < 2 → mt s i = some j → i < 50 ∧ j < 50
theorem KP.eo {S D : List Nat} (he : KP h y mt) (a : EO y S D h h') (h1 : 23 ∉ S) (h2 : 24 ∉ S) : KP h' y mt := ⟨fun i hi => ⟨((a.2.2.2.2.2.2.1 23 (by decide) (by decide) h1).1 _).trans (he.1 i hi).1, ((a.2.2.2.2.2.2.1 24 (by decide) (by decide) h2).1 _).trans (he.1 i hi).2⟩, he.2⟩
theorem e50 : (50 : Int32) = nI 50 := by decide
theorem m_keep (hm : ML h y) (hp : EM h y mt) : Ev G m_X6_keep [.ref y] h 0 0 (RV (fun h1 => EO y [23, 24] [] h h1 ∧ KP h1 y mt)) := by
  obtain ⟨r34, k34, l34⟩ := hm.r 34 23 2 50 (by decide)
  obtain ⟨r32, k32, l32⟩ := hm.r 32 21 2 50 (by decide)
  obtain ⟨r35, k35, l35⟩ := hm.r 35 24 2 50 (by decide)
  obtain ⟨r33, k33, l33⟩ := hm.r 33 22 2 50 (by decide)
  have y0 := hm.2.1
  refine Ev.of pn_X6_keep (Nat.le_of_ble_eq_true rfl) ?_
  refine s_X6_keep_0 ?_
  have loop : ∀ d k h1, k + d = 50 → EO y [23, 24] [] h h1 → (∀ i, i < k → hI h1 (y + 23) i = e1 (mt 0 i) ∧ hI h1 (y + 24) i = e1 (mt 1 i)) → RR G (hN h + 0) (hS h + 0) m_X6_keep 2 [some (.ref y), some (.int (nI k))] [] h1 (fun v h' => RV (fun h1 => EO y [23, 24] [] h h1 ∧ KP h1 y mt) v h' ∧ hN h' = hN h + 0 ∧ hS h' = hS h + 0) := by
    intro d
    induction d with
    | zero =>
      intro k h1 e eo hb
      have e : k = 50 := by omega
      subst e
      obtain ⟨o1, o2, o3, -⟩ := id eo
      have no : ¬ (50 : Int32) ≤ nI 50 → False := fun z => z (by decide)
      exact s_X6_keep_2 (fun _ => ⟨⟨rfl, eo, hb, hp.2⟩, eo.2.2.2.1, eo.2.2.2.2.1⟩) (by rw [o1]; exact hm.1) (by rw [o3, r34]; omega) (by rw [o3, r32]; omega) (by rw [o1, o3, r32]; exact k32) (fun z => (no z).elim) (by rw [o1, o3, r34]; exact k34) (fun z => (no z).elim) (by rw [o3, r35]; omega) (by rw [o3, r33]; omega) (by rw [o1, o3, r33]; exact k33) (fun z => (no z).elim) (by rw [o1, o3, r35]; exact k35) (fun z => (no z).elim) (fun z => (no z).elim)
    | succ d ih =>
      intro k h1 e eo hb
      obtain ⟨o1, o2, o3, -⟩ := id eo
      have ck : Int32.toNatClampNeg (nI k) = k := nI_clamp (by omega)
      have vp : vp_in (nI k) 50 := vp_in_nI (by omega) (by decide)
      refine s_X6_keep_2 (fun z => absurd z (by rw [e50]; exact nI_ge (by omega) (by decide))) (by rw [o1]; exact hm.1) (by rw [o3, r34]; omega) (by rw [o3, r32]; omega) (by rw [o1, o3, r32]; exact k32) (fun _ => by rw [o2, o3, r32, l32]; exact vp) (by rw [o1, o3, r34]; exact k34) (fun _ => by rw [o2, o3, r34, l34]; exact vp) (by rw [o3, r35]; omega) (by rw [o3, r33]; omega) (by rw [o1, o3, r33]; exact k33) (fun _ => by rw [o2, o3, r33, l33]; exact vp) (by rw [o1, o3, r35]; exact k35) (fun _ => by rw [o2, o3, r35, l35]; exact vp) (fun _ => ?_)
      rw [o3, r34, r32, r35, r33, ck, nI_1, sI_ne (show y + 22 ≠ y + 23 by omega)]
      refine ih (k + 1) _ (by omega) ((eo.trans (EO.cI (by decide) (by decide) (by decide))).trans (EO.cI (by decide) (by decide) (by decide))) (fun i hi => ?_)
      rw [sI_ne (show y + 23 ≠ y + 24 by omega)]
      by_cases ei : i = k
      · subst ei
        rw [sI_eq, sI_eq, eo.i 21 rfl, eo.i 22 rfl]
        exact hp.1 i (by omega)
      · rw [sI_nk ei, sI_nk ei, sI_ne (show y + 24 ≠ y + 23 by omega)]
        exact hb i (by omega)
  exact loop 50 0 h (by omega) EO.rf (fun i hi => absurd hi (by omega))
theorem m_putBack (hm : ML h y) (hp : KP h y mt) : Ev G m_X6_putBack [.ref y] h 0 0 (RV (fun h1 => EO y [21, 22] [] h h1 ∧ EM h1 y mt)) := by
  obtain ⟨r34, k34, l34⟩ := hm.r 34 23 2 50 (by decide)
  obtain ⟨r32, k32, l32⟩ := hm.r 32 21 2 50 (by decide)
  obtain ⟨r35, k35, l35⟩ := hm.r 35 24 2 50 (by decide)
  obtain ⟨r33, k33, l33⟩ := hm.r 33 22 2 50 (by decide)
  have y0 := hm.2.1
  refine Ev.of pn_X6_putBack (Nat.le_of_ble_eq_true rfl) ?_
  refine s_X6_putBack_0 ?_
  have loop : ∀ d k h1, k + d = 50 → EO y [21, 22] [] h h1 → (∀ i, i < k → hI h1 (y + 21) i = e1 (mt 0 i) ∧ hI h1 (y + 22) i = e1 (mt 1 i)) → RR G (hN h + 0) (hS h + 0) m_X6_putBack 2 [some (.ref y), some (.int (nI k))] [] h1 (fun v h' => RV (fun h1 => EO y [21, 22] [] h h1 ∧ EM h1 y mt) v h' ∧ hN h' = hN h + 0 ∧ hS h' = hS h + 0) := by
    intro d
    induction d with
    | zero =>
      intro k h1 e eo hb
      have e : k = 50 := by omega
      subst e
      obtain ⟨o1, o2, o3, -⟩ := id eo
      have no : ¬ (50 : Int32) ≤ nI 50 → False := fun z => z (by decide)
      exact s_X6_putBack_2 (fun _ => ⟨⟨rfl, eo, hb, hp.2⟩, eo.2.2.2.1, eo.2.2.2.2.1⟩) (by rw [o1]; exact hm.1) (by rw [o3, r32]; omega) (by rw [o3, r34]; omega) (by rw [o1, o3, r34]; exact k34) (fun z => (no z).elim) (by rw [o1, o3, r32]; exact k32) (fun z => (no z).elim) (by rw [o3, r33]; omega) (by rw [o3, r35]; omega) (by rw [o1, o3, r35]; exact k35) (fun z => (no z).elim) (by rw [o1, o3, r33]; exact k33) (fun z => (no z).elim) (fun z => (no z).elim)
    | succ d ih =>
      intro k h1 e eo hb
      obtain ⟨o1, o2, o3, -⟩ := id eo
      have ck : Int32.toNatClampNeg (nI k) = k := nI_clamp (by omega)
      have vp : vp_in (nI k) 50 := vp_in_nI (by omega) (by decide)
      refine s_X6_putBack_2 (fun z => absurd z (by rw [e50]; exact nI_ge (by omega) (by decide))) (by rw [o1]; exact hm.1) (by rw [o3, r32]; omega) (by rw [o3, r34]; omega) (by rw [o1, o3, r34]; exact k34) (fun _ => by rw [o2, o3, r34, l34]; exact vp) (by rw [o1, o3, r32]; exact k32) (fun _ => by rw [o2, o3, r32, l32]; exact vp) (by rw [o3, r33]; omega) (by rw [o3, r35]; omega) (by rw [o1, o3, r35]; exact k35) (fun _ => by rw [o2, o3, r35, l35]; exact vp) (by rw [o1, o3, r33]; exact k33) (fun _ => by rw [o2, o3, r33, l33]; exact vp) (fun _ => ?_)
      rw [o3, r34, r32, r35, r33, ck, nI_1, sI_ne (show y + 24 ≠ y + 21 by omega)]
      refine ih (k + 1) _ (by omega) ((eo.trans (EO.cI (by decide) (by decide) (by decide))).trans (EO.cI (by decide) (by decide) (by decide))) (fun i hi => ?_)
      rw [sI_ne (show y + 21 ≠ y + 22 by omega)]
      by_cases ei : i = k
      · subst ei
        rw [sI_eq, sI_eq, eo.i 23 rfl, eo.i 24 rfl]
        exact hp.1 i (by omega)
      · rw [sI_nk ei, sI_nk ei, sI_ne (show y + 22 ≠ y + 21 by omega)]
        exact hb i (by omega)
  exact loop 50 0 h (by omega) EO.rf (fun i hi => absurd hi (by omega))
/-- a matrix of the reference, from the row at a -/
def MX5 (h : PH) (a : Nat) (A : Nat → Nat → Bool) : Prop := ∀ l r, l < 50 → r < 50 → hI h a (50 * l + r) = b2i (A l r)
theorem opAll_lt {sz : Nat → Nat} {s i : Nat} : opAll sz s i = true ↔ i < sz s := by unfold opAll; rw [decide_eq_true_iff]
def sz2 (n m : Nat) : Nat → Nat := fun s => if s = 0 then n else m
theorem outs_eo {k : Nat} {v w : Int32} : EO y [19, 20, 21, 22] [] h (sI (sI (sI (sI h (y + 19) k v) (y + 20) k w) (y + 21) k (-1)) (y + 22) k (-1)) :=
  (((EO.cI (by decide) (by decide) (by decide)).trans (EO.cI (by decide) (by decide) (by decide))).trans (EO.cI (by decide) (by decide) (by decide))).trans (EO.cI (by decide) (by decide) (by decide))
theorem m_use {a : Nat} (hm : ML h y) (ha : a = y + 1 ∨ a = y + 11) (hn : n ≤ 50) (hm5 : m ≤ 50) (hA : MX5 h a A) (hRg : Rg n m A) : Ev G m_X6_use [.ref y, .ref a, .int (nI n), .int (nI m)] h 0 0 (RV (fun h1 => EO y [18, 19, 20, 21, 22] [28, 29] h h1 ∧ EG h1 y n m A (fun _ _ => none) (opAll (sz2 n m)))) := by
  obtain ⟨r27, k27, l27⟩ := hm.r 27 18 4 2500 (by decide)
  obtain ⟨r30, k30, l30⟩ := hm.r 30 19 4 50 (by decide)
  obtain ⟨r31, k31, l31⟩ := hm.r 31 20 4 50 (by decide)
  obtain ⟨r32, k32, l32⟩ := hm.r 32 21 2 50 (by decide)
  obtain ⟨r33, k33, l33⟩ := hm.r 33 22 2 50 (by decide)
  have y0 := hm.2.1
  have ka : hK h a = 4 ∧ hL h a = 2500 := by
    rcases ha with e | e
    · rw [e]; exact (hm.r 2 1 4 2500 (by decide)).2
    · rw [e]; exact (hm.r 18 11 4 2500 (by decide)).2
  have e2500 : (2500 : Int32) = nI 2500 := by decide
  have inv : ∀ k, k < 2500 → ∃ l r, l < 50 ∧ r < 50 ∧ k = 50 * l + r := fun k hk => ⟨k / 50, k % 50, by omega, by omega, by omega⟩
  refine Ev.of pn_X6_use (Nat.le_of_ble_eq_true rfl) ?_
  refine s_X6_use_0 hm.1 ?_
  have loop2 : ∀ d k h1, k + d = 50 → EO y [18, 19, 20, 21, 22] [28, 29] h h1 → EN h1 y n m → EE h1 y n m A → (∀ i, i < k → (hI h1 (y + 19) i = b2i (!decide (i < n)) ∧ hI h1 (y + 20) i = b2i (!decide (i < m))) ∧ hI h1 (y + 21) i = -1 ∧ hI h1 (y + 22) i = -1) → RR G (hN h + 0) (hS h + 0) m_X6_use 41 [some (.ref y), some (.ref a), some (.int (nI n)), some (.int (nI m)), some (.int (nI k))] [] h1 (fun v h' => RV (fun h1 => EO y [18, 19, 20, 21, 22] [28, 29] h h1 ∧ EG h1 y n m A (fun _ _ => none) (opAll (sz2 n m))) v h' ∧ hN h' = hN h + 0 ∧ hS h' = hS h + 0) := by
    intro d
    induction d with
    | zero =>
      intro k h1 e eo hN' he hb
      have e : k = 50 := by omega
      subst e
      obtain ⟨o1, o2, o3, -⟩ := id eo
      have no : ¬ (50 : Int32) ≤ nI 50 → False := fun z => z (by decide)
      refine s_X6_use_41 (fun _ => ⟨⟨rfl, eo, hm.eo eo, hN', he, ⟨fun i hi => (hb i hi).1, fun i hi => opAll_lt.1 hi, fun i hi => opAll_lt.1 hi⟩, fun i hi => (hb i hi).2, fun s i j _ z => (by cases z)⟩, eo.2.2.2.1, eo.2.2.2.2.1⟩) (by rw [o1]; exact hm.1) (by rw [o3, r30]; omega) (by rw [o1, o3, r30]; exact k30) (fun z => (no z).elim) (by rw [o3, r31]; omega) (by rw [o1, o3, r31]; exact k31) (fun z => (no z).elim) (by rw [o3, r32]; omega) (by rw [o1, o3, r32]; exact k32) (fun z => (no z).elim) (by rw [o3, r33]; omega) (by rw [o1, o3, r33]; exact k33) (fun z => (no z).elim) (fun z => (no z).elim) (fun z => (no z).elim) (fun z => (no z).elim) (fun z => (no z).elim) (fun z => (no z).elim) (fun z => (no z).elim) (fun z => (no z).elim) (fun z => (no z).elim) (fun z => (no z).elim) (fun z => (no z).elim) (fun z => (no z).elim) (fun z => (no z).elim) (fun z => (no z).elim) (fun z => (no z).elim)
    | succ d ih =>
      intro k h1 e eo hN' he hb
      obtain ⟨o1, o2, o3, -⟩ := id eo
      have ck : Int32.toNatClampNeg (nI k) = k := nI_clamp (by omega)
      have vp : vp_in (nI k) 50 := vp_in_nI (by omega) (by decide)
      have vp19 : vp_in (nI k) (hL h1 (hR h1 y 30)) := by rw [o2, o3, r30, l30]; exact vp
      have vp20 : vp_in (nI k) (hL h1 (hR h1 y 31)) := by rw [o2, o3, r31, l31]; exact vp
      have vp21 : vp_in (nI k) (hL h1 (hR h1 y 32)) := by rw [o2, o3, r32, l32]; exact vp
      have vp22 : vp_in (nI k) (hL h1 (hR h1 y 33)) := by rw [o2, o3, r33, l33]; exact vp
      have step : ∀ v w : Int32, v = b2i (!decide (k < n)) → w = b2i (!decide (k < m)) → RR G (hN h + 0) (hS h + 0) m_X6_use 41 [some (.ref y), some (.ref a), some (.int (nI n)), some (.int (nI m)), some (.int (nI k + 1))] [] (sI (sI (sI (sI h1 (hR h1 y 30) (Int32.toNatClampNeg (nI k)) v) (hR h1 y 31) (Int32.toNatClampNeg (nI k)) w) (hR h1 y 32) (Int32.toNatClampNeg (nI k)) (-1)) (hR h1 y 33) (Int32.toNatClampNeg (nI k)) (-1)) (fun v h' => RV (fun h1 => EO y [18, 19, 20, 21, 22] [28, 29] h h1 ∧ EG h1 y n m A (fun _ _ => none) (opAll (sz2 n m))) v h' ∧ hN h' = hN h + 0 ∧ hS h' = hS h + 0) := by
        intro v w ev ew
        rw [o3, r30, r31, r32, r33, ck, nI_1]
        have eo2 := outs_eo (y := y) (h := h1) (k := k) (v := v) (w := w)
        refine ih (k + 1) _ (by omega) (eo.trans (eo2.wide (by decide) (by decide))) (hN'.eo eo2 (by decide) (by decide)) (he.eo eo2 (by decide)) (fun i hi => ?_)
        have a1 : y + 19 ≠ y + 20 := by omega
        have a2 : y + 19 ≠ y + 21 := by omega
        have a3 : y + 19 ≠ y + 22 := by omega
        have a4 : y + 20 ≠ y + 21 := by omega
        have a5 : y + 20 ≠ y + 22 := by omega
        have a6 : y + 21 ≠ y + 22 := by omega
        rw [sI_ne a3, sI_ne a2, sI_ne a1, sI_ne a5, sI_ne a4, sI_ne a6]
        by_cases ei : i = k
        · subst ei
          rw [sI_eq, sI_eq, sI_eq, sI_eq, ev, ew]
          exact ⟨⟨rfl, rfl⟩, rfl, rfl⟩
        · obtain ⟨⟨g1, g2⟩, g3, g4⟩ := hb i (by omega)
          refine ⟨⟨?_, ?_⟩, ?_, ?_⟩
          · rw [sI_nk ei]; exact g1
          · rw [sI_nk ei, sI_ne a1.symm]; exact g2
          · rw [sI_nk ei, sI_ne a4.symm, sI_ne a2.symm]; exact g3
          · rw [sI_nk ei, sI_ne a6.symm, sI_ne a5.symm, sI_ne a3.symm]; exact g4
      have lt28 : nI k < hI h1 y 28 ↔ k < n := by rw [hN'.1]; exact nI_ltI (by omega) (by omega)
      have lt29 : ∀ v, nI k < hI (sI h1 (hR h1 y 30) (Int32.toNatClampNeg (nI k)) v) y 29 ↔ k < m := fun v => by
        rw [o3, r30, sI_ne (by omega), hN'.2.1]; exact nI_ltI (by omega) (by omega)
      refine s_X6_use_41 (fun z => absurd z (by rw [e50]; exact nI_ge (by omega) (by decide))) (by rw [o1]; exact hm.1) (by rw [o3, r30]; omega) (by rw [o1, o3, r30]; exact k30) (fun _ _ => vp19) (by rw [o3, r31]; omega) (by rw [o1, o3, r31]; exact k31) (fun _ _ _ => vp20) (by rw [o3, r32]; omega) (by rw [o1, o3, r32]; exact k32) (fun _ _ _ => vp21) (by rw [o3, r33]; omega) (by rw [o1, o3, r33]; exact k33) (fun _ _ _ => vp22) (fun _ z1 z2 => ?_) (fun _ _ _ => vp20) (fun _ _ _ => vp21) (fun _ _ _ => vp22) (fun _ z1 z2 => ?_) (fun _ _ => vp19) (fun _ _ _ => vp20) (fun _ _ _ => vp21) (fun _ _ _ => vp22) (fun _ z1 z2 => ?_) (fun _ _ _ => vp20) (fun _ _ _ => vp21) (fun _ _ _ => vp22) (fun _ z1 z2 => ?_)
      · exact step 0 0 (by rw [decide_eq_true (lt28.1 z1)]; rfl) (by rw [decide_eq_true ((lt29 _).1 z2)]; rfl)
      · exact step 0 1 (by rw [decide_eq_true (lt28.1 z1)]; rfl) (by rw [decide_eq_false (fun q => z2 ((lt29 _).2 q))]; rfl)
      · exact step 1 0 (by rw [decide_eq_false (fun q => z1 (lt28.2 q))]; rfl) (by rw [decide_eq_true ((lt29 _).1 z2)]; rfl)
      · exact step 1 1 (by rw [decide_eq_false (fun q => z1 (lt28.2 q))]; rfl) (by rw [decide_eq_false (fun q => z2 ((lt29 _).2 q))]; rfl)
  have loop1 : ∀ d k h1, k + d = 2500 → EO y [18, 19, 20, 21, 22] [28, 29] h h1 → EN h1 y n m → (∀ i, hI h1 a i = hI h a i) → (∀ l r, l < 50 → r < 50 → 50 * l + r < k → hI h1 (y + 18) (50 * l + r) = b2i (A l r)) → RR G (hN h + 0) (hS h + 0) m_X6_use 13 [some (.ref y), some (.ref a), some (.int (nI n)), some (.int (nI m)), some (.int (nI k))] [] h1 (fun v h' => RV (fun h1 => EO y [18, 19, 20, 21, 22] [28, 29] h h1 ∧ EG h1 y n m A (fun _ _ => none) (opAll (sz2 n m))) v h' ∧ hN h' = hN h + 0 ∧ hS h' = hS h + 0) := by
    intro d
    induction d with
    | zero =>
      intro k h1 e eo hN' ia hb
      have e : k = 2500 := by omega
      subst e
      obtain ⟨o1, o2, o3, -⟩ := id eo
      have no : ¬ (2500 : Int32) ≤ nI 2500 → False := fun z => z (by decide)
      refine s_X6_use_13 (fun _ => ?_) (by rw [o1]; exact hm.1) (by rw [o3, r27]; omega) (by rw [o1]; exact ka.1) (fun z => (no z).elim) (by rw [o1, o3, r27]; exact k27) (fun z => (no z).elim) (fun z => (no z).elim) (fun z => (no z).elim)
      rw [← nI_0]
      exact loop2 50 0 h1 (by omega) eo hN' ⟨fun l r hl hr => hb l r hl hr (by omega), hRg⟩ (fun i hi => absurd hi (by omega))
    | succ d ih =>
      intro k h1 e eo hN' ia hb
      obtain ⟨o1, o2, o3, -⟩ := id eo
      have ck : Int32.toNatClampNeg (nI k) = k := nI_clamp (by omega)
      obtain ⟨l, r, hl, hr, ek⟩ := inv k (by omega)
      have va : hI h1 a k = b2i (A l r) := by rw [ia, ek]; exact hA l r hl hr
      refine s_X6_use_13 (fun z => absurd z (by rw [e2500]; exact nI_ge (by omega) (by decide))) (by rw [o1]; exact hm.1) (by rw [o3, r27]; omega) (by rw [o1]; exact ka.1) (fun _ => by rw [o2, ka.2]; exact vp_in_nI (by omega) (by decide)) (by rw [o1, o3, r27]; exact k27) (fun _ => by rw [o2, o3, r27, l27]; exact vp_in_nI (by omega) (by decide)) (fun _ => by rw [ck, va]; exact b2i_01 _) (fun _ => ?_)
      rw [o3, r27, ck, va, nI_1]
      refine ih (k + 1) _ (by omega) (eo.trans (EO.cI (by decide) (by decide) (by decide))) ⟨by rw [sI_ne (by omega)]; exact hN'.1, by rw [sI_ne (by omega)]; exact hN'.2.1, hn, hm5⟩ (fun i => by rw [sI_ne (by omega)]; exact ia i) (fun l' r' hl' hr' hlt => ?_)
      by_cases eq : 50 * l' + r' = k
      · rw [eq, sI_eq]
        have : l' = l ∧ r' = r := by omega
        rw [this.1, this.2]
      · rw [sI_nk eq]; exact hb l' r' hl' hr' (by omega)
  rw [← nI_0]
  have s28 : hI (sI (sI h y 28 (nI n)) y 29 (nI m)) y 28 = nI n := by rw [sI_nk (by decide), sI_eq]
  refine loop1 2500 0 _ (by omega) ((EO.s0 (by decide)).trans (EO.s0 (by decide))) ⟨s28, sI_eq, hn, hm5⟩ (fun i => ?_) (fun l r _ _ hlt => absurd hlt (by omega))
  rw [sI_ne (by omega), sI_ne (by omega)]
