variable {G : GG} {h h' : PH} {y n m : Nat} {A : Nat → Nat → Bool} {mt : Nat → Nat → Option Nat} {op : Nat → Nat → Bool}
theorem EN.eo {S D : List Nat} (hn : EN h y n m) (a : EO y S D h h') (h1 : 28 ∉ D) (h2 : 29 ∉ D) : EN h' y n m := ⟨(a.f 28 h1).trans hn.1, (a.f 29 h2).trans hn.2.1, hn.2.2⟩
theorem EE.eo {S D : List Nat} (he : EE h y n m A) (a : EO y S D h h') (h1 : 18 ∉ S) : EE h' y n m A := ⟨fun l r hl hr => ((a.2.2.2.2.2.2.1 18 (by decide) (by decide) h1).1 _).trans (he.1 l r hl hr), he.2⟩
theorem EQ.eo {S D : List Nat} (he : EQ h y n m op) (a : EO y S D h h') (h1 : 19 ∉ S) (h2 : 20 ∉ S) : EQ h' y n m op := ⟨fun i hi => ⟨((a.2.2.2.2.2.2.1 19 (by decide) (by decide) h1).1 _).trans (he.1 i hi).1, ((a.2.2.2.2.2.2.1 20 (by decide) (by decide) h2).1 _).trans (he.1 i hi).2⟩, he.2⟩
theorem EM.eo {S D : List Nat} (he : EM h y mt) (a : EO y S D h h') (h1 : 21 ∉ S) (h2 : 22 ∉ S) : EM h' y mt := ⟨fun i hi => ⟨((a.2.2.2.2.2.2.1 21 (by decide) (by decide) h1).1 _).trans (he.1 i hi).1, ((a.2.2.2.2.2.2.1 22 (by decide) (by decide) h2).1 _).trans (he.1 i hi).2⟩, he.2⟩
theorem EM.lt {s i : Nat} (hp : EM h y mt) (hs : s < 2) : ∀ r, mt s i = some r → r < 2 ^ 31 := fun r e => by have := hp.2 s i r hs e; omega
def BQ (h : PH) (y : Nat) (mt : Nat → Nat → Option Nat) (op : Nat → Nat → Bool) (k tail : Nat) (q : Nat → Nat) (h1 : PH) : Prop :=
  EO y [25, 26] [38] h h1 ∧ hI h1 y 38 = nI tail ∧ tail ≤ k ∧ (∀ i, i < tail → hI h1 (y + 25) i = nI (q i) ∧ q i < k ∧ op 0 (q i) = true ∧ mt 0 (q i) = none) ∧ (∀ i j, i < tail → j < tail → q i = q j → i = j) ∧ (∀ l, l < k → op 0 l = true → mt 0 l = none → ∃ i, i < tail ∧ q i = l) ∧ ∀ b, b < 50 → hI h1 (y + 26) b = -1
theorem bg2_loop {nc ns : Nat} {Z : Option Value → PH → Prop} (hm : ML h y) (hN' : EN h y n m) (hq : EQ h y n m op) (hp : EM h y mt) (hz : ∀ tail q h1, BQ h y mt op n tail q h1 → Z none h1) : ∀ d k tail q h1, k + d = n → BQ h y mt op k tail q h1 →
    RR G nc ns m_X6_begin 28 [some (.ref y), some (.int (nI k))] [] h1 Z := by
  obtain ⟨r30, k30, l30⟩ := hm.r 30 19 4 50 (by decide)
  obtain ⟨r32, k32, l32⟩ := hm.r 32 21 2 50 (by decide)
  obtain ⟨r36, k36, l36⟩ := hm.r 36 25 2 50 (by decide)
  have y0 := hm.2.1
  obtain ⟨n1, n2, n3, n4⟩ := id hN'
  intro d
  induction d with
  | zero =>
    intro k tail q h1 e hb
    have e : k = n := by omega
    subst e
    obtain ⟨o1, o2, o3, -⟩ := id hb.1
    have en : hI h1 y 28 = nI k := (hb.1.f 28 (by decide)).trans n1
    have no : ¬ hI h1 y 28 ≤ nI k → False := fun z => z (by rw [en]; exact nI_le (Nat.le_refl _) (by omega))
    exact s_X6_begin_28 (by rw [o1]; exact hm.1) (fun _ => hz tail q h1 hb) (by rw [o3, r30]; omega) (by rw [o1, o3, r30]; exact k30) (fun z => (no z).elim) (fun z => (no z).elim) (by rw [o3, r32]; omega) (by rw [o1, o3, r32]; exact k32) (fun z => (no z).elim) (fun z => (no z).elim) (by rw [o3, r36]; omega) (by rw [o1, o3, r36]; exact k36) (fun z => (no z).elim) (fun z => (no z).elim)
  | succ d ih =>
    intro k tail q h1 e hb
    have hk : k < n := by omega
    obtain ⟨eo, b2, b3, b4, b5, b6, b7⟩ := id hb
    obtain ⟨o1, o2, o3, -⟩ := id eo
    have en : hI h1 y 28 = nI n := (eo.f 28 (by decide)).trans n1
    have ck : Int32.toNatClampNeg (nI k) = k := nI_clamp (by omega)
    have e19 : hI h1 (y + 19) k = b2i (!op 0 k) := (eo.i 19 rfl k).trans (hq.1 k (by omega)).1
    have e21 : hI h1 (y + 21) k = e1 (mt 0 k) := (eo.i 21 rfl k).trans (hp.1 k (by omega)).1
    have skip : ¬ (op 0 k = true ∧ mt 0 k = none) → RR G nc ns m_X6_begin 28 [some (.ref y), some (.int (nI k + 1))] [] h1 Z := by
      intro hno
      rw [nI_1]
      refine ih (k + 1) tail q h1 (by omega) ⟨eo, b2, by omega, fun i hi => ?_, b5, fun l hl z1 z2 => ?_, b7⟩
      · obtain ⟨w1, w2, w3⟩ := b4 i hi
        exact ⟨w1, by omega, w3⟩
      · by_cases el : l = k
        · subst el; exact (hno ⟨z1, z2⟩).elim
        · exact b6 l (by omega) z1 z2
    refine s_X6_begin_28 (by rw [o1]; exact hm.1) (fun z => absurd z (by rw [en]; exact nI_ge hk (by omega))) (by rw [o3, r30]; omega) (by rw [o1, o3, r30]; exact k30) (fun _ => by rw [o2, o3, r30, l30]; exact vp_in_nI (by omega) (by decide)) (fun _ z => ?_) (by rw [o3, r32]; omega) (by rw [o1, o3, r32]; exact k32) (fun _ _ => by rw [o2, o3, r32, l32]; exact vp_in_nI (by omega) (by decide)) (fun _ _ z => ?_) (by rw [o3, r36]; omega) (by rw [o1, o3, r36]; exact k36) (fun _ _ _ => by rw [b2, o2, o3, r36, l36]; exact vp_in_nI (by omega) (by decide)) (fun _ z1 z2 => ?_)
    · rw [o3, r30, ck, e19, b2i_n] at z
      exact skip (fun w => by rw [w.1] at z; cases z)
    · rw [o3, r32, ck, e21, e1_ge (hp.lt (by decide))] at z
      exact skip (fun w => by rw [w.2] at z; cases z)
    · rw [o3, r30, ck, e19, b2i_0] at z1
      have z1 : op 0 k = true := by cases e : op 0 k; rw [e] at z1; cases z1; rfl
      rw [o3, r32, ck, e21, e1_ge (hp.lt (by decide))] at z2
      have z2 : mt 0 k = none := by cases e : mt 0 k with | none => rfl | some _ => rw [e] at z2; exact (z2 rfl).elim
      rw [o3, r36, b2, nI_clamp (show tail < 2 ^ 31 by omega), sI_ne (by omega), b2, nI_1, nI_1]
      refine ih (k + 1) (tail + 1) (snoc q tail k) _ (by omega) ⟨(eo.trans (EO.cI (by decide) (by decide) (by decide))).trans (EO.s0 (by decide)), sI_eq, by omega, fun i hi => ?_, fun i j hi hj hij => ?_, fun l hl w1 w2 => ?_, fun b hb => ?_⟩
      · rw [sI_ne (by omega)]
        by_cases ei : i = tail
        · subst ei; rw [sI_eq, snoc_eq]; exact ⟨rfl, by omega, z1, z2⟩
        · rw [sI_nk ei, snoc_ne ei]
          obtain ⟨w1, w2, w3⟩ := b4 i (by omega)
          exact ⟨w1, by omega, w3⟩
      · by_cases ei : i = tail <;> by_cases ej : j = tail
        · omega
        · rw [ei, snoc_eq, snoc_ne ej] at hij
          have := (b4 j (by omega)).2.1; omega
        · rw [ej, snoc_eq, snoc_ne ei] at hij
          have := (b4 i (by omega)).2.1; omega
        · rw [snoc_ne ei, snoc_ne ej] at hij
          exact b5 i j (by omega) (by omega) hij
      · by_cases el : l = k
        · exact ⟨tail, by omega, by rw [snoc_eq, el]⟩
        · obtain ⟨i, w3, w4⟩ := b6 l (by omega) w1 w2
          exact ⟨i, by omega, by rw [snoc_ne (by omega)]; exact w4⟩
      · rw [sI_ne (by omega), sI_ne (by omega)]; exact b7 b hb
theorem m_begin (hm : ML h y) (hN' : EN h y n m) (hq : EQ h y n m op) (hp : EM h y mt) : Ev G m_X6_begin [.ref y] h 0 0 (RV (fun h1 => ∃ tail q, BQ h y mt op n tail q h1)) := by
  obtain ⟨r37, k37, l37⟩ := hm.r 37 26 2 50 (by decide)
  have y0 := hm.2.1
  refine Ev.of pn_X6_begin (Nat.le_of_ble_eq_true rfl) ?_
  refine s_X6_begin_0 hm.1 ?_
  have e50 : (50 : Int32) = nI 50 := by decide
  have loop : ∀ d k h1, k + d = 50 → EO y [25, 26] [38] h h1 → hI h1 y 38 = 0 → (∀ b, b < k → hI h1 (y + 26) b = -1) → RR G (hN h + 0) (hS h + 0) m_X6_begin 7 [some (.ref y), some (.int (nI k))] [] h1 (fun v h' => RV (fun h1 => ∃ tail q, BQ h y mt op n tail q h1) v h' ∧ hN h' = hN h + 0 ∧ hS h' = hS h + 0) := by
    intro d
    induction d with
    | zero =>
      intro k h1 e eo h38 hb
      have e : k = 50 := by omega
      subst e
      obtain ⟨o1, o2, o3, -⟩ := id eo
      have no : ¬ (50 : Int32) ≤ nI 50 → False := fun z => z (by decide)
      refine s_X6_begin_7 (fun _ => ?_) (by rw [o1]; exact hm.1) (by rw [o3, r37]; omega) (by rw [o1, o3, r37]; exact k37) (fun z => (no z).elim) (fun z => (no z).elim)
      have hz : ∀ tail q h2, BQ h1 y mt op n tail q h2 → (fun v h' => RV (fun h1 => ∃ tail q, BQ h y mt op n tail q h1) v h' ∧ hN h' = hN h + 0 ∧ hS h' = hS h + 0) none h2 := by
        intro tail q h2 hb2
        have eo2 := eo.trans hb2.1
        exact ⟨⟨rfl, tail, q, eo2, hb2.2⟩, eo2.2.2.2.1, eo2.2.2.2.2.1⟩
      rw [← nI_0]
      refine bg2_loop (h := h1) (hm.eo eo) (hN'.eo eo (by decide) (by decide)) (hq.eo eo (by decide) (by decide)) (hp.eo eo (by decide) (by decide)) hz n 0 0 (fun _ => 0) h1 (by omega) ⟨EO.rf, h38, Nat.le_refl _, fun i hi => absurd hi (by omega), fun i j hi => absurd hi (by omega), fun l hl => absurd hl (by omega), hb⟩
    | succ d ih =>
      intro k h1 e eo h38 hb
      obtain ⟨o1, o2, o3, -⟩ := id eo
      have ck : Int32.toNatClampNeg (nI k) = k := nI_clamp (by omega)
      refine s_X6_begin_7 (fun z => absurd z (by rw [e50]; exact nI_ge (by omega) (by decide))) (by rw [o1]; exact hm.1) (by rw [o3, r37]; omega) (by rw [o1, o3, r37]; exact k37) (fun _ => by rw [o2, o3, r37, l37]; exact vp_in_nI (by omega) (by decide)) (fun _ => ?_)
      rw [o3, r37, ck, nI_1]
      refine ih (k + 1) _ (by omega) (eo.trans (EO.cI (by decide) (by decide) (by decide))) (by rw [sI_ne (by omega)]; exact h38) (fun b hb' => ?_)
      by_cases eb : b = k
      · subst eb; rw [sI_eq]
      · rw [sI_nk eb]; exact hb b (by omega)
  exact loop 50 0 _ (by omega) (EO.s0 (by decide)) sI_eq (fun b hb => absurd hb (by omega))
def GI (h : PH) (y n : Nat) (A : Nat → Nat → Bool) (mt : Nat → Nat → Option Nat) (op : Nat → Nat → Bool) (tail head : Nat) (q : Nat → Nat) (V : Nat → Option Nat) (h1 : PH) : Prop :=
  EO y [25, 26] [38] h h1 ∧ hI h1 y 38 = nI tail ∧ (∀ i, i < tail → hI h1 (y + 25) i = nI (q i) ∧ op 0 (q i) = true ∧ q i < n) ∧ (∀ i j, i < tail → j < tail → q i = q j → i = j) ∧ (∀ l, op 0 l = true → mt 0 l = none → ∃ i, i < tail ∧ q i = l) ∧
  (∀ b, b < 50 → hI h1 (y + 26) b = match V b with | none => -1 | some j => nI (q j)) ∧ (∀ b j, V b = some j → j < tail ∧ op 1 b = true ∧ A (q j) b = true ∧ ∃ i, i < tail ∧ j < i ∧ mt 1 b = some (q i)) ∧
  (∀ i, i < tail → mt 0 (q i) = none ∨ ∃ b, mt 0 (q i) = some b ∧ (V b).isSome = true) ∧ (∀ i, i < head → ∀ b, A (q i) b = true → op 1 b = true → (V b).isSome = true) ∧ head ≤ tail
theorem idx50 {l r : Nat} (hl : l < 50) (hr : r < 50) : (50 : Int32) * nI l + nI r = nI (50 * l + r) := by
  rw [show (50 : Int32) = nI 50 by decide, show nI 50 * nI l = nI (50 * l) from (Int32.ofNat_mul 50 l).symm, nI_add]
theorem gw_in {nc ns : Nat} {Z : Option Value → PH → Prop} {head : Nat} (hm : ML h y) (hN' : EN h y n m) (he : EE h y n m A) (hq : EQ h y n m op) (hp : EM h y mt) (hM : IsM A (mt 0) (mt 1)) (hoc : ∀ l b, mt 0 l = some b → op 0 l = op 1 b)
    (OUT : ∀ tail q V h1, GI h y n A mt op tail (head + 1) q V h1 → RR G nc ns m_X6_grow 6 [some (.ref y), some (.int (nI head + 1)), none, none] [] h1 Z)
    (hz1 : ∀ h1, EO y [21, 22, 25, 26] [38] h h1 → Grown h y n A mt op h1 → Z (some (.int 1)) h1) : ∀ d r tail q V h1, r + d = m → GI h y n A mt op tail head q V h1 → head < tail → (∀ b, b < r → A (q head) b = true → op 1 b = true → (V b).isSome = true) →
    RR G nc ns m_X6_grow 23 [some (.ref y), some (.int (nI head)), some (.int (nI (q head))), some (.int (nI r))] [] h1 Z := by
  obtain ⟨r27, k27, l27⟩ := hm.r 27 18 4 2500 (by decide)
  obtain ⟨r31, k31, l31⟩ := hm.r 31 20 4 50 (by decide)
  obtain ⟨r37, k37, l37⟩ := hm.r 37 26 2 50 (by decide)
  obtain ⟨r33, k33, l33⟩ := hm.r 33 22 2 50 (by decide)
  obtain ⟨r36, k36, l36⟩ := hm.r 36 25 2 50 (by decide)
  have y0 := hm.2.1
  obtain ⟨n1, n2, n3, n4⟩ := id hN'
  have hA := he.2
  intro d
  induction d with
  | zero =>
    intro r tail q V h1 e hg hht hdone
    have e : r = m := by omega
    subst e
    obtain ⟨eo, b2, b3, b4, b5, b6, b7, b8, b9, b10⟩ := id hg
    obtain ⟨o1, o2, o3, -⟩ := id eo
    have en : hI h1 y 29 = nI r := (eo.f 29 (by decide)).trans n2
    have no : ¬ hI h1 y 29 ≤ nI r → False := fun z => z (by rw [en]; exact nI_le (Nat.le_refl _) (by omega))
    refine s_X6_grow_23 (P1 := fun _ => True) (by rw [o1]; exact hm.1) (fun _ => OUT tail q V h1 ⟨eo, b2, b3, b4, b5, b6, b7, b8, fun i hi b z1 z2 => ?_, by omega⟩) (by rw [o3, r27]; omega) (by rw [o1, o3, r27]; exact k27) (fun z => (no z).elim) (fun z => (no z).elim) (by rw [o3, r31]; omega) (by rw [o1, o3, r31]; exact k31) (fun z => (no z).elim) (fun z => (no z).elim) (by rw [o3, r37]; omega) (by rw [o1, o3, r37]; exact k37) (fun z => (no z).elim) (fun z => (no z).elim) (by rw [o3, r33]; omega) (by rw [o1, o3, r33]; exact k33) (fun z => (no z).elim) (by rw [o3, r36]; omega) (by rw [o1, o3, r36]; exact k36) (fun z => (no z).elim) (fun z => (no z).elim) (fun z => (no z).elim) (fun z => (no z).elim)
    by_cases ei : i = head
    · subst ei; exact hdone b (hA _ _ z1).2 z1 z2
    · exact b9 i (by omega) b z1 z2
  | succ d ih =>
    intro r tail q V h1 e hg hht hdone
    have hr : r < m := by omega
    obtain ⟨eo, b2, b3, b4, b5, b6, b7, b8, b9, b10⟩ := id hg
    obtain ⟨o1, o2, o3, -⟩ := id eo
    have en : hI h1 y 29 = nI m := (eo.f 29 (by decide)).trans n2
    obtain ⟨w1, w2, w3⟩ := b3 head hht
    have cr : Int32.toNatClampNeg (nI r) = r := nI_clamp (by omega)
    have ix : (50 : Int32) * nI (q head) + nI r = nI (50 * q head + r) := idx50 (by omega) (by omega)
    have ci : Int32.toNatClampNeg (nI (50 * q head + r)) = 50 * q head + r := nI_clamp (by omega)
    have e27 : hR h1 y 27 = y + 18 := by rw [o3]; exact r27
    have e31 : hR h1 y 31 = y + 20 := by rw [o3]; exact r31
    have e37 : hR h1 y 37 = y + 26 := by rw [o3]; exact r37
    have e33 : hR h1 y 33 = y + 22 := by rw [o3]; exact r33
    have e36 : hR h1 y 36 = y + 25 := by rw [o3]; exact r36
    have vA : hI h1 (y + 18) (50 * q head + r) = b2i (A (q head) r) := (eo.i 18 rfl _).trans (he.1 _ _ (by omega) (by omega))
    have vO : hI h1 (y + 20) r = b2i (!op 1 r) := (eo.i 20 rfl _).trans (hq.1 r (by omega)).2
    have vC := b6 r (by omega)
    have vC0 : ¬ 0 ≤ hI h1 (y + 26) r ↔ V r = none := by
      rw [vC]
      cases eV : V r with
      | none => exact ⟨fun _ => rfl, fun _ => by show ¬ (0 : Int32) ≤ -1; decide⟩
      | some j =>
        refine ⟨fun z => (z ?_).elim, fun z => (by cases z)⟩
        have := (b3 j (b7 r j eV).1).2.2
        exact nI_pos' (by omega)
    have vP : hI (sI h1 (y + 26) r (nI (q head))) (y + 22) r = e1 (mt 1 r) := by
      rw [sI_ne (by omega), eo.i 22 rfl]; exact (hp.1 r (by omega)).2
    have htn : tail ≤ n := inj_le q (fun i hi => (b3 i hi).2.2) b4
    have skip : (A (q head) r = true → op 1 r = true → (V r).isSome = true) → RR G nc ns m_X6_grow 23 [some (.ref y), some (.int (nI head)), some (.int (nI (q head))), some (.int (nI r + 1))] [] h1 Z := by
      intro hs
      rw [nI_1]
      refine ih (r + 1) tail q V h1 (by omega) hg hht (fun b hb z1 z2 => ?_)
      by_cases eb : b = r
      · subst eb; exact hs z1 z2
      · exact hdone b (by omega) z1 z2
    have hb0 : ∀ {c : Bool}, b2i (!c) = 0 → c = true := fun {c} z => by cases c; cases z; rfl
    have hnew : ∀ l', V r = none → op 1 r = true → mt 1 r = some l' → op 0 l' = true ∧ l' < n ∧ ∀ i, i < tail → q i ≠ l' := fun l' hv hro hl1 => by
      have hm0 := (hM.1 l' r).mpr hl1
      refine ⟨by rw [hoc l' r hm0]; exact hro, (hA l' r (hM.2 l' r hm0)).1, fun i hi e => ?_⟩
      rcases b8 i hi with z | ⟨b, z1, z2⟩
      · rw [e, hm0] at z; cases z
      · rw [e, hm0] at z1
        cases z1
        rw [hv] at z2; cases z2
    have htl : ∀ l', V r = none → op 1 r = true → mt 1 r = some l' → tail < n := fun l' hv hro hl1 => by
      obtain ⟨z1, z2, z3⟩ := hnew l' hv hro hl1
      have := inj_le (n := n) (t := tail + 1) (snoc q tail l') (fun i hi => by
        by_cases ei : i = tail
        · rw [ei, snoc_eq]; exact z2
        · rw [snoc_ne ei]; exact (b3 i (by omega)).2.2) (fun i j hi hj hij => by
        by_cases ei : i = tail <;> by_cases ej : j = tail
        · omega
        · rw [ei, snoc_eq, snoc_ne ej] at hij
          exact absurd hij.symm (z3 j (by omega))
        · rw [ej, snoc_eq, snoc_ne ei] at hij
          exact absurd hij (z3 i (by omega))
        · rw [snoc_ne ei, snoc_ne ej] at hij
          exact b4 i j (by omega) (by omega) hij)
      omega
    have eo26 : EO y [25, 26] [38] h (sI h1 (y + 26) r (nI (q head))) := eo.trans (EO.cI (by decide) (by decide) (by decide))
    have v38 : hI (sI h1 (y + 26) r (nI (q head))) y 38 = nI tail := by rw [sI_ne (by omega)]; exact b2
    refine s_X6_grow_23 (P1 := fun h' => EO y [21, 22] [] (sI h1 (y + 26) r (nI (q head))) h' ∧ Grown (sI h1 (y + 26) r (nI (q head))) y n A mt op h') (by rw [o1]; exact hm.1) (fun z => absurd z (by rw [en]; exact nI_ge hr (by omega))) (by rw [e27]; omega) (by rw [o1, e27]; exact k27) (fun _ => by rw [o2, e27, l27, ix]; exact vp_in_nI (by omega) (by decide)) (fun _ z => ?_) (by rw [e31]; omega) (by rw [o1, e31]; exact k31) (fun _ _ => by rw [o2, e31, l31]; exact vp_in_nI (by omega) (by decide)) (fun _ _ z => ?_) (by rw [e37]; omega) (by rw [o1, e37]; exact k37) (fun _ _ _ => by rw [o2, e37, l37]; exact vp_in_nI (by omega) (by decide)) (fun _ _ _ z => ?_) (by rw [e33]; omega) (by rw [o1, e33]; exact k33) (fun _ _ _ _ => by rw [o2, e33, l33]; exact vp_in_nI (by omega) (by decide)) (by rw [e36]; omega) (by rw [o1, e36]; exact k36) (fun _ z1 z2 z3 z4 => ?_) (fun _ z1 z2 z3 z4 => ?_) (fun _ z1 z2 z3 z4 => ?_) (fun _ z1 z2 z3 z4 h2 p2 _ _ => ?_)
    · rw [e27, ix, ci, vA, b2i_0] at z
      exact skip (fun w => by rw [z] at w; cases w)
    · rw [e31, cr, vO, b2i_n] at z
      exact skip (fun _ w => by rw [w] at z; cases z)
    · rw [e37, cr] at z
      refine skip (fun _ _ => ?_)
      cases eV : V r with
      | none => exact (vC0.2 eV z).elim
      | some _ => rfl
    · rw [e31, cr, vO] at z2
      rw [e37, cr, vC0] at z3
      rw [e37, e33, cr, vP, e1_ge (hp.lt (by decide))] at z4
      obtain ⟨l', hl1⟩ := isSome_ex z4
      have := htl l' z3 (hb0 z2) hl1
      rw [e37, cr, v38, o2, e36, l36]; exact vp_in_nI (by omega) (by decide)
    · rw [e31, cr, vO] at z2
      rw [e37, cr, vC0] at z3
      rw [e27, ix, ci, vA, b2i_n] at z1
      rw [e37, e33, cr, vP, e1_ge (hp.lt (by decide))] at z4
      obtain ⟨l', hl1⟩ := isSome_ex z4
      have hro := hb0 z2
      have ht := htl l' z3 hro hl1
      obtain ⟨v1, v2, v3⟩ := hnew l' z3 hro hl1
      have hm0 := (hM.1 l' r).mpr hl1
      rw [e37, e33, e36, cr, v38, vP, hl1, nI_clamp (show tail < 2 ^ 31 by omega), sI_ne (show y ≠ y + 25 by omega), v38, nI_1, nI_1, show e1 (some l') = nI l' from rfl]
      have hh : snoc q tail l' head = q head := snoc_ne (by omega)
      have key := ih (r + 1) (tail + 1) (snoc q tail l') (up V r (some head)) (sI (sI (sI h1 (y + 26) r (nI (q head))) (y + 25) tail (nI l')) y 38 (nI (tail + 1))) (by omega) ⟨(eo26.trans (EO.cI (by decide) (by decide) (by decide))).trans (EO.s0 (by decide)), sI_eq, fun i hi => ?_, fun i j hi hj hij => ?_, fun l x1 x2 => ?_, fun b hb => ?_, fun b j hb => ?_, fun i hi => ?_, fun i hi b x1 x2 => ?_, by omega⟩ (by omega) (fun b hb x1 x2 => ?_)
      · rw [hh] at key
        exact key
      · rw [sI_ne (by omega)]
        by_cases ei : i = tail
        · subst ei; rw [sI_eq, snoc_eq]; exact ⟨rfl, v1, v2⟩
        · rw [sI_nk ei, sI_ne (by omega), snoc_ne ei]; exact b3 i (by omega)
      · by_cases ei : i = tail <;> by_cases ej : j = tail
        · omega
        · rw [ei, snoc_eq, snoc_ne ej] at hij
          exact absurd hij.symm (v3 j (by omega))
        · rw [ej, snoc_eq, snoc_ne ei] at hij
          exact absurd hij (v3 i (by omega))
        · rw [snoc_ne ei, snoc_ne ej] at hij
          exact b4 i j (by omega) (by omega) hij
      · obtain ⟨i, x3, x4⟩ := b5 l x1 x2
        exact ⟨i, by omega, by rw [snoc_ne (by omega)]; exact x4⟩
      · rw [sI_ne (by omega), sI_ne (by omega)]
        by_cases eb : b = r
        · subst eb
          rw [sI_eq, up_eq]
          show nI (q head) = nI (snoc q tail l' head)
          rw [hh]
        · rw [sI_nk eb, up_ne eb, b6 b hb]
          cases eV : V b with
          | none => rfl
          | some j =>
            show nI (q j) = nI (snoc q tail l' j)
            rw [snoc_ne (by have := (b7 b j eV).1; omega)]
      · by_cases eb : b = r
        · subst eb
          rw [up_eq] at hb
          cases hb
          exact ⟨by omega, hro, by rw [hh]; exact z1, tail, by omega, hht, by rw [snoc_eq]; exact hl1⟩
        · rw [up_ne eb] at hb
          obtain ⟨x1, x2, x3, i, x4, x5, x6⟩ := b7 b j hb
          exact ⟨by omega, x2, by rw [snoc_ne (by omega)]; exact x3, i, by omega, x5, by rw [snoc_ne (by omega)]; exact x6⟩
      · by_cases ei : i = tail
        · subst ei
          rw [snoc_eq]
          exact Or.inr ⟨r, hm0, by rw [up_eq]; rfl⟩
        · rw [snoc_ne ei]
          rcases b8 i (by omega) with x | ⟨b, x1, x2⟩
          · exact Or.inl x
          · refine Or.inr ⟨b, x1, ?_⟩
            by_cases eb : b = r
            · rw [eb, up_eq]; rfl
            · rw [up_ne eb]; exact x2
      · rw [snoc_ne (by omega)] at x1
        have := b9 i hi b x1 x2
        by_cases eb : b = r
        · rw [eb, up_eq]; rfl
        · rw [up_ne eb]; exact this
      · rw [hh] at x1
        by_cases eb : b = r
        · rw [eb, up_eq]; rfl
        · rw [up_ne eb]; exact hdone b (by omega) x1 x2
    · rw [e31, cr, vO] at z2
      rw [e37, cr, vC0] at z3
      rw [e27, ix, ci, vA, b2i_n] at z1
      rw [e37, e33, cr, vP, e1_ge (hp.lt (by decide))] at z4
      have hrn : mt 1 r = none := by cases e : mt 1 r with | none => rfl | some _ => rw [e] at z4; exact (z4 rfl).elim
      have hro := hb0 z2
      rw [e37, cr]
      refine m_flip (m := m) (tail := tail) (q := q) (j := head) (C := fun b j => (b = r ∧ j = head) ∨ (b ≠ r ∧ V b = some j)) (hm.eo eo26) hA n3 n4 (hp.eo eo26 (by decide) (by decide)) hM hoc b4 (fun i hi => (b3 i hi).2.1) (fun b j hC => ?_) (fun j hj => ?_) (Or.inl ⟨rfl, rfl⟩) hrn
      · rcases hC with ⟨x1, x2⟩ | ⟨x1, x2⟩
        · subst x1 x2
          exact ⟨hht, sI_eq, z1, hro⟩
        · obtain ⟨x3, x4, x5, -⟩ := b7 b j x2
          refine ⟨x3, ?_, x5, x4⟩
          rw [sI_nk x1, b6 b (by have := (hA _ _ x5).2; omega), x2]
      · rcases b8 j hj with x | ⟨b, x1, x2⟩
        · exact Or.inl x
        · obtain ⟨j', ej⟩ := isSome_ex x2
          obtain ⟨x3, x4, x5, i, x6, x7, x8⟩ := b7 b j' ej
          have : q j = q i := Option.some.inj (((hM.1 _ _).1 x1).symm.trans x8)
          have := b4 j i hj x6 this
          refine Or.inr ⟨b, j', x1, Or.inr ⟨?_, ej⟩, by omega⟩
          intro eb
          rw [eb, hrn] at x8; cases x8
    · obtain ⟨x1, mt', x2⟩ := p2
      refine s_X6_grow_84 (hz1 h2 ?_ ⟨mt', x2⟩)
      exact (eo26.wide (by decide) (by decide)).trans (x1.wide (by decide) (by decide))
theorem gw_out {nc ns : Nat} {Z : Option Value → PH → Prop} (hm : ML h y) (hN' : EN h y n m) (he : EE h y n m A) (hq : EQ h y n m op) (hp : EM h y mt) (hM : IsM A (mt 0) (mt 1)) (hoc : ∀ l b, mt 0 l = some b → op 0 l = op 1 b)
    (hz0 : ∀ h1, EO y [25, 26] [38] h h1 → Cert A mt op → Z (some (.int 0)) h1) (hz1 : ∀ h1, EO y [21, 22, 25, 26] [38] h h1 → Grown h y n A mt op h1 → Z (some (.int 1)) h1) : ∀ d head tail q V h1, head + d = n + 1 → GI h y n A mt op tail head q V h1 →
    RR G nc ns m_X6_grow 6 [some (.ref y), some (.int (nI head)), none, none] [] h1 Z := by
  obtain ⟨r36, k36, l36⟩ := hm.r 36 25 2 50 (by decide)
  have y0 := hm.2.1
  obtain ⟨n1, n2, n3, n4⟩ := id hN'
  intro d
  induction d with
  | zero =>
    intro head tail q V h1 e hg
    have htn : tail ≤ n := inj_le q (fun i hi => (hg.2.2.1 i hi).2.2) hg.2.2.2.1
    have := hg.2.2.2.2.2.2.2.2.2
    omega
  | succ d ih =>
    intro head tail q V h1 e hg
    obtain ⟨eo, b2, b3, b4, b5, b6, b7, b8, b9, b10⟩ := id hg
    obtain ⟨o1, o2, o3, -⟩ := id eo
    have htn : tail ≤ n := inj_le q (fun i hi => (b3 i hi).2.2) b4
    by_cases hht : head < tail
    · have ch : Int32.toNatClampNeg (nI head) = head := nI_clamp (by omega)
      refine s_X6_grow_6 (by rw [o1]; exact hm.1) (fun z => absurd z (by rw [b2]; exact nI_ge hht (by omega))) (by rw [o3, r36]; omega) (by rw [o1, o3, r36]; exact k36) (fun _ => by rw [o2, o3, r36, l36]; exact vp_in_nI (by omega) (by decide)) (fun _ => ?_)
      rw [o3, r36, ch, (b3 head hht).1, ← nI_0]
      exact gw_in hm hN' he hq hp hM hoc (fun tail q V h1 hg1 => by rw [nI_1]; exact ih (head + 1) tail q V h1 (by omega) hg1) hz1 m 0 tail q V h1 (by omega) hg hht (fun b hb => absurd hb (by omega))
    · have eh : head = tail := by omega
      have hC : Cert A mt op := by
        refine ⟨fun l => ∃ i, i < tail ∧ q i = l, fun l y1 y2 => b5 l y1 y2, fun l b y1 y2 y3 => ?_, fun l y1 => ?_⟩
        · obtain ⟨i, x1, x2⟩ := y1
          subst x2
          obtain ⟨j, ej⟩ := isSome_ex (b9 i (by omega) b y2 y3)
          obtain ⟨_, _, _, i2, w1, w2, w3⟩ := b7 b j ej
          exact ⟨q i2, w3, i2, w1, rfl⟩
        · obtain ⟨i, x1, x2⟩ := y1
          subst x2
          exact (b3 i x1).2.1
      have no : ¬ hI h1 y 38 ≤ nI head → False := fun z => z (by rw [b2]; exact nI_le (by omega) (by omega))
      exact s_X6_grow_6 (by rw [o1]; exact hm.1) (fun _ => hz0 h1 eo hC) (by rw [o3, r36]; omega) (by rw [o1, o3, r36]; exact k36) (fun z => (no z).elim) (fun z => (no z).elim)
theorem m_grow (hm : ML h y) (hN' : EN h y n m) (he : EE h y n m A) (hq : EQ h y n m op) (hp : EM h y mt) (hM : IsM A (mt 0) (mt 1)) (hoc : ∀ l b, mt 0 l = some b → op 0 l = op 1 b) :
    Ev G m_X6_grow [.ref y] h 0 0 (RI (fun x h' => (x = 1 ∧ EO y [21, 22, 25, 26] [38] h h' ∧ Grown h y n A mt op h') ∨ (x = 0 ∧ EO y [21, 22, 25, 26] [38] h h' ∧ EM h' y mt ∧ Cert A mt op))) := by
  refine Ev.of pn_X6_grow (Nat.le_of_ble_eq_true rfl) ?_
  refine s_X6_grow_0 (m_begin hm hN' hq hp) hm.1 (fun h1 q n1 s1 => ?_)
  obtain ⟨tail, q, eo, c2, c3, c4, c5, c6, c7⟩ := q
  refine s_X6_grow_4 ?_
  rw [← nI_0]
  refine gw_out hm hN' he hq hp hM hoc (fun h2 eo2 hC => ⟨⟨0, rfl, Or.inr ⟨rfl, eo2.wide (by decide) (by decide), hp.eo eo2 (by decide) (by decide), hC⟩⟩, eo2.2.2.2.1, eo2.2.2.2.2.1⟩) (fun h2 eo2 hL => ⟨⟨1, rfl, Or.inl ⟨rfl, eo2, hL⟩⟩, eo2.2.2.2.1, eo2.2.2.2.2.1⟩) (n + 1) 0 tail q (fun _ => none) h1 (by omega) ⟨eo, c2, fun i hi => ⟨(c4 i hi).1, (c4 i hi).2.2.1, (c4 i hi).2.1⟩, c5, fun l z1 z2 => c6 l (hq.2.1 l z1) z1 z2, fun b hb => c7 b hb, fun b j z => (by cases z), fun i hi => Or.inl (c4 i hi).2.2.2, fun i hi => absurd hi (by omega), by omega⟩
