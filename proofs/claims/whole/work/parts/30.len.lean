section LEN
theorem cnt_true (n : Nat) : cnt n (fun _ => true) = n := by
  induction n with
  | zero => rfl
  | succ n ih => rw [cnt, ih]; rfl
/-- different numbers below n are at most n -/
theorem inj_le {n t : Nat} (q : Nat → Nat) (h1 : ∀ i, i < t → q i < n) (h2 : ∀ i j, i < t → j < t → q i = q j → i = j) : t ≤ n := by
  have := cnt_inj (k := n) q t (fun _ => true) (fun _ => true) (fun i hi _ => ⟨h1 i hi, rfl⟩) (fun i j hi hj _ _ e => h2 i j hi hj e)
  rw [cnt_true, cnt_true] at this
  exact this
def snoc (q : Nat → Nat) (t v : Nat) : Nat → Nat := fun i => if i = t then v else q i
theorem snoc_eq {q : Nat → Nat} {t v : Nat} : snoc q t v t = v := if_pos rfl
theorem snoc_ne {q : Nat → Nat} {t v i : Nat} (h : i ≠ t) : snoc q t v i = q i := if_neg h
variable {G : GG} {h : PH} {p g m : Nat} {sz : Nat → Nat} {E : Nat → Nat → Bool} {mt : Nat → Nat → Option Nat} {op : Nat → Nat → Bool}
/-- the queue of bare nodes below k -/
def Q1 (h : PH) (p : Nat) (mt : Nat → Nat → Option Nat) (op : Nat → Nat → Bool) (k tail : Nat) (q : Nat → Nat) (h1 : PH) : Prop := SO (p + 9) (p + 11) h h1 ∧ tail ≤ k ∧ (∀ i, i < tail → hI h1 (p + 9) i = nI (q i) ∧ q i < k ∧ op 0 (q i) = true ∧ mt 0 (q i) = none) ∧ (∀ i j, i < tail → j < tail → q i = q j → i = j) ∧ ∀ l, l < k → op 0 l = true → mt 0 l = none → ∃ i, i < tail ∧ q i = l
theorem l1_loop {nc ns : Nat} {Z : Option Value → PH → Prop} {st : Int64} (hg : GS h g m sz E) (hl : PL h p g m) (hst : ∀ i, i < 64 → bt st i = (op 0 i && (mt 0 i).isNone))
    (K : ∀ tail q h1, Q1 h p mt op (sz 0) tail q h1 → RR G nc ns m_X3_lengthen 61 [some (.ref p), some (.int (nI tail)), some (.long st), none, some (.long (hJ h1 (p + 5) 1)), none, some (.int 0), none, none, none, none, none, none] [] h1 Z) : ∀ d k tail q h1, k + d = sz 0 → Q1 h p mt op k tail q h1 →
    RR G nc ns m_X3_lengthen 11 [some (.ref p), some (.int (nI tail)), some (.long st), none, some (.int (nI k)), none, none, none, none, none, none, none, none] [] h1 Z := by
  have hl' := hl
  obtain ⟨k0, r0, r1, r2, r3, r4, r5, r6, k1, n1, ks, kp, ko, kt, kts, kq, kc, hm, g0, gp⟩ := hl
  have hsm := (hg.2.1 0 (by decide)).2
  intro d
  induction d with
  | zero =>
    intro k tail q h1 e hq
    have e : k = sz 0 := by omega
    subst e
    obtain ⟨o1, o2, o3, o4, o5, o6⟩ := id hq.1
    have hg1 : GS h1 g m sz E := hg.so hq.1 (by omega)
    have no : ¬ nI (sz 0) ≤ nI (sz 0) → False := fun z => z (nI_le (Nat.le_refl _) (by omega))
    refine s_X3_lengthen_11 (x2 := 0) (by rw [o1]; exact k0) (by rw [o3, r0]; omega) (by rw [o3, r0]; exact ev_sizeOf hg1 (s := 0) (by decide)) (by rw [o1, o3, r0]; exact hg.1.1) (by rw [o3, r3]; omega) (by rw [o1, o3, r3]; exact ko.1) (fun _ => by rw [o2, o3, r3, ko.2]; exact vp_in_nI (n := 1) (by decide) (by decide)) (fun _ => ?_) (fun z => (no z).elim) (fun z => (no z).elim) (by rw [o3, r5]; omega) (by rw [o1, o3, r5]; exact kq.1) (fun z => (no z).elim) (fun z => (no z).elim)
    rw [o3, r3]
    exact K tail q h1 hq
  | succ d ih =>
    intro k tail q h1 e hq
    obtain ⟨q1, q2, q3, q4, q5⟩ := id hq
    obtain ⟨o1, o2, o3, o4, o5, o6⟩ := id q1
    have hg1 : GS h1 g m sz E := hg.so q1 (by omega)
    have hk := hst k (by omega)
    refine s_X3_lengthen_11 (x2 := b2i (bt st k)) (by rw [o1]; exact k0) (by rw [o3, r0]; omega) (by rw [o3, r0]; exact ev_sizeOf hg1 (s := 0) (by decide)) (by rw [o1, o3, r0]; exact hg.1.1) (by rw [o3, r3]; omega) (by rw [o1, o3, r3]; exact ko.1) (fun _ => by rw [o2, o3, r3, ko.2]; exact vp_in_nI (n := 1) (by decide) (by decide)) (fun z => absurd z (nI_ge (by omega) (by omega))) (fun _ => ev_contains _ (by omega)) (fun _ z => ?_) (by rw [o3, r5]; omega) (by rw [o1, o3, r5]; exact kq.1) (fun _ _ => by rw [o2, o3, r5, kq.2]; exact vp_in_nI (by omega) (by omega)) (fun _ z => ?_)
    · rw [nI_1]
      have hb := b2i_0.mp z
      rw [hk] at hb
      refine ih (k + 1) tail q h1 (by omega) ⟨q1, by omega, fun i hi => ?_, q4, fun l hl1 h2 h3 => ?_⟩
      · obtain ⟨z1, z2, z3⟩ := q3 i hi; exact ⟨z1, by omega, z3⟩
      · rcases Nat.lt_or_ge l k with y | y
        · exact q5 l y h2 h3
        · have el : l = k := by omega
          subst el
          rw [h2, h3] at hb; cases hb
    · rw [nI_1, nI_1, o3, r5, nI_clamp (by omega)]
      have hb := b2i_n.mp z
      rw [hk, Bool.and_eq_true] at hb
      have hn : mt 0 k = none := by
        cases ek : mt 0 k with
        | none => rfl
        | some v => rw [ek] at hb; cases hb.2
      refine ih (k + 1) (tail + 1) (snoc q tail k) _ (by omega) ⟨q1.trans (SO.sI (by omega) (by omega)), by omega, fun i hi => ?_, fun i j hi hj hij => ?_, fun l hl1 h2 h3 => ?_⟩
      · by_cases ei : i = tail
        · subst ei; rw [sI_eq, snoc_eq]; exact ⟨rfl, by omega, hb.1, hn⟩
        · rw [sI_nk ei, snoc_ne ei]
          obtain ⟨z1, z2, z3⟩ := q3 i (by omega); exact ⟨z1, by omega, z3⟩
      · by_cases ei : i = tail <;> by_cases ej : j = tail
        · omega
        · rw [ei, snoc_eq, snoc_ne ej] at hij
          have := (q3 j (by omega)).2.1; omega
        · rw [ej, snoc_eq, snoc_ne ei] at hij
          have := (q3 i (by omega)).2.1; omega
        · rw [snoc_ne ei, snoc_ne ej] at hij
          exact q4 i j (by omega) (by omega) hij
      · rcases Nat.lt_or_ge l k with y | y
        · obtain ⟨i, z1, z2⟩ := q5 l y h2 h3
          exact ⟨i, by omega, by rw [snoc_ne (by omega)]; exact z2⟩
        · have el : l = k := by omega
          subst el
          exact ⟨tail, by omega, snoc_eq⟩
/-- the search, with head nodes done and the fresh ones of node head still waiting -/
def BI (h : PH) (p n : Nat) (E : Nat → Nat → Bool) (mt : Nat → Nat → Option Nat) (op : Nat → Nat → Bool) (tail head : Nat) (rest fresh : Int64) (q : Nat → Nat) (h1 : PH) : Prop :=
  SO (p + 9) (p + 11) h h1 ∧ (∀ i, i < tail → hI h1 (p + 9) i = nI (q i) ∧ op 0 (q i) = true ∧ q i < n) ∧ (∀ i j, i < tail → j < tail → q i = q j → i = j) ∧ (∀ l, op 0 l = true → mt 0 l = none → ∃ i, i < tail ∧ q i = l) ∧
  (∀ b, op 1 b = true → bt rest b = false → bt fresh b = false → ∃ j i, i < tail ∧ j < i ∧ hI h1 (p + 10) b = nI (q j) ∧ E (q j) b = true ∧ mt 1 b = some (q i)) ∧
  (∀ i, i < tail → mt 0 (q i) = none ∨ ∃ b, mt 0 (q i) = some b ∧ op 1 b = true ∧ bt rest b = false ∧ bt fresh b = false) ∧
  (∀ i, i < head → ∀ b, E (q i) b = true → op 1 b = true → bt rest b = false ∧ bt fresh b = false) ∧
  (∀ b, bt rest b = true → op 1 b = true) ∧ (∀ b, bt fresh b = true → op 1 b = true ∧ bt rest b = false ∧ E (q head) b = true) ∧ head ≤ tail
/-- a closed set of open nodes that has the bare ones: no lengthening -/
def Cert (E : Nat → Nat → Bool) (mt : Nat → Nat → Option Nat) (op : Nat → Nat → Bool) : Prop := ∃ X : Nat → Prop, (∀ l, op 0 l = true → mt 0 l = none → X l) ∧ (∀ l b, X l → E l b = true → op 1 b = true → ∃ l', mt 1 b = some l' ∧ X l') ∧ ∀ l, X l → op 0 l = true
theorem in_loop {nc ns : Nat} {Z : Option Value → PH → Prop} {st : Int64} {head : Nat} (hg : GS h g m sz E) (hl : PL h p g m) (hp : PS h p m mt op) (hM : IsM E (mt 0) (mt 1)) (hoc : ∀ l b, mt 0 l = some b → op 0 l = op 1 b)
    (OUT : ∀ tail rest q h1, BI h p (sz 0) E mt op tail (head + 1) rest 0 q h1 → RR G nc ns m_X3_lengthen 61 [some (.ref p), some (.int (nI tail)), some (.long st), none, some (.long rest), none, some (.int (nI (head + 1))), none, none, none, none, none, none] [] h1 Z)
    (hz1 : ∀ h1, SO (p + 2) (p + 11) h h1 → Longer h p m (sz 0) E mt op h1 → Z (some (.int 1)) h1) : ∀ c tail rest fresh q h1, cnt 64 (bt fresh) = c → BI h p (sz 0) E mt op tail head rest fresh q h1 → head < tail → (∀ b, E (q head) b = true → op 1 b = true → bt rest b = false) →
    RR G nc ns m_X3_lengthen 109 [some (.ref p), some (.int (nI tail)), some (.long st), none, some (.long rest), none, some (.int (nI head)), some (.int (nI (q head))), some (.long fresh), none, some (.int (nI c)), none, none] [] h1 Z := by
  have hl' := hl
  obtain ⟨k0, r0, r1, r2, r3, r4, r5, r6, k1, n1, ks, kp, ko, kt, kts, kq, kc, hm, g0, gp⟩ := hl
  obtain ⟨a1, a2, a3⟩ := ks 1 (by decide)
  have hsm := (hg.2.1 0 (by decide)).2
  have hsm1 := (hg.2.1 1 (by decide)).2
  intro c
  induction c with
  | zero =>
    intro tail rest fresh q h1 hc hB hht hdone
    have hf0 : fresh = 0 := by
      apply bt_ext
      intro k hk
      rw [bt_zero]; exact cnt_zero.mp hc k hk
    obtain ⟨b1, b2, b3, b4, b5, b6, b7, b8, b9, b10⟩ := id hB
    obtain ⟨o1, o2, o3, o4, o5, o6⟩ := id b1
    have no : ¬ nI 0 ≤ 0 → False := fun z => z (by decide)
    refine s_X3_lengthen_109 (x1 := 0) (P2 := fun _ => True) (fun _ => ?_) (fun z => (no z).elim) (by rw [o1]; exact k0) (by rw [o3, r6]; omega) (by rw [o1, o3, r6]; exact kc.1) (fun z => (no z).elim) (by rw [o3, r1]; omega) (Or.inl (by rw [o1, o3, r1]; exact k1)) (fun z => (no z).elim) (by rw [o3, r1, a3]; omega) (by rw [o1, o3, r1, a3]; exact a1) (fun z => (no z).elim) (by rw [o3, r5]; omega) (Or.inl (by rw [o1, o3, r5, kq.1]; rfl)) (fun z => (no z).elim) (by rw [o1, o3, r5]; exact kq.1) (fun z => (no z).elim) (fun z => (no z).elim) (fun z => (no z).elim) (fun z => (no z).elim)
    rw [nI_1]
    subst hf0
    refine OUT tail rest q h1 ⟨b1, b2, b3, b4, b5, b6, fun i hi b z1 z2 => ?_, b8, fun b z => (by rw [bt_zero] at z; cases z), by omega⟩
    by_cases ei : i = head
    · subst ei; exact ⟨hdone b z1 z2, bt_zero b⟩
    · exact b7 i (by omega) b z1 z2
  | succ c ih =>
    intro tail rest fresh q h1 hc hB hht hdone
    obtain ⟨b1, b2, b3, b4, b5, b6, b7, b8, b9, b10⟩ := id hB
    obtain ⟨o1, o2, o3, o4, o5, o6⟩ := id b1
    have cc : c + 1 ≤ 64 := by rw [← hc]; exact cnt_le _ _
    have hne : fresh ≠ 0 := by
      intro e
      rw [e, cnt_zero.mpr (fun i _ => bt_zero i)] at hc; omega
    obtain ⟨r, hr64, hr1, hr2⟩ := bt_least hne
    obtain ⟨hro, hrr, hrE⟩ := b9 r hr1
    have hrm : r < m := by have := (hg.2.2.2 _ _ hrE).2; omega
    have cr : Int32.toNatClampNeg (nI r) = r := nI_clamp (by omega)
    have hc' : cnt 64 (bt (fresh &&& (fresh - 1))) = c := by
      have e1 := cnt_off (n := 64) hr64 hr1
      have e2 : cnt 64 (bt (fresh &&& (fresh - 1))) = cnt 64 (fun j => bt fresh j && !decide (j = r)) := cnt_congr (fun i _ => bt_rest hr1 hr2 i)
      omega
    have hfr : ∀ b, bt (fresh &&& (fresh - 1)) b = (bt fresh b && !decide (b = r)) := fun b => bt_rest hr1 hr2 b
    have e6 : hR h1 p 6 = p + 10 := by rw [o3]; exact r6
    have e5 : hR h1 p 5 = p + 9 := by rw [o3]; exact r5
    have e1r : hR h1 (hR h1 p 1) 1 = p + 2 + 1 := by rw [o3, r1]; exact a3
    have emt : hI (sI h1 (hR h1 p 6) (Int32.toNatClampNeg (nI r)) (nI (q head))) (hR h1 (hR h1 p 1) 1) (Int32.toNatClampNeg (nI r)) = enc (mt 1 r) := by
      rw [e6, e1r, cr, sI_ne (by omega), (o6 (p + 2 + 1) (by omega)).1 r]
      exact hp.1 1 (by decide) r hrm
    have en := enc_no (o := mt 1 r) (fun v hv => by have := hp.2.1 1 (by decide) r v hv; omega)
    have so2 : SO (p + 9) (p + 11) h (sI h1 (p + 10) r (nI (q head))) := b1.trans (SO.sI (by omega) (by omega))
    have htn : tail ≤ sz 0 := inj_le q (fun i hi => (b2 i hi).2.2) b3
    have eL : hL h1 (hR h1 p 5) = m := by rw [o2, e5]; exact kq.2
    -- a matched right node: its partner is new to the queue
    have hnew : ∀ l', mt 1 r = some l' → op 0 l' = true ∧ l' < sz 0 ∧ ∀ i, i < tail → q i ≠ l' := fun l' hl1 => by
      have hm0 := (hM.1 l' r).mpr hl1
      refine ⟨by rw [hoc l' r hm0]; exact hro, (hg.2.2.2 l' r (hM.2 l' r hm0)).1, fun i hi e => ?_⟩
      rcases b6 i hi with z | ⟨b, z1, z2, z3, z4⟩
      · rw [e, hm0] at z; cases z
      · rw [e, hm0] at z1
        cases z1
        rw [hr1] at z4; cases z4
    have htl : ∀ l', mt 1 r = some l' → tail < sz 0 := fun l' hl1 => by
      obtain ⟨z1, z2, z3⟩ := hnew l' hl1
      have := inj_le (n := sz 0) (t := tail + 1) (snoc q tail l') (fun i hi => by
        by_cases ei : i = tail
        · rw [ei, snoc_eq]; exact z2
        · rw [snoc_ne ei]; exact (b2 i (by omega)).2.2) (fun i j hi hj hij => by
        by_cases ei : i = tail <;> by_cases ej : j = tail
        · omega
        · rw [ei, snoc_eq, snoc_ne ej] at hij
          exact absurd hij.symm (z3 j (by omega))
        · rw [ej, snoc_eq, snoc_ne ei] at hij
          exact absurd hij (z3 i (by omega))
        · rw [snoc_ne ei, snoc_ne ej] at hij
          exact b3 i j (by omega) (by omega) hij)
      omega
    refine s_X3_lengthen_109 (x1 := nI r) (P2 := fun h' => SO (p + 2) (p + 5) (sI h1 (p + 10) r (nI (q head))) h' ∧ Longer (sI h1 (p + 10) r (nI (q head))) p m (sz 0) E mt op h') (fun z => absurd z (nI_nle (by omega) (by omega))) (fun _ => ev_lowest hr1 hr2) (by rw [o1]; exact k0) (by rw [e6]; omega) (by rw [o1, e6]; exact kc.1) (fun _ => by rw [o2, e6, kc.2]; exact vp_in_nI hrm (by omega)) (by rw [o3, r1]; omega) (Or.inl (by rw [o1, o3, r1]; exact k1)) (fun _ => by rw [o2, o3, r1, n1]; exact vp_in_nI (n := 1) (by decide) (by decide)) (by rw [e1r]; omega) (by rw [o1, e1r]; exact a1) (fun _ => by rw [o2, e1r, a2]; exact vp_in_nI hrm (by omega)) (by rw [e5]; omega) (Or.inl (by rw [o1, e5, kq.1]; rfl)) (fun _ z y => ?_) (by rw [o1, e5]; exact kq.1) (fun _ z y => ?_) (fun _ z y => ?_) (fun _ z => ?_) (fun _ z h2 p2 _ _ => ?_)
    · rw [emt] at z
      obtain ⟨l', hl1⟩ : ∃ l', mt 1 r = some l' := by
        cases e : mt 1 r with
        | none => exact absurd (en.mpr e) z
        | some v => exact ⟨v, rfl⟩
      have := htl l' hl1
      rw [eL] at y
      exact absurd y (nI_ge (by omega) (by omega))
    · rw [emt] at z
      obtain ⟨l', hl1⟩ : ∃ l', mt 1 r = some l' := by
        cases e : mt 1 r with
        | none => exact absurd (en.mpr e) z
        | some v => exact ⟨v, rfl⟩
      have := htl l' hl1
      rw [eL]; exact vp_in_nI (by omega) (by omega)
    · rw [emt] at z
      obtain ⟨l', hl1⟩ : ∃ l', mt 1 r = some l' := by
        cases e : mt 1 r with
        | none => exact absurd (en.mpr e) z
        | some v => exact ⟨v, rfl⟩
      have htl' := htl l' hl1
      obtain ⟨w1, w2, w3⟩ := hnew l' hl1
      have hm0 := (hM.1 l' r).mpr hl1
      rw [emt, pk_m1, nI_1, e6, e5, cr, nI_clamp (by omega), hl1, show enc (some l') = nI l' from rfl]
      have hh : snoc q tail l' head = q head := snoc_ne (by omega)
      have := ih (tail + 1) rest (fresh &&& (fresh - 1)) (snoc q tail l') (sI (sI h1 (p + 10) r (nI (q head))) (p + 9) tail (nI l')) hc' ⟨so2.trans (SO.sI (by omega) (by omega)), fun i hi => ?_, fun i j hi hj hij => ?_, fun l y1 y2 => ?_, fun b y1 y2 y3 => ?_, fun i hi => ?_, fun i hi b y1 y2 => ?_, b8, fun b y1 => ?_, by omega⟩ (by omega) (by rw [hh]; exact hdone)
      · rw [hh] at this
        exact this
      · by_cases ei : i = tail
        · subst ei; rw [sI_eq, snoc_eq]; exact ⟨rfl, w1, w2⟩
        · rw [sI_nk ei, sI_ne (by omega), snoc_ne ei]; exact b2 i (by omega)
      · by_cases ei : i = tail <;> by_cases ej : j = tail
        · omega
        · rw [ei, snoc_eq, snoc_ne ej] at hij
          exact absurd hij.symm (w3 j (by omega))
        · rw [ej, snoc_eq, snoc_ne ei] at hij
          exact absurd hij (w3 i (by omega))
        · rw [snoc_ne ei, snoc_ne ej] at hij
          exact b3 i j (by omega) (by omega) hij
      · obtain ⟨i, x1, x2⟩ := b4 l y1 y2
        exact ⟨i, by omega, by rw [snoc_ne (by omega)]; exact x2⟩
      · rw [sI_ne (by omega)]
        by_cases eb : b = r
        · subst eb
          exact ⟨head, tail, by omega, hht, by rw [sI_eq, hh], by rw [hh]; exact hrE, by rw [snoc_eq]; exact hl1⟩
        · have y4 : bt fresh b = false := by
            rw [hfr b] at y3
            simpa [eb] using y3
          obtain ⟨j, i, x1, x2, x3, x4, x5⟩ := b5 b y1 y2 y4
          exact ⟨j, i, by omega, x2, by rw [sI_nk eb, snoc_ne (by omega)]; exact x3, by rw [snoc_ne (by omega)]; exact x4, by rw [snoc_ne (by omega)]; exact x5⟩
      · by_cases ei : i = tail
        · subst ei
          rw [snoc_eq]
          exact Or.inr ⟨r, hm0, hro, hrr, by rw [hfr r]; simp⟩
        · rw [snoc_ne ei]
          rcases b6 i (by omega) with x | ⟨b, x1, x2, x3, x4⟩
          · exact Or.inl x
          · exact Or.inr ⟨b, x1, x2, x3, by rw [hfr b, x4]; rfl⟩
      · rw [snoc_ne (by omega)] at y1
        obtain ⟨x1, x2⟩ := b7 i hi b y1 y2
        exact ⟨x1, by rw [hfr b, x2]; rfl⟩
      · rw [hh]
        rw [hfr b, Bool.and_eq_true] at y1
        exact b9 b y1.1
    · -- a bare right node: the path is there
      rw [emt] at z
      have hrn := en.mp z
      rw [e6, cr]
      exact ev_pairAlong (tail := tail) (q := q) (j := head) (C := fun b j => (b = r ∧ j = head) ∨ (b ≠ r ∧ op 1 b = true ∧ bt rest b = false ∧ bt fresh b = false ∧ j < tail ∧ hI h1 (p + 10) b = nI (q j) ∧ E (q j) b = true)) (hg.so so2 (by omega)) (hl'.so so2) (hp.so so2 (by omega)) hM hoc b3 (fun i hi => (b2 i hi).2.1) (by omega)
        (fun b j hC => by
          rcases hC with ⟨y1, y2⟩ | ⟨y0, y1, y2, y3, y4, y5, y6⟩
          · subst y1; subst y2
            exact ⟨hht, hrm, sI_eq, hrE, hro⟩
          · refine ⟨y4, ?_, by rw [sI_nk y0]; exact y5, y6, y1⟩
            have := (hg.2.2.2 _ _ y6).2; omega)
        (fun j hj => by
          rcases b6 j hj with x | ⟨b, x1, x2, x3, x4⟩
          · exact Or.inl x
          · right
            obtain ⟨j', i, w1, w2, w3, w4, w5⟩ := b5 b x2 x3 x4
            have w6 := (hM.1 (q j) b).mp x1
            rw [w5] at w6
            have w7 := b3 i j w1 hj (Option.some.inj w6)
            exact ⟨b, j', x1, Or.inr ⟨fun e => (by rw [e, hr1] at x4; cases x4), x2, x3, x4, by omega, w3, w4⟩, by omega⟩)
        (Or.inl ⟨rfl, rfl⟩) hrn
    · obtain ⟨p21, mt', m1, m2, m3, m4, m5⟩ := p2
      refine s_X3_lengthen_163 (hz1 h2 ?_ ⟨mt', m1, m2, m3, m4, m5⟩)
      exact (so2.wide (by omega) (by omega)).trans (p21.wide (by omega) (by omega))
end LEN
