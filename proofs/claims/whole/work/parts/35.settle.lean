section SETTLE
variable {G : GG} {h : PH} {p g m : Nat} {sz : Nat → Nat} {E : Nat → Nat → Bool} {mt : Nat → Nat → Option Nat} {op : Nat → Nat → Bool}
theorem looM_0 {i j : Nat} : looM mt 0 i j 0 = up (mt 0) i none ∧ looM mt 0 i j 1 = up (mt 1) j none := by
  constructor
  · funext x
    unfold looM up
    by_cases e : x = i
    · rw [if_pos (Or.inl ⟨rfl, e⟩), if_pos e]
    · rw [if_neg (by rintro (z | z); exact e z.2; exact absurd z.1 (by decide)), if_neg e]
  · funext x
    unfold looM up
    by_cases e : x = j
    · rw [if_pos (Or.inr ⟨rfl, e⟩), if_pos e]
    · rw [if_neg (by rintro (z | z); exact absurd z.1 (by decide); exact e z.2), if_neg e]
theorem looM_1 {i j : Nat} : looM mt 1 i j 1 = up (mt 1) i none ∧ looM mt 1 i j 0 = up (mt 0) j none := by
  constructor
  · funext x
    unfold looM up
    by_cases e : x = i
    · rw [if_pos (Or.inl ⟨rfl, e⟩), if_pos e]
    · rw [if_neg (by rintro (z | z); exact e z.2; exact absurd z.1 (by decide)), if_neg e]
  · funext x
    unfold looM up
    by_cases e : x = j
    · rw [if_pos (Or.inr ⟨rfl, e⟩), if_pos e]
    · rw [if_neg (by rintro (z | z); exact absurd z.1 (by decide); exact e z.2), if_neg e]
/-- left node c and right node r are loosened: what is left of the pairing -/
def Loosed (n : Nat) (E : Nat → Nat → Bool) (mt : Nat → Nat → Option Nat) (c r : Nat) (m2 : Nat → Nat → Option Nat) : Prop :=
  IsM E (m2 0) (m2 1) ∧ m2 0 c = none ∧ m2 1 r = none ∧ siz n (mt 0) ≤ siz n (m2 0) + 2 ∧ ∀ x, x ≠ c → mt 0 x ≠ some r → m2 0 x = mt 0 x
theorem loose_L {n k c j : Nat} (hE : Rg n k E) (hM : IsM E (mt 0) (mt 1)) (h : mt 0 c = some j) : IsM E (looM mt 0 c j 0) (looM mt 0 c j 1) ∧ looM mt 0 c j 0 c = none ∧ siz n (mt 0) ≤ siz n (looM mt 0 c j 0) + 1 ∧ ∀ x, x ≠ c → looM mt 0 c j 0 x = mt 0 x := by
  obtain ⟨e1, e2⟩ := looM_0 (mt := mt) (i := c) (j := j)
  rw [e1, e2]
  refine ⟨hM.del h, up_eq, ?_, fun x hx => up_ne hx⟩
  have := siz_up_none (f := mt 0) (hE c j (hM.2 c j h)).1 (by rw [h]; rfl)
  omega
theorem loose_R {n k r i : Nat} (hE : Rg n k E) (hM : IsM E (mt 0) (mt 1)) (h : mt 1 r = some i) : IsM E (looM mt 1 r i 0) (looM mt 1 r i 1) ∧ looM mt 1 r i 1 r = none ∧ siz n (mt 0) ≤ siz n (looM mt 1 r i 0) + 1 ∧ (∀ x, x ≠ i → looM mt 1 r i 0 x = mt 0 x) ∧ ∀ x, mt 0 x = none → looM mt 1 r i 0 x = none := by
  obtain ⟨e1, e2⟩ := looM_1 (mt := mt) (i := r) (j := i)
  have h0 := (hM.1 i r).mpr h
  rw [e1, e2]
  refine ⟨hM.del h0, up_eq, ?_, fun x hx => up_ne hx, fun x hx => ?_⟩
  · have := siz_up_none (f := mt 0) (hE i r (hM.2 i r h0)).1 (by rw [h0]; rfl)
    omega
  · by_cases e : x = i
    · rw [e, up_eq]
    · rw [up_ne e]; exact hx
/-- shutting one node of a side -/
theorem PS.shut {s c : Nat} (hp : PS h p m mt op) (hs : s < 2) (hc : c < 64) (hm : m ≤ 50) : PS (sJ h (p + 5) s (hJ h (p + 5) s &&& ((1 <<< (Int32.toInt64 (nI c) &&& 63)) ^^^ (-1)))) p m mt (fun t i => op t i && !(decide (t = s) && decide (i = c))) := by
  obtain ⟨q1, q2, q3, q4⟩ := hp
  refine ⟨fun t ht i hi => q1 t ht i hi, q2, fun t ht i => ?_, fun t ht i => ?_⟩
  · rw [sJ_ne (by omega)]; exact q3 t ht i
  · by_cases e : t = s
    · subst e
      rw [sJ_eq, bt_off hc, q4 t ht i]; simp
    · rw [sJ_nk e, q4 t ht i]; simp [e]
/-- after loosening: pair -/
theorem settle_pre {c r : Nat} {m2 : Nat → Nat → Option Nat} {opb : Nat → Nat → Bool} {n k : Nat} (hE : Rg n k E) (hB : Best n E (mt 0) (mt 1) c) (hS : Settled n k mt op c) (hch : Ch n E op c r) (hL : Loosed n E mt c r m2) (hopb : ∀ t i, opb t i = (op t i && !((decide (t = 0) && decide (i = c)) || (decide (t = 1) && decide (i = r))))) :
    Settled n k (pairM m2 c r) opb (c + 1) ∧ IsM E (pairM m2 c r 0) (pairM m2 c r 1) ∧ siz n (pairM m2 c r 0) = siz n (m2 0) + 1 ∧ ∀ i, i < c → pairM m2 c r 0 i = mt 0 i := by
  obtain ⟨l1, l2, l3, l4, l5⟩ := hL
  obtain ⟨hoc, h3⟩ := settled_oc hE hB.1.1 hS
  obtain ⟨q, q', z1, z2⟩ := id hch
  have hA := opA_iff.mp (z1.1.2 c r z2)
  have hcn : c < n := (hE c r hA.1).1
  have hrk : r < k := (hE c r hA.1).2
  have p0 : pairM m2 c r 0 = up (m2 0) c (some r) := pairM_fun
  have p1 : pairM m2 c r 1 = up (m2 1) r (some c) := by
    funext i
    by_cases e : i = r
    · subst e; rw [pairM_11, up_eq]
    · rw [pairM_1 e, up_ne e]
  have hM3 : IsM E (pairM m2 c r 0) (pairM m2 c r 1) := by rw [p0, p1]; exact l1.add hA.1 l2 l3
  have hs3 : siz n (pairM m2 c r 0) = siz n (m2 0) + 1 := by rw [p0]; exact siz_up_some hcn l2
  -- before c nothing changed
  have hpre : ∀ i, i < c → pairM m2 c r 0 i = mt 0 i := fun i hi => by
    rw [pairM_0 (by omega)]
    refine l5 i (by omega) (fun e => ?_)
    have h1 := (hS.2 r).mp hA.2.2
    exact h1.2 i hi e
  have hS3 : Settled n k (pairM m2 c r) opb (c + 1) := by
    refine ⟨fun i => ?_, fun b => ?_⟩
    · rw [hopb]
      have := hS.1 i
      by_cases e : i = c
      · subst e; simp; omega
      · simp only [e, decide_true, decide_false, Bool.and_false, Bool.false_or, show decide ((0 : Nat) = 1) = false by decide, Bool.false_and, Bool.not_false, Bool.and_true]
        rw [this]
        omega
    · rw [hopb]
      have := hS.2 b
      by_cases e : b = r
      · subst e
        simp only [show decide ((1 : Nat) = 0) = false by decide, Bool.false_and, decide_true, Bool.and_true, Bool.or_true, Bool.not_true, Bool.and_false, Bool.false_eq_true, false_iff]
        rintro ⟨-, z⟩
        exact z c (by omega) pairM_00
      · simp only [e, show decide ((1 : Nat) = 0) = false by decide, decide_false, Bool.false_and, Bool.and_false, Bool.or_false, Bool.not_false, Bool.and_true]
        rw [this]
        constructor
        · rintro ⟨y1, y2⟩
          refine ⟨y1, fun i hi => ?_⟩
          by_cases ei : i = c
          · subst ei; rw [pairM_00]; intro z; cases z; exact e rfl
          · rw [hpre i (by omega)]; exact y2 i (by omega)
        · rintro ⟨y1, y2⟩
          refine ⟨y1, fun i hi => ?_⟩
          have := y2 i (by omega)
          rw [hpre i hi] at this; exact this
  exact ⟨hS3, hM3, hs3, hpre⟩
/-- the last steps of settle: pair, lengthen -/
theorem settle_tail {c r : Nat} {m2 : Nat → Nat → Option Nat} {opb : Nat → Nat → Bool} {m4 : Nat → Nat → Option Nat} {n k : Nat} (hE : Rg n k E) (hB : Best n E (mt 0) (mt 1) c) (hS : Settled n k mt op c) (hch : Ch n E op c r) (hle : ∀ r', Ch n E op c r' → r ≤ r') (hL : Loosed n E mt c r m2) (hopb : ∀ t i, opb t i = (op t i && !((decide (t = 0) && decide (i = c)) || (decide (t = 1) && decide (i = r)))))
    (hres : (IsM E (m4 0) (m4 1) ∧ siz n (m4 0) = siz n (pairM m2 c r 0) + 1 ∧ ∀ s i, s < 2 → opb s i = false → m4 s i = pairM m2 c r s i) ∨ (m4 = pairM m2 c r ∧ Cert E (pairM m2 c r) opb)) :
    Best n E (m4 0) (m4 1) (c + 1) ∧ Settled n k m4 opb (c + 1) := by
  obtain ⟨hS3, hM3, hs3, hpre⟩ := settle_pre hE hB hS hch hL hopb
  obtain ⟨l1, l2, l3, l4, l5⟩ := hL
  obtain ⟨hoc3, h33⟩ := settled_oc hE hM3 hS3
  obtain ⟨g1, g1', y1, y2, y3⟩ := ch_glue hE hB.1 hS hch
  have hnu := great_siz hB.1 y1
  have shutL : ∀ i, i ≤ c → opb 0 i = false := fun i hi => by
    cases e : opb 0 i with
    | false => rfl
    | true => have := ((hS3.1 i).mp e).1; omega
  have hfin : IsM E (m4 0) (m4 1) ∧ siz n (mt 0) ≤ siz n (m4 0) ∧ ∀ i, i ≤ c → m4 0 i = pairM m2 c r 0 i := by
    rcases hres with ⟨w1, w2, w3⟩ | ⟨w1, w2⟩
    · exact ⟨w1, by omega, fun i hi => w3 0 i (by decide) (shutL i hi)⟩
    · rw [w1]
      refine ⟨hM3, ?_, fun _ _ => rfl⟩
      have hG3 := cert_great hE hM3 hoc3 w2
      obtain ⟨u, u', v1, v2, -⟩ := unglue hE hM3 hoc3 h33 y1.1 (fun i hi => by
        rcases Nat.lt_or_ge i c with q1 | q1
        · rw [y2 i q1, hpre i q1]
        · by_cases ei : i = c
          · subst ei; rw [y3, pairM_00]
          · rcases Nat.lt_or_ge i n with q2 | q2
            · rw [(hS3.1 i).mpr ⟨by omega, q2⟩] at hi; cases hi
            · have e1 : g1 i = none := by
                cases e : g1 i with
                | none => rfl
                | some j => have := (hE i j (y1.1.2 i j e)).1; omega
              have e2 : pairM m2 c r 0 i = none := by
                cases e : pairM m2 c r 0 i with
                | none => rfl
                | some j => have := (hE i j (hM3.2 i j e)).1; omega
              rw [e1, e2])
      have := hG3.2 u u' v1
      omega
  obtain ⟨f1, f2, f3⟩ := hfin
  have hG4 := great_same hB.1 f1 f2
  refine ⟨best_some hE hB hS hle hG4 (fun i hi => by rw [f3 i (by omega)]; exact hpre i hi) (by rw [f3 c (Nat.le_refl _)]; exact pairM_00), hS3.1, fun b => ?_⟩
  rw [hS3.2 b]
  constructor
  · rintro ⟨x1, x2⟩
    exact ⟨x1, fun i hi => by rw [f3 i (by omega)]; exact x2 i hi⟩
  · rintro ⟨x1, x2⟩
    refine ⟨x1, fun i hi => ?_⟩
    have := x2 i hi
    rw [f3 i (by omega)] at this; exact this
/-- a row whose choices are none, or whose mate is the least choice -/
theorem settled_stay {c : Nat} {op' : Nat → Nat → Bool} {n k : Nat} (hS : Settled n k mt op c) (h0 : ∀ i, op' 0 i = (op 0 i && !decide (i = c))) (h1 : ∀ b, op' 1 b = true ↔ op 1 b = true ∧ mt 0 c ≠ some b) : Settled n k mt op' (c + 1) := by
  refine ⟨fun i => ?_, fun b => ?_⟩
  · rw [h0, Bool.and_eq_true, hS.1 i]
    by_cases e : i = c
    · subst e; simp; omega
    · simp [e]; omega
  · rw [h1, hS.2 b]
    constructor
    · rintro ⟨⟨x1, x2⟩, x3⟩
      refine ⟨x1, fun i hi => ?_⟩
      by_cases e : i = c
      · rw [e]; exact x3
      · exact x2 i (by omega)
    · rintro ⟨x1, x2⟩
      exact ⟨⟨x1, fun i hi => x2 i (by omega)⟩, x2 c (by omega)⟩
theorem ev_settle {c : Nat} (hg : GS h g m sz E) (hl : PL h p g m) (hp : PS h p m mt op) (hB : Best (sz 0) E (mt 0) (mt 1) c) (hS : Settled (sz 0) (sz 1) mt op c) (hc : c < sz 0) : Ev G m_X3_settle [.ref p, .int (nI c), .long (ofP (Ch (sz 0) E op c))] h 0 0 (RV (fun h' => SO (p + 2) (p + 11) h h' ∧ ∃ mt' op', PS h' p m mt' op' ∧ Best (sz 0) E (mt' 0) (mt' 1) (c + 1) ∧ Settled (sz 0) (sz 1) mt' op' (c + 1))) := by
  have hE : Rg (sz 0) (sz 1) E := hg.2.2.2
  have hl' := hl
  obtain ⟨k0, r0, r1, r2, r3, r4, r5, r6, k1, n1, ks, kp, ko, kt, kts, kq, kc, hm, g0, gp⟩ := hl
  obtain ⟨a1, a2, a3⟩ := ks 0 (by decide)
  have hsm := (hg.2.1 0 (by decide)).2
  have hsm1 := (hg.2.1 1 (by decide)).2
  have cc : Int32.toNatClampNeg (nI c) = c := nI_clamp (by omega)
  have ev : hI h (hR h (hR h p 1) 0) (Int32.toNatClampNeg (nI c)) = enc (mt 0 c) := by rw [r1, a3, cc]; exact hp.1 0 (by decide) c (by omega)
  have vp0 : vp_in 0 2 := vp_in_nI (n := 0) (by decide) (by decide)
  have vp1 : vp_in 1 2 := vp_in_nI (n := 1) (by decide) (by decide)
  have hchA : ∀ r, Ch (sz 0) E op c r → E c r = true ∧ r < sz 1 := fun r ⟨q, q', z1, z2⟩ => by
    have := (opA_iff.mp (z1.1.2 c r z2)).1
    exact ⟨this, (hE c r this).2⟩
  have hps := hp.shut (s := 0) (c := c) (by decide) (by omega) hm
  refine Ev.of pn_X3_settle (Nat.le_of_ble_eq_true rfl) ?_
  by_cases hz : ofP (Ch (sz 0) E op c) = 0
  · have hno : ∀ r, ¬ Ch (sz 0) E op c r := fun r hr => by
      have : bt (ofP (Ch (sz 0) E op c)) r = true := bt_ofP.mpr ⟨by have := (hchA r hr).2; omega, hr⟩
      rw [hz, bt_zero] at this; cases this
    have hmn : mt 0 c = none := by
      cases e : mt 0 c with
      | none => rfl
      | some r => exact absurd (ch_of hE hB.1 hS hB.1 (fun _ _ => rfl) e) (hno r)
    have no : ¬ lg_cmp (ofP (Ch (sz 0) E op c)) 0 = 0 → False := fun z => z (lg0.mpr hz)
    refine s_X3_settle_0 (x1 := 0) (P2 := fun _ => True) k0 (by rw [r3]; omega) (by rw [r3]; exact ko.1) (by rw [r3, ko.2]; exact vp0) (fun z => (no z).elim) (fun z => (no z).elim) (by rw [r1]; omega) (Or.inl (by rw [r1]; exact k1)) (fun z => (no z).elim) (by rw [r1, a3]; omega) (by rw [r1, a3]; exact a1) (fun z => (no z).elim) (fun z => (no z).elim) (fun z => (no z).elim) (fun z => (no z).elim) (fun _ => ?_)
    rw [r3]
    refine ⟨⟨rfl, SO.sJ (by omega) (by omega), mt, _, hps, best_none hE hB hS hno, settled_stay hS (fun i => ?_) (fun b => ?_)⟩, rfl, rfl⟩
    · simp
    · simp [hmn]
  · obtain ⟨r, hr64, hr1, hr2⟩ := bt_least hz
    have hch := (bt_ofP.mp hr1).2
    have hrk := (hchA r hch).2
    have hle : ∀ r', Ch (sz 0) E op c r' → r ≤ r' := fun r' h' => by
      rcases Nat.lt_or_ge r' r with q | q
      · have := hr2 r' q
        rw [bt_ofP.mpr ⟨by omega, h'⟩] at this; cases this
      · exact q
    have hps2 := hps.shut (s := 1) (c := r) (by decide) (by omega) hm
    have cr : Int32.toNatClampNeg (nI r) = r := nI_clamp (by omega)
    have heq : enc (mt 0 c) = nI r ↔ mt 0 c = some r := by
      cases e : mt 0 c with
      | none =>
        have h3 := (enc_no (o := some r) (fun v hv => by cases hv; omega)).mp
        constructor
        · intro z
          have := h3 z.symm
          cases this
        · intro z; cases z
      | some v =>
        have hv := hp.2.1 0 (by decide) c v e
        constructor
        · intro z
          have z1 : Int32.toNatClampNeg (nI v) = Int32.toNatClampNeg (nI r) := congrArg Int32.toNatClampNeg z
          rw [cr, nI_clamp (by omega)] at z1
          rw [z1]
        · intro z; cases z; rfl
    have hoff : ∀ t i, ((fun t i => op t i && !(decide (t = 0) && decide (i = c))) t i && !(decide (t = 1) && decide (i = r))) = (op t i && !((decide (t = 0) && decide (i = c)) || (decide (t = 1) && decide (i = r)))) := fun t i => by
      simp only [Bool.not_or, Bool.and_assoc]
    refine s_X3_settle_0 (x1 := nI r) (P2 := fun h' => SO (p + 2) (p + 11) h h' ∧ ∃ m2, PS h' p m m2 (fun t i => (fun t i => op t i && !(decide (t = 0) && decide (i = c))) t i && !(decide (t = 1) && decide (i = r))) ∧ IsM E (m2 0) (m2 1) ∧ m2 0 c = none ∧ siz (sz 0) (mt 0) ≤ siz (sz 0) (m2 0) + 1 ∧ ∀ x, x ≠ c → m2 0 x = mt 0 x) k0 (by rw [r3]; omega) (by rw [r3]; exact ko.1) (by rw [r3, ko.2]; exact vp0) (fun _ => ev_lowest hr1 hr2) (fun _ => by rw [r3, ko.2]; exact vp1) (by rw [r1]; omega) (Or.inl (by rw [r1]; exact k1)) (fun _ => by rw [r1, n1]; exact vp0) (by rw [r1, a3]; omega) (by rw [r1, a3]; exact a1) (fun _ => by rw [r1, a3, a2]; exact vp_in_nI (by omega) (by omega)) (fun _ z => ?_) (fun _ z => ?_) (fun _ z h2 q2 _ _ => ?_) (fun z => absurd (lg0.mp z) hz)
    · rw [ev, heq] at z
      rw [r3]
      refine ⟨⟨rfl, (SO.sJ (by omega) (by omega)).trans (SO.sJ (by omega) (by omega)), mt, _, hps2, best_some hE hB hS hle hB.1 (fun _ _ => rfl) z, settled_stay hS (fun i => ?_) (fun b => ?_)⟩, rfl, rfl⟩
      · simp
      · simp only [show decide ((1 : Nat) = 0) = false by decide, Bool.false_and, Bool.not_false, Bool.and_true, decide_true, Bool.true_and, z]
        by_cases e : b = r
        · subst e; simp
        · simp only [e, decide_false, Bool.not_false, Bool.and_true]
          constructor
          · intro y; exact ⟨y, fun w => by cases w; exact e rfl⟩
          · intro y; exact y.1
    · rw [r3]
      have so1 : SO (p + 2) (p + 11) h (sJ (sJ h (p + 5) 0 ((hJ h (p + 5) 0) &&& ((1 <<< (Int32.toInt64 (nI c) &&& 63)) ^^^ (-1)))) (p + 5) 1 ((hJ (sJ h (p + 5) 0 ((hJ h (p + 5) 0) &&& ((1 <<< (Int32.toInt64 (nI c) &&& 63)) ^^^ (-1)))) (p + 5) 1) &&& ((1 <<< (Int32.toInt64 (nI r) &&& 63)) ^^^ (-1)))) := (SO.sJ (by omega) (by omega)).trans (SO.sJ (by omega) (by omega))
      refine (ev_loosen (s := 0) (i := c) (hl'.so so1) hps2 (by decide) (by omega)).mono (fun v h' => ?_)
      rintro ⟨y0, y1, y2⟩
      refine ⟨y0, so1.trans (y1.wide (by omega) (by omega)), ?_⟩
      rcases y2 with ⟨y2, y3⟩ | ⟨j, y2, y3⟩
      · exact ⟨mt, y3, hB.1.1, y2, by omega, fun _ _ => rfl⟩
      · obtain ⟨w1, w2, w3, w4⟩ := loose_L hE hB.1.1 y2
        exact ⟨_, y3, w1, w2, w3, w4⟩
    · obtain ⟨so2, m1, v1, v2, v3, v4, v5⟩ := q2
      have hl2 := hl'.so so2
      refine s_X3_settle_65 (P1 := fun h' => SO (p + 2) (p + 11) h h' ∧ ∃ m2, PS h' p m m2 (fun t i => (fun t i => op t i && !(decide (t = 0) && decide (i = c))) t i && !(decide (t = 1) && decide (i = r))) ∧ Loosed (sz 0) E mt c r m2) ?_ hl2.1 (fun h3 q3 _ _ => ?_)
      · refine (ev_loosen (s := 1) (i := r) hl2 v1 (by decide) (by omega)).mono (fun v h' => ?_)
        rintro ⟨y0, y1, y2⟩
        refine ⟨y0, so2.trans (y1.wide (by omega) (by omega)), ?_⟩
        rcases y2 with ⟨y2, y3⟩ | ⟨j, y2, y3⟩
        · exact ⟨m1, y3, v2, v3, y2, by omega, fun x hx _ => v5 x hx⟩
        · obtain ⟨w1, w2, w3, w4, w5⟩ := loose_R hE v2 y2
          refine ⟨_, y3, w1, w5 c v3, w2, by omega, fun x hx hx2 => ?_⟩
          rw [w4 x (fun e => ?_)]
          · exact v5 x hx
          · have := (v2.1 x r).mpr (by rw [e]; exact y2)
            rw [v5 x hx] at this
            exact hx2 this
      · obtain ⟨so3, m2, u1, u2⟩ := q3
        have hl3 := hl'.so so3
        refine s_X3_settle_72 (ev_pair hl3 u1 (l := c) (r := r) (by omega) (by omega)) hl3.1 (fun h4 q4 _ _ => ?_)
        obtain ⟨so4, t1⟩ := q4
        have so4 : SO (p + 2) (p + 11) h h4 := so3.trans (so4.wide (by omega) (by omega))
        have hl4 := hl'.so so4
        have hg4 := hg.so so4 (Or.inl (by omega))
        obtain ⟨b1, b2, b3, b4⟩ := settle_pre hE hB hS hch u2 hoff
        obtain ⟨d1, d2⟩ := settled_oc hE b2 b1
        refine s_X3_settle_79 (ev_lengthen hg4 hl4 t1 b2 d1 (fun l hl => ((b1.1 l).mp hl).2)) hl4.1 (fun x1 h5 q5 n5 s5 => ?_)
        refine s_X3_settle_83 ?_
        rcases q5 with ⟨-, so5, m4, e1, e2, e3, e4, e5⟩ | ⟨-, so5, e1⟩
        · have so5 : SO (p + 2) (p + 11) h h5 := so4.trans so5
          obtain ⟨f1, f2⟩ := settle_tail hE hB hS hch hle u2 hoff (m4 := m4) (Or.inl ⟨e2, e4, e5⟩)
          exact ⟨⟨rfl, so5, m4, _, e1, f1, f2⟩, so5.2.2.2.1, so5.2.2.2.2.1⟩
        · have so5' : SO (p + 2) (p + 11) h h5 := so4.trans (so5.wide (by omega) (by omega))
          obtain ⟨f1, f2⟩ := settle_tail hE hB hS hch hle u2 hoff (m4 := pairM m2 c r) (Or.inr ⟨rfl, e1⟩)
          exact ⟨⟨rfl, so5', _, _, t1.so so5 (Or.inl (by omega)), f1, f2⟩, so5'.2.2.2.1, so5'.2.2.2.2.1⟩
end SETTLE
