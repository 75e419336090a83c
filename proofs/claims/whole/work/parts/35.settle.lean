section SETTLE
variable {G : GG} {h : PH} {p g m : Nat} {sz : Nat → Nat} {E : Nat → Nat → Bool} {mt : Nat → Nat → Option Nat} {op : Nat → Nat → Bool}
theorem looM_0 {i j : Nat} : looM mt 0 i j 0 = up (mt 0) i none ∧ looM mt 0 i j 1 = up (mt 1) j none := by
  constructor
  · funext x
    unfold looM up
    by_cases e : x = i
    · rw [if_pos (Or.inl ⟨rfl, e⟩), if_pos e]
    · rw [if_neg (by rintro (z | z); exact e z.2; exact absurd z.1 (by decide)), if_neg e]
  · funext x
    unfold looM up
    by_cases e : x = j
    · rw [if_pos (Or.inr ⟨rfl, e⟩), if_pos e]
    · rw [if_neg (by rintro (z | z); exact absurd z.1 (by decide); exact e z.2), if_neg e]
theorem looM_1 {i j : Nat} : looM mt 1 i j 1 = up (mt 1) i none ∧ looM mt 1 i j 0 = up (mt 0) j none := by
  constructor
  · funext x
    unfold looM up
    by_cases e : x = i
    · rw [if_pos (Or.inl ⟨rfl, e⟩), if_pos e]
    · rw [if_neg (by rintro (z | z); exact e z.2; exact absurd z.1 (by decide)), if_neg e]
  · funext x
    unfold looM up
    by_cases e : x = j
    · rw [if_pos (Or.inr ⟨rfl, e⟩), if_pos e]
    · rw [if_neg (by rintro (z | z); exact absurd z.1 (by decide); exact e z.2), if_neg e]
/-- left node c and right node r are loosened: what is left of the pairing -/
def Loosed (n : Nat) (E : Nat → Nat → Bool) (mt : Nat → Nat → Option Nat) (c r : Nat) (m2 : Nat → Nat → Option Nat) : Prop :=
  IsM E (m2 0) (m2 1) ∧ m2 0 c = none ∧ m2 1 r = none ∧ siz n (mt 0) ≤ siz n (m2 0) + 2 ∧ ∀ x, x ≠ c → mt 0 x ≠ some r → m2 0 x = mt 0 x
theorem loose_L {n k c j : Nat} (hE : Rg n k E) (hM : IsM E (mt 0) (mt 1)) (h : mt 0 c = some j) : IsM E (looM mt 0 c j 0) (looM mt 0 c j 1) ∧ looM mt 0 c j 0 c = none ∧ siz n (mt 0) ≤ siz n (looM mt 0 c j 0) + 1 ∧ ∀ x, x ≠ c → looM mt 0 c j 0 x = mt 0 x := by
  obtain ⟨e1, e2⟩ := looM_0 (mt := mt) (i := c) (j := j)
  rw [e1, e2]
  refine ⟨hM.del h, up_eq, ?_, fun x hx => up_ne hx⟩
  have := siz_up_none (f := mt 0) (hE c j (hM.2 c j h)).1 (by rw [h]; rfl)
  omega
theorem loose_R {n k r i : Nat} (hE : Rg n k E) (hM : IsM E (mt 0) (mt 1)) (h : mt 1 r = some i) : IsM E (looM mt 1 r i 0) (looM mt 1 r i 1) ∧ looM mt 1 r i 1 r = none ∧ siz n (mt 0) ≤ siz n (looM mt 1 r i 0) + 1 ∧ (∀ x, x ≠ i → looM mt 1 r i 0 x = mt 0 x) ∧ ∀ x, mt 0 x = none → looM mt 1 r i 0 x = none := by
  obtain ⟨e1, e2⟩ := looM_1 (mt := mt) (i := r) (j := i)
  have h0 := (hM.1 i r).mpr h
  rw [e1, e2]
  refine ⟨hM.del h0, up_eq, ?_, fun x hx => up_ne hx, fun x hx => ?_⟩
  · have := siz_up_none (f := mt 0) (hE i r (hM.2 i r h0)).1 (by rw [h0]; rfl)
    omega
  · by_cases e : x = i
    · rw [e, up_eq]
    · rw [up_ne e]; exact hx
/-- shutting one node of a side -/
theorem PS.shut {s c : Nat} (hp : PS h p m mt op) (hs : s < 2) (hc : c < 64) (hm : m ≤ 50) : PS (sJ h (p + 5) s (hJ h (p + 5) s &&& ((1 <<< (Int32.toInt64 (nI c) &&& 63)) ^^^ (-1)))) p m mt (fun t i => op t i && !(decide (t = s) && decide (i = c))) := by
  obtain ⟨q1, q2, q3, q4⟩ := hp
  refine ⟨fun t ht i hi => q1 t ht i hi, q2, fun t ht i => ?_, fun t ht i => ?_⟩
  · rw [sJ_ne (by omega)]; exact q3 t ht i
  · by_cases e : t = s
    · subst e
      rw [sJ_eq, bt_off hc, q4 t ht i]; simp
    · rw [sJ_nk e, q4 t ht i]; simp [e]
/-- the last steps of settle: pair, lengthen -/
theorem settle_tail {c r : Nat} {m2 : Nat → Nat → Option Nat} {opb : Nat → Nat → Bool} {m4 : Nat → Nat → Option Nat} {n k : Nat} (hE : Rg n k E) (hB : Best n E (mt 0) (mt 1) c) (hS : Settled n k mt op c) (hch : Ch n E op c r) (hle : ∀ r', Ch n E op c r' → r ≤ r') (hL : Loosed n E mt c r m2) (hopb : ∀ t i, opb t i = (op t i && !((decide (t = 0) && decide (i = c)) || (decide (t = 1) && decide (i = r)))))
    (hres : (IsM E (m4 0) (m4 1) ∧ siz n (m4 0) = siz n (pairM m2 c r 0) + 1 ∧ ∀ s i, s < 2 → opb s i = false → m4 s i = pairM m2 c r s i) ∨ (m4 = pairM m2 c r ∧ Cert E (pairM m2 c r) opb)) :
    Settled n k (pairM m2 c r) opb (c + 1) ∧ IsM E (pairM m2 c r 0) (pairM m2 c r 1) ∧ Best n E (m4 0) (m4 1) (c + 1) ∧ Settled n k m4 opb (c + 1) := by
  obtain ⟨l1, l2, l3, l4, l5⟩ := hL
  obtain ⟨hoc, h3⟩ := settled_oc hE hB.1.1 hS
  obtain ⟨q, q', z1, z2⟩ := id hch
  have hA := opA_iff.mp (z1.1.2 c r z2)
  have hcn : c < n := (hE c r hA.1).1
  have hrk : r < k := (hE c r hA.1).2
  have p0 : pairM m2 c r 0 = up (m2 0) c (some r) := pairM_fun
  have p1 : pairM m2 c r 1 = up (m2 1) r (some c) := by
    funext i
    by_cases e : i = r
    · subst e; rw [pairM_11, up_eq]
    · rw [pairM_1 e, up_ne e]
  have hM3 : IsM E (pairM m2 c r 0) (pairM m2 c r 1) := by rw [p0, p1]; exact l1.add hA.1 l2 l3
  have hs3 : siz n (pairM m2 c r 0) = siz n (m2 0) + 1 := by rw [p0]; exact siz_up_some hcn l2
  -- before c nothing changed
  have hpre : ∀ i, i < c → pairM m2 c r 0 i = mt 0 i := fun i hi => by
    rw [pairM_0 (by omega)]
    refine l5 i (by omega) (fun e => ?_)
    have h1 := (hS.2 r).mp hA.2.2
    exact h1.2 i hi e
  have hS3 : Settled n k (pairM m2 c r) opb (c + 1) := by
    refine ⟨fun i => ?_, fun b => ?_⟩
    · rw [hopb]
      have := hS.1 i
      by_cases e : i = c
      · subst e; simp; omega
      · simp only [e, decide_true, decide_false, Bool.and_false, Bool.false_or, show decide ((0 : Nat) = 1) = false by decide, Bool.false_and, Bool.not_false, Bool.and_true]
        rw [this]
        omega
    · rw [hopb]
      have := hS.2 b
      by_cases e : b = r
      · subst e
        simp only [show decide ((1 : Nat) = 0) = false by decide, Bool.false_and, decide_true, Bool.and_true, Bool.or_true, Bool.not_true, Bool.and_false, Bool.false_eq_true, false_iff]
        rintro ⟨-, z⟩
        exact z c (by omega) pairM_00
      · simp only [e, show decide ((1 : Nat) = 0) = false by decide, decide_false, Bool.false_and, Bool.and_false, Bool.or_false, Bool.not_false, Bool.and_true]
        rw [this]
        constructor
        · rintro ⟨y1, y2⟩
          refine ⟨y1, fun i hi => ?_⟩
          by_cases ei : i = c
          · subst ei; rw [pairM_00]; intro z; cases z; exact e rfl
          · rw [hpre i (by omega)]; exact y2 i (by omega)
        · rintro ⟨y1, y2⟩
          refine ⟨y1, fun i hi => ?_⟩
          have := y2 i (by omega)
          rw [hpre i hi] at this; exact this
  obtain ⟨hoc3, h33⟩ := settled_oc hE hM3 hS3
  obtain ⟨g1, g1', y1, y2, y3⟩ := ch_glue hE hB.1 hS hch
  have hnu := great_siz hB.1 y1
  have shutL : ∀ i, i ≤ c → opb 0 i = false := fun i hi => by
    cases e : opb 0 i with
    | false => rfl
    | true => have := ((hS3.1 i).mp e).1; omega
  have hfin : IsM E (m4 0) (m4 1) ∧ siz n (mt 0) ≤ siz n (m4 0) ∧ ∀ i, i ≤ c → m4 0 i = pairM m2 c r 0 i := by
    rcases hres with ⟨w1, w2, w3⟩ | ⟨w1, w2⟩
    · exact ⟨w1, by omega, fun i hi => w3 0 i (by decide) (shutL i hi)⟩
    · rw [w1]
      refine ⟨hM3, ?_, fun _ _ => rfl⟩
      have hG3 := cert_great hE hM3 hoc3 w2
      obtain ⟨u, u', v1, v2, -⟩ := unglue hE hM3 hoc3 h33 y1.1 (fun i hi => by
        rcases Nat.lt_or_ge i c with q1 | q1
        · rw [y2 i q1, hpre i q1]
        · by_cases ei : i = c
          · subst ei; rw [y3, pairM_00]
          · rcases Nat.lt_or_ge i n with q2 | q2
            · rw [(hS3.1 i).mpr ⟨by omega, q2⟩] at hi; cases hi
            · have e1 : g1 i = none := by
                cases e : g1 i with
                | none => rfl
                | some j => have := (hE i j (y1.1.2 i j e)).1; omega
              have e2 : pairM m2 c r 0 i = none := by
                cases e : pairM m2 c r 0 i with
                | none => rfl
                | some j => have := (hE i j (hM3.2 i j e)).1; omega
              rw [e1, e2])
      have := hG3.2 u u' v1
      omega
  obtain ⟨f1, f2, f3⟩ := hfin
  have hG4 := great_same hB.1 f1 f2
  refine ⟨hS3, hM3, best_some hE hB hS hle hG4 (fun i hi => by rw [f3 i (by omega)]; exact hpre i hi) (by rw [f3 c (Nat.le_refl _)]; exact pairM_00), hS3.1, fun b => ?_⟩
  rw [hS3.2 b]
  constructor
  · rintro ⟨x1, x2⟩
    exact ⟨x1, fun i hi => by rw [f3 i (by omega)]; exact x2 i hi⟩
  · rintro ⟨x1, x2⟩
    refine ⟨x1, fun i hi => ?_⟩
    have := x2 i hi
    rw [f3 i (by omega)] at this; exact this
end SETTLE
