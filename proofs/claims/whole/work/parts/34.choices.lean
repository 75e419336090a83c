section CHOICES
variable {G : GG} {h : PH} {p g m : Nat} {sz : Nat → Nat} {E : Nat → Nat → Bool} {mt : Nat → Nat → Option Nat} {op : Nat → Nat → Bool}
/-- the class's steps from right nodes are the steps of the graph of open nodes without row c -/
theorem rout_iff {n k c m0 : Nat} {st : Nat → Prop} (hE : Rg n k E) (hM : IsM E (mt 0) (mt 1)) (hoc : ∀ l b, mt 0 l = some b → op 0 l = op 1 b) (hco : op 0 c = true) (hm0 : mt 0 c = some m0) (hst : ∀ b, st b ↔ (op 1 b = true ∧ mt 1 b = none) ∨ b = m0) (hok : ∀ b, op 1 b = true → b < k) (b : Nat) :
    Rch E mt op 1 st b ↔ op 1 b = true ∧ rOut (opA E op) k c (opF mt op 0) (opF mt op 1) m0 b := by
  have hom0 : op 1 m0 = true := by rw [← hoc c m0 hm0]; exact hco
  have hrg : ∀ l b, mt 0 l = some b → l < n ∧ b < k := fun l b hlb => hE l b (hM.2 l b hlb)
  constructor
  · intro hr
    refine hr (fun b => op 1 b = true ∧ rOut (opA E op) k c (opF mt op 0) (opF mt op 1) m0 b) (fun a ha => ?_) (fun a b c2 ha hab hob hbc => ?_)
    · rw [hst] at ha
      by_cases e : a = m0
      · subst e
        exact ⟨hom0, RchG.start ⟨hok a hom0, up_eq⟩⟩
      · rcases ha with ha | ha
        · exact ⟨ha.1, RchG.start ⟨hok a ha.1, by rw [up_ne e, opF_open ha.1]; exact ha.2⟩⟩
        · exact absurd ha e
    · have hba : E b a = true := by
        unfold ad at hab; rw [if_neg (by decide)] at hab; exact hab
      have hbc : mt 0 b = some c2 := hbc
      have hob : op 0 b = true := hob
      have hoc2 : op 1 c2 = true := by rw [← hoc b c2 hbc]; exact hob
      refine ⟨hoc2, ?_⟩
      by_cases e : b = c
      · subst e
        rw [hm0] at hbc
        cases hbc
        exact RchG.start ⟨hok _ hom0, up_eq⟩
      · exact ha.2.step (b := b) (noRow_ne.mpr ⟨opA_iff.mpr ⟨hba, hob, ha.1⟩, e⟩) (by rw [up_ne e, opF_open hob]; exact hbc)
  · rintro ⟨ho, hr⟩
    exact hr (fun b => op 1 b = true → Rch E mt op 1 st b) (fun a ha hoa => by
      obtain ⟨ha1, ha2⟩ := ha
      apply Rch.start
      rw [hst]
      by_cases e : a = m0
      · exact Or.inr e
      · rw [up_ne e, opF_open hoa] at ha2
        exact Or.inl ⟨hoa, ha2⟩) (fun a i c2 ha hai hi hoc2 => by
      obtain ⟨y1, y2⟩ := noRow_ne.mp hai
      obtain ⟨y3, y4, y5⟩ := opA_iff.mp y1
      rw [up_ne y2, opF_open y4] at hi
      exact (ha y5).step (b := i) (by unfold ad; rw [if_neg (by decide)]; exact y3) y4 hi) ho
theorem ev_choicesOf {c : Nat} (hg : GS h g m sz E) (hl : PL h p g m) (hp : PS h p m mt op) (hG : Great (sz 0) E (mt 0) (mt 1)) (hS : Settled (sz 0) (sz 1) mt op c) (hc : c < sz 0) : Ev G m_X3_choicesOf [.ref p, .int (nI c)] h 0 0 (Ret (some (.long (ofP (Ch (sz 0) E op c)))) h) := by
  have hE : Rg (sz 0) (sz 1) E := hg.2.2.2
  obtain ⟨hoc, h3⟩ := settled_oc hE hG.1 hS
  have hco : op 0 c = true := (hS.1 c).mpr ⟨Nat.le_refl _, hc⟩
  have hok : ∀ b, op 1 b = true → b < sz 1 := fun b hb => ((hS.2 b).mp hb).1
  have hGo := op_great hE hG hoc
  have hAo : Rg (sz 0) (sz 1) (opA E op) := opA_rg hE
  have hl' := hl
  obtain ⟨k0, r0, r1, r2, r3, r4, r5, r6, k1, n1, ks, kp, ko, kt, kts, kq, kc, hm, g0, gp⟩ := hl
  obtain ⟨a1, a2, a3⟩ := ks 0 (by decide)
  have hsm := (hg.2.1 0 (by decide)).2
  have hsm1 := (hg.2.1 1 (by decide)).2
  have cc : Int32.toNatClampNeg (nI c) = c := nI_clamp (by omega)
  have hrow : ∀ b, bt (hJ h (g + 3 + 0) c) b = E c b := fun b => by
    have := hg.2.2.1 0 (by decide) c (by omega) b
    simpa [ad] using this
  have hall : ∀ b, bt (hJ h (g + 3 + 0) c &&& hJ h (p + 5) 1) b = true ↔ opA E op c b = true := fun b => by
    rw [bt_and, hrow, hp.2.2.2 1 (by decide) b, Bool.and_eq_true, opA_iff]
    exact ⟨fun z => ⟨z.1, hco, z.2⟩, fun z => ⟨z.1, z.2.2⟩⟩
  have hchA : ∀ r, Ch (sz 0) E op c r → opA E op c r = true := fun r ⟨q, q', z1, z2⟩ => z1.1.2 c r z2
  have ev : hI h (hR h (hR h p 1) 0) (Int32.toNatClampNeg (nI c)) = enc (mt 0 c) := by rw [r1, a3, cc]; exact hp.1 0 (by decide) c (by omega)
  have en := enc_no (o := mt 0 c) (fun v hv => by have := hp.2.1 0 (by decide) c v hv; omega)
  have vp0 : vp_in 0 2 := vp_in_nI (n := 0) (by decide) (by decide)
  have vp1 : vp_in 1 2 := vp_in_nI (n := 1) (by decide) (by decide)
  refine Ev.of pn_X3_choicesOf (Nat.le_of_ble_eq_true rfl) ?_
  cases hmc : mt 0 c with
  | none =>
    have hfin : (hJ h (g + 3 + 0) c &&& hJ h (p + 5) 1) = ofP (Ch (sz 0) E op c) := eq_ofP (fun b _ => by
      rw [hall]
      exact ⟨fun z => choice_bare hAo hGo (by rw [opF_open hco]; exact hmc) z, fun z => hchA b z⟩)
    have no : ¬ hI h (hR h (hR h p 1) 0) (Int32.toNatClampNeg (nI c)) = -3 → False := fun z => z (by rw [ev]; exact en.mpr hmc)
    refine s_X3_choicesOf_0 (x1 := hJ h (g + 3 + 0) c) (x2 := 0) (x3 := 0) (x4 := 0) (x5 := 0) k0 (by rw [r0]; omega) (by rw [r0]; exact ev_across hg (s := 0) (by decide) hc) (by rw [r0]; exact hg.1.1) (by rw [r3]; omega) (by rw [r3]; exact ko.1) (by rw [r3, ko.2]; exact vp1) (by rw [r1]; omega) (Or.inl (by rw [r1]; exact k1)) (by rw [r1, n1]; exact vp0) (by rw [r1, a3]; omega) (by rw [r1, a3]; exact a1) (by rw [r1, a3, a2]; exact vp_in_nI (by omega) (by omega)) (fun z => (no z).elim) (fun z => (no z).elim) (fun z => (no z).elim) (fun z => (no z).elim) (fun z => (no z).elim) (fun z => (no z).elim) (fun _ => ?_)
    rw [r3, hfin]
    exact Zok
  | some m0 =>
    have hm0k : m0 < sz 1 := (hE c m0 (hG.1.2 c m0 hmc)).2
    have hset : ∀ b, bt ((hJ h (p + 5) 1 &&& (hJ h (p + 4) 1 ^^^ (-1 : Int64))) ||| ((1 : Int64) <<< (Int32.toInt64 (nI m0) &&& 63))) b = true ↔ (op 1 b = true ∧ mt 1 b = none) ∨ b = m0 := fun b => by
      rw [bt_or, Bool.or_eq_true, bt_bit (by omega), decide_eq_true_eq]
      by_cases hb : b < 64
      · rw [bt_bare hp (by decide) b hb, Bool.and_eq_true]
        cases mt 1 b <;> simp
      · rw [bt_and, bt_big (by omega)]
        constructor
        · rintro (z | z)
          · cases z
          · exact Or.inr z
        · rintro (z | z)
          · have := hok b z.1; omega
          · exact Or.inr z
    have hx3 := rout_iff (st := fun i => bt ((hJ h (p + 5) 1 &&& (hJ h (p + 4) 1 ^^^ (-1 : Int64))) ||| ((1 : Int64) <<< (Int32.toInt64 (nI m0) &&& 63))) i = true) hE hG.1 hoc hco hmc hset hok
    have e15 := ev_reach (G := G) hg hl' hp (s := 1) (by decide) ((hJ h (p + 5) 1 &&& (hJ h (p + 4) 1 ^^^ (-1 : Int64))) ||| ((1 : Int64) <<< (Int32.toInt64 (nI m0) &&& 63))) (fun b hb => ((hS.1 b).mp hb).2) (fun b c2 hb => (hE b c2 (hG.1.2 b c2 hb)).2) (fun i hi => by
      rcases (hset i).mp hi with z | z
      · exact hok i z.1
      · omega)
    generalize hSS : ((hJ h (p + 5) 1 &&& (hJ h (p + 4) 1 ^^^ (-1 : Int64))) ||| ((1 : Int64) <<< (Int32.toInt64 (nI m0) &&& 63))) = SS at hx3 e15 hset
    have hx3b : ∀ b, bt (ofP (Rch E mt op 1 (fun i => bt SS i = true))) b = true ↔ op 1 b = true ∧ rOut (opA E op) (sz 1) c (opF mt op 0) (opF mt op 1) m0 b := fun b => by
      rw [bt_ofP, hx3 b]
      exact ⟨fun z => z.2, fun z => ⟨by have := hok b z.1; omega, z⟩⟩
    have hfc : opF mt op 0 c = some m0 := by rw [opF_open hco]; exact hmc
    -- a bare left node is come to
    have hmeet : ((nbr (hJ h (g + 3 + 1)) (ofP (Rch E mt op 1 (fun i => bt SS i = true))) (sz 1)) &&& (hJ h (p + 5) 0 &&& (hJ h (p + 4) 0 ^^^ (-1)))) = 0 ↔ ¬ ∃ b l3, rOut (opA E op) (sz 1) c (opF mt op 0) (opF mt op 1) m0 b ∧ noRow (opA E op) c l3 b = true ∧ opF mt op 0 l3 = none := by
      constructor
      · rintro hz ⟨b, l3, z1, z2, z3⟩
        obtain ⟨y1, y2⟩ := noRow_ne.mp z2
        obtain ⟨y3, y4, y5⟩ := opA_iff.mp y1
        rw [opF_open y4] at z3
        have hl3 := ((hS.1 l3).mp y4).2
        have : bt ((nbr (hJ h (g + 3 + 1)) (ofP (Rch E mt op 1 (fun i => bt SS i = true))) (sz 1)) &&& (hJ h (p + 5) 0 &&& (hJ h (p + 4) 0 ^^^ (-1)))) l3 = true := by
          rw [bt_and, Bool.and_eq_true, bt_bare hp (by decide) l3 (by omega), bt_nbr]
          refine ⟨⟨b, hok b y5, (hx3b b).mpr ⟨y5, z1⟩, ?_⟩, by rw [y4, z3]; rfl⟩
          have := hg.2.2.1 1 (by decide) b (by have := hok b y5; omega) l3
          rw [this]; exact y3
        rw [hz, bt_zero] at this; cases this
      · intro hn
        apply bt_ext
        intro l3 hl3
        rw [bt_zero]
        cases e : bt ((nbr (hJ h (g + 3 + 1)) (ofP (Rch E mt op 1 (fun i => bt SS i = true))) (sz 1)) &&& (hJ h (p + 5) 0 &&& (hJ h (p + 4) 0 ^^^ (-1)))) l3 with
        | false => rfl
        | true =>
          exfalso
          rw [bt_and, Bool.and_eq_true, bt_bare hp (by decide) l3 hl3, Bool.and_eq_true, bt_nbr] at e
          obtain ⟨⟨b, y1, y2, y3⟩, y4, y5⟩ := e
          obtain ⟨y6, y7⟩ := (hx3b b).mp y2
          have y8 : E l3 b = true := by
            have := hg.2.2.1 1 (by decide) b (by omega) l3
            rw [this] at y3; exact y3
          have y9 : mt 0 l3 = none := by
            cases em : mt 0 l3 with
            | none => rfl
            | some v => rw [em] at y5; cases y5
          exact hn ⟨b, l3, y7, noRow_ne.mpr ⟨opA_iff.mpr ⟨y8, y4, y6⟩, fun e => by rw [e, hmc] at y9; cases y9⟩, by rw [opF_open y4]; exact y9⟩
    have evs : hI h (hR h (hR h p 1) 0) (Int32.toNatClampNeg (nI c)) = nI m0 := by rw [ev, hmc]; rfl
    have ny : ¬ hI h (hR h (hR h p 1) 0) (Int32.toNatClampNeg (nI c)) = -3 := fun z => by
      rw [ev] at z
      rw [en.mp z] at hmc; cases hmc
    refine s_X3_choicesOf_0 (x1 := hJ h (g + 3 + 0) c) (x2 := hJ h (p + 5) 1 &&& (hJ h (p + 4) 1 ^^^ (-1))) (x3 := ofP (Rch E mt op 1 (fun i => bt SS i = true))) (x4 := nbr (hJ h (g + 3 + 1)) (ofP (Rch E mt op 1 (fun i => bt SS i = true))) (sz 1)) (x5 := hJ h (p + 5) 0 &&& (hJ h (p + 4) 0 ^^^ (-1))) k0 (by rw [r0]; omega) (by rw [r0]; exact ev_across hg (s := 0) (by decide) hc) (by rw [r0]; exact hg.1.1) (by rw [r3]; omega) (by rw [r3]; exact ko.1) (by rw [r3, ko.2]; exact vp1) (by rw [r1]; omega) (Or.inl (by rw [r1]; exact k1)) (by rw [r1, n1]; exact vp0) (by rw [r1, a3]; omega) (by rw [r1, a3]; exact a1) (by rw [r1, a3, a2]; exact vp_in_nI (by omega) (by omega)) (fun _ => ev_bare hl' (s := 1) (by decide)) (fun _ => ?_) (fun _ => by rw [r0]; exact ev_neighbours hg (s := 1) (by decide) _) (fun _ => ev_bare hl' (s := 0) (by decide)) (fun _ z => ?_) (fun _ z => ?_) (fun z => absurd z ny)
    · rw [evs, hSS]
      exact e15
    · have hz := hmeet.mp (lg0.mp z)
      have hfin : ((hJ h (g + 3 + 0) c &&& hJ h (p + 5) 1) &&& ofP (Rch E mt op 1 (fun i => bt SS i = true))) = ofP (Ch (sz 0) E op c) := eq_ofP (fun b _ => by
        rw [bt_and, Bool.and_eq_true, hall, hx3b]
        constructor
        · rintro ⟨y1, y2⟩
          exact (choice_pair hAo hGo hfc y1).mpr (Or.inr y2.2)
        · intro y
          have y1 := hchA b y
          refine ⟨y1, (opA_iff.mp y1).2.2, ?_⟩
          rcases (choice_pair hAo hGo hfc y1).mp y with w | w
          · exact absurd w hz
          · exact w)
      rw [r3, hfin]
      exact Zok
    · have hz : ∃ b l3, rOut (opA E op) (sz 1) c (opF mt op 0) (opF mt op 1) m0 b ∧ noRow (opA E op) c l3 b = true ∧ opF mt op 0 l3 = none := by
        apply Classical.byContradiction
        intro hn
        exact z (lg0.mpr (hmeet.mpr hn))
      have hfin : (hJ h (g + 3 + 0) c &&& hJ h (p + 5) 1) = ofP (Ch (sz 0) E op c) := eq_ofP (fun b _ => by
        rw [hall]
        exact ⟨fun y1 => (choice_pair hAo hGo hfc y1).mpr (Or.inl hz), fun y => hchA b y⟩)
      rw [r3, hfin]
      exact Zok
end CHOICES
