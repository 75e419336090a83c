section PARTS
/-- a node that some greatest pairing leaves without a partner -/
def mis (sz : Nat → Nat) (E : Nat → Nat → Bool) (s i : Nat) : Prop := i < sz s ∧ ∃ g g', Great (sz 0) E g g' ∧ (if s = 0 then g i else g' i) = none
/-- a node that has an edge to such a node of the other side -/
def ptA (sz : Nat → Nat) (E : Nat → Nat → Bool) (s i : Nat) : Prop := ∃ j, mis sz E (1 - s) j ∧ ad E s i j = true
/-- the rows of parts say so -/
def PP (h : PH) (p : Nat) (sz : Nat → Nat) (E : Nat → Nat → Bool) : Prop := ∀ s, s < 2 → (∀ i, bt (hJ h (p + 7 + s) (2 * s)) i = true ↔ mis sz E s i) ∧ (∀ i, bt (hJ h (p + 7 + s) (2 * (1 - s))) i = true ↔ ptA sz E s i) ∧ ∀ i, bt (hJ h (p + 7 + s) 1) i = true ↔ i < sz s ∧ ¬ mis sz E s i ∧ ¬ ptA sz E s i
variable {G : GG} {h : PH} {p g m : Nat} {sz : Nat → Nat} {E : Nat → Nat → Bool} {mt : Nat → Nat → Option Nat} {op : Nat → Nat → Bool}
theorem rchG_lt {n k : Nat} {A : Nat → Nat → Bool} {f f' : Nat → Option Nat} (hA : Rg n k A) (hf : IsM A f f') {i : Nat} (h : RchG A f' (bareN n f) i) : i < n :=
  h (fun i => i < n) (fun _ ha => ha.1) (fun _ b c _ _ hbc => (hA c b (hf.2 c b ((hf.1 c b).mpr hbc))).1)
theorem rch_mis {s i : Nat} {st : Nat → Prop} (hs : s < 2) (hE : Rg (sz 0) (sz 1) E) (hG : Great (sz 0) E (mt 0) (mt 1)) (hop : ∀ t i, op t i = decide (i < sz t)) (hst : ∀ i, st i ↔ i < sz s ∧ mt s i = none) : Rch E mt op s st i ↔ mis sz E s i := by
  match s, hs with
  | 0, _ =>
    have e : Rch E mt op 0 st i ↔ RchG E (mt 1) (bareN (sz 0) (mt 0)) i := by
      constructor
      · intro hr P h1 h2
        exact hr P (fun a ha => h1 a ((hst a).mp ha)) (fun a b c pa hab _ hbc => h2 a b c pa hab hbc)
      · intro hr P h1 h2
        exact hr P (fun a ha => h1 a ((hst a).mpr ha)) (fun a b c pa hab hbc => h2 a b c pa hab (by rw [hop]; exact decide_eq_true (hE a b hab).2) hbc)
    rw [e]
    constructor
    · intro hr
      obtain ⟨g, g', z1, z2⟩ := miss_of_rch hE hG hr
      exact ⟨rchG_lt hE hG.1 hr, g, g', z1, z2⟩
    · rintro ⟨hi, g, g', z1, z2⟩
      exact rch_of_miss hE hG z1 hi z2
  | 1, _ =>
    have hG2 := hG.swap hE
    have e : Rch E mt op 1 st i ↔ RchG (fun j i => E i j) (mt 0) (bareN (sz 1) (mt 1)) i := by
      constructor
      · intro hr P h1 h2
        exact hr P (fun a ha => h1 a ((hst a).mp ha)) (fun a b c pa hab _ hbc => h2 a b c pa hab hbc)
      · intro hr P h1 h2
        exact hr P (fun a ha => h1 a ((hst a).mpr ha)) (fun a b c pa hab hbc => h2 a b c pa hab (by rw [hop]; exact decide_eq_true (hE b a hab).1) hbc)
    rw [e]
    constructor
    · intro hr
      obtain ⟨g, g', z1, z2⟩ := miss_of_rch hE.swap hG2 hr
      exact ⟨rchG_lt hE.swap hG2.1 hr, g', g, z1.swap hE.swap, z2⟩
    · rintro ⟨hi, g, g', z1, z2⟩
      exact rch_of_miss hE.swap hG2 (z1.swap hE) hi z2
theorem mis_apart (hE : Rg (sz 0) (sz 1) E) {l r : Nat} (h0 : mis sz E 0 l) (h1 : mis sz E 1 r) : E l r = false := by
  cases e : E l r with
  | false => rfl
  | true =>
    obtain ⟨hl, g, g', z1, z2⟩ := h0
    obtain ⟨hr, q, q', y1, y2⟩ := h1
    obtain ⟨i', w, -⟩ := miss_across hE z1 y1 (RchG.start ⟨hl, z2⟩) e
    rw [if_neg (by decide)] at y2
    rw [y2] at w; cases w
theorem mis_not (hE : Rg (sz 0) (sz 1) E) {s i : Nat} (hs : s < 2) (h0 : mis sz E s i) : ¬ ptA sz E s i := by
  rintro ⟨j, z1, z2⟩
  match s, hs with
  | 0, _ => have := mis_apart hE h0 z1; rw [show ad E 0 i j = E i j from rfl] at z2; rw [this] at z2; cases z2
  | 1, _ => have := mis_apart hE z1 h0; rw [show ad E 1 i j = E j i from rfl] at z2; rw [this] at z2; cases z2
theorem bt_andn (x z : Int64) (i : Nat) : bt (x &&& (z ^^^ (-1))) i = (bt x i && !bt z i) := by
  rw [bt_and, bt_not]
  by_cases h : i < 64
  · simp [h]
  · rw [bt_big (by omega)]; simp
theorem fp_loop {nc ns : Nat} {Z : Option Value → PH → Prop} (hg : GS h g m sz E) (hl : PL h p g m) (h0 : ∀ s, s < 2 → (∀ i, bt (hJ h (p + 7 + s) (2 * s)) i = true ↔ mis sz E s i) ∧ ∀ i, bt (hJ h (p + 7 + s) (2 * (1 - s))) i = true ↔ ptA sz E s i)
    (hz : ∀ h1, SO (p + 7) (p + 9) h h1 → PP h1 p sz E → Z none h1) : ∀ d k h1, k + d = 2 → SO (p + 7) (p + 9) h h1 → (∀ s, s < 2 → ∀ j, j ≠ 1 → hJ h1 (p + 7 + s) j = hJ h (p + 7 + s) j) → (∀ s, s < k → ∀ i, bt (hJ h1 (p + 7 + s) 1) i = true ↔ i < sz s ∧ ¬ mis sz E s i ∧ ¬ ptA sz E s i) →
    RR G nc ns m_X3_findParts 86 [some (.ref p), some (.int (nI k))] [] h1 Z := by
  have hl' := hl
  obtain ⟨k0, r0, r1, r2, r3, r4, r5, r6, k1, n1, ks, kp, ko, kt, kts, kq, kc, hm, g0, gp⟩ := hl
  intro d
  induction d with
  | zero =>
    intro k h1 e so q1 q2
    have e : k = 2 := by omega
    subst e
    obtain ⟨o1, o2, o3, o4, o5, o6⟩ := id so
    have no : ¬ (1 : Int32) < nI 2 → False := fun z => z (by decide)
    refine s_X3_findParts_86 (x1 := 0) (fun _ => hz h1 so (fun s hs => ⟨fun i => ?_, fun i => ?_, q2 s hs⟩)) (by rw [o1]; exact k0) (by rw [o3, r4]; omega) (Or.inr (by rw [o1, o3, r4]; exact kt.1)) (fun z => (no z).elim) (fun z => (no z).elim) (by rw [o3, r0]; omega) (fun z => (no z).elim) (by rw [o1, o3, r0]; exact hg.1.1) (fun z => (no z).elim) (fun z => (no z).elim) (fun z => (no z).elim) (fun z => (no z).elim) (fun z => (no z).elim)
    · rw [q1 s hs _ (by omega)]; exact (h0 s hs).1 i
    · rw [q1 s hs _ (by omega)]; exact (h0 s hs).2 i
  | succ d ih =>
    intro k h1 e so q1 q2
    have hk : k < 2 := by omega
    obtain ⟨o1, o2, o3, o4, o5, o6⟩ := id so
    obtain ⟨a1, a2, a3⟩ := kts k hk
    have ck : Int32.toNatClampNeg (nI k) = k := nI_clamp (by omega)
    have rr : hR h1 (hR h1 p 4) (Int32.toNatClampNeg (nI k)) = p + 7 + k := by rw [o3, r4, ck]; exact a3
    have ll : hL h1 (p + 7 + k) = 3 := by rw [o2]; exact a2
    have hg1 := hg.so so (Or.inl (by omega))
    refine s_X3_findParts_86 (x1 := allv (sz k)) (fun z => ?_) (by rw [o1]; exact k0) (by rw [o3, r4]; omega) (Or.inr (by rw [o1, o3, r4]; exact kt.1)) (fun _ => by rw [o2, o3, r4, kt.2]; exact vp_in_nI hk (by decide)) (fun _ => by rw [rr]; omega) (by rw [o3, r0]; omega) (fun _ => by rw [o3, r0]; exact ev_all hg1 hk) (by rw [o1, o3, r0]; exact hg.1.1) (fun _ => by rw [rr, o1]; exact a1) (fun _ => by rw [rr, ll]; exact vp_in_nI (n := 0) (by decide) (by decide)) (fun _ => by rw [rr, ll]; exact vp_in_nI (n := 2) (by decide) (by decide)) (fun _ => by rw [rr, ll]; exact vp_in_nI (n := 1) (by decide) (by decide)) (fun _ => ?_)
    · exact absurd z (by match k, hk with | 0, _ => decide | 1, _ => decide)
    · rw [nI_1, rr]
      refine ih (k + 1) _ (by omega) (so.trans (SO.sJ (by omega) (by omega))) (fun s hs j hj => ?_) (fun s hs i => ?_)
      · rw [sJ_nk hj]; exact q1 s hs j hj
      · by_cases es : s = k
        · subst es
          have hsm := (hg.2.1 s hk).2
          obtain ⟨h01, h02⟩ := h0 s hk
          rw [sJ_eq, bt_andn, bt_andn, bt_all (by omega), Bool.and_eq_true, Bool.and_eq_true, decide_eq_true_eq, Bool.not_eq_true', Bool.not_eq_true']
          have b0 : (bt (hJ h1 (p + 7 + s) 0) i = false ∧ bt (hJ h1 (p + 7 + s) 2) i = false) ↔ ¬ mis sz E s i ∧ ¬ ptA sz E s i := by
            rw [q1 s hk 0 (by decide), q1 s hk 2 (by decide), ← h01 i, ← h02 i]
            match s, hk with
            | 0, _ => simp
            | 1, _ => simp; exact And.comm
          rw [and_assoc, b0]
        · rw [sJ_ne (by omega)]; exact q2 s (by omega) i
theorem ev_findParts (hg : GS h g m sz E) (hl : PL h p g m) (hp : PS h p m mt op) (hG : Great (sz 0) E (mt 0) (mt 1)) (hop : ∀ t i, op t i = decide (i < sz t)) : Ev G m_X3_findParts [.ref p] h 0 0 (RV (fun h' => SO (p + 7) (p + 9) h h' ∧ PP h' p sz E)) := by
  have hE : Rg (sz 0) (sz 1) E := hg.2.2.2
  have hl' := hl
  obtain ⟨k0, r0, r1, r2, r3, r4, r5, r6, k1, n1, ks, kp, ko, kt, kts, kq, kc, hm, g0, gp⟩ := hl
  obtain ⟨a1, a2, a3⟩ := kts 0 (by decide)
  obtain ⟨b1, b2, b3⟩ := kts 1 (by decide)
  have hsm := (hg.2.1 0 (by decide)).2
  have hsm1 := (hg.2.1 1 (by decide)).2
  have hst : ∀ s, s < 2 → ∀ i, bt (hJ h (p + 5) s &&& (hJ h (p + 4) s ^^^ (-1))) i = true ↔ i < sz s ∧ mt s i = none := fun s hs i => by
    by_cases hi : i < 64
    · rw [bt_bare hp hs i hi, hop, Bool.and_eq_true, decide_eq_true_eq]
      cases mt s i <;> simp
    · rw [bt_and, bt_big (by omega)]
      have : sz s ≤ m := (hg.2.1 s hs).2
      constructor
      · intro z; cases z
      · intro z; omega
  have hop' : ∀ s, ∀ b, op s b = true → b < sz s := fun s b hb => by rw [hop] at hb; exact of_decide_eq_true hb
  have hm0 : ∀ b c, mt 0 b = some c → c < sz 1 := fun b c e => (hE b c (hG.1.2 b c e)).2
  have hm1 : ∀ b c, mt 1 b = some c → c < sz 0 := fun b c e => (hE c b (hG.1.2 c b ((hG.1.1 c b).mpr e))).1
  generalize hs0 : (hJ h (p + 5) 0 &&& (hJ h (p + 4) 0 ^^^ (-1))) = S0
  generalize hs1 : (hJ h (p + 5) 1 &&& (hJ h (p + 4) 1 ^^^ (-1))) = S1
  have t0 := hst 0 (by decide)
  have t1 := hst 1 (by decide)
  rw [hs0] at t0
  rw [hs1] at t1
  generalize hx2 : ofP (Rch E mt op 0 (fun i => bt S0 i = true)) = X2
  generalize hx5 : ofP (Rch E mt op 1 (fun i => bt S1 i = true)) = X5
  have m0 : ∀ i, bt X2 i = true ↔ mis sz E 0 i := fun i => by
    rw [← hx2, bt_ofP, rch_mis (by decide) hE hG hop t0]
    exact ⟨fun z => z.2, fun z => ⟨by have := z.1; omega, z⟩⟩
  have m1 : ∀ i, bt X5 i = true ↔ mis sz E 1 i := fun i => by
    rw [← hx5, bt_ofP, rch_mis (by decide) hE hG hop t1]
    exact ⟨fun z => z.2, fun z => ⟨by have := z.1; omega, z⟩⟩
  have c3 : hR h (hR h p 4) 0 = p + 7 + 0 := by rw [r4]; exact a3
  have c4 : hR h (hR h p 4) 1 = p + 7 + 1 := by rw [r4]; exact b3
  have so1 : SO (p + 7) (p + 9) h (sJ h (p + 7 + 0) 0 X2) := SO.sJ (by omega) (by omega)
  generalize hx3 : nbr (hJ h (g + 3 + 0)) X2 (sz 0) = X3
  generalize hx6 : nbr (hJ h (g + 3 + 1)) X5 (sz 1) = X6
  have so2 : SO (p + 7) (p + 9) h (sJ (sJ h (p + 7 + 0) 0 X2) (p + 7 + 1) 0 X3) := so1.trans (SO.sJ (by omega) (by omega))
  have so3 : SO (p + 7) (p + 9) h (sJ (sJ (sJ h (p + 7 + 0) 0 X2) (p + 7 + 1) 0 X3) (p + 7 + 1) 2 X5) := so2.trans (SO.sJ (by omega) (by omega))
  have so4 : SO (p + 7) (p + 9) h (sJ (sJ (sJ (sJ h (p + 7 + 0) 0 X2) (p + 7 + 1) 0 X3) (p + 7 + 1) 2 X5) (p + 7 + 0) 2 X6) := so3.trans (SO.sJ (by omega) (by omega))
  have p0 : ∀ i, bt X3 i = true ↔ ptA sz E 1 i := fun i => by
    rw [← hx3, bt_nbr]
    constructor
    · rintro ⟨l, z1, z2, z3⟩
      refine ⟨l, (m0 l).mp z2, ?_⟩
      have := hg.2.2.1 0 (by decide) l (by omega) i
      rw [this] at z3; exact z3
    · rintro ⟨l, z1, z2⟩
      refine ⟨l, z1.1, (m0 l).mpr z1, ?_⟩
      have := hg.2.2.1 0 (by decide) l (by have : l < sz 0 := z1.1; omega) i
      rw [this]; exact z2
  have p1 : ∀ i, bt X6 i = true ↔ ptA sz E 0 i := fun i => by
    rw [← hx6, bt_nbr]
    constructor
    · rintro ⟨l, z1, z2, z3⟩
      refine ⟨l, (m1 l).mp z2, ?_⟩
      have := hg.2.2.1 1 (by decide) l (by omega) i
      rw [this] at z3; exact z3
    · rintro ⟨l, z1, z2⟩
      refine ⟨l, z1.1, (m1 l).mpr z1, ?_⟩
      have := hg.2.2.1 1 (by decide) l (by have : l < sz 1 := z1.1; omega) i
      rw [this]; exact z2
  have vp0 : vp_in 0 2 := vp_in_nI (n := 0) (by decide) (by decide)
  have vp1 : vp_in 1 2 := vp_in_nI (n := 1) (by decide) (by decide)
  have vq0 : vp_in 0 3 := vp_in_nI (n := 0) (by decide) (by decide)
  have vq2 : vp_in 2 3 := vp_in_nI (n := 2) (by decide) (by decide)
  have hb1 := ev_bare (G := G) (hl'.so so2) (s := 1) (by decide)
  rw [show hJ (sJ (sJ h (p + 7 + 0) 0 X2) (p + 7 + 1) 0 X3) (p + 5) 1 = hJ h (p + 5) 1 from (so2.2.2.2.2.2 (p + 5) (by omega)).2 1, show hJ (sJ (sJ h (p + 7 + 0) 0 X2) (p + 7 + 1) 0 X3) (p + 4) 1 = hJ h (p + 4) 1 from (so2.2.2.2.2.2 (p + 4) (by omega)).2 1, hs1] at hb1
  have hn0 := ev_neighbours (G := G) (hg.so so1 (Or.inl (by omega))) (s := 0) (by decide) X2
  rw [show hJ (sJ h (p + 7 + 0) 0 X2) (g + 3 + 0) = hJ h (g + 3 + 0) from funext (so1.2.2.2.2.2 (g + 3 + 0) (by omega)).2, hx3] at hn0
  have hn1 := ev_neighbours (G := G) (hg.so so3 (Or.inl (by omega))) (s := 1) (by decide) X5
  rw [show hJ (sJ (sJ (sJ h (p + 7 + 0) 0 X2) (p + 7 + 1) 0 X3) (p + 7 + 1) 2 X5) (g + 3 + 1) = hJ h (g + 3 + 1) from funext (so3.2.2.2.2.2 (g + 3 + 1) (by omega)).2, hx6] at hn1
  have hr0 := ev_reach (G := G) hg hl' hp (s := 0) (by decide) S0 (hop' 1) hm1 (fun i hi => ((t0 i).mp hi).1)
  rw [hx2] at hr0
  have hr1 := ev_reach (G := G) (hg.so so2 (Or.inl (by omega))) (hl'.so so2) (hp.so so2 (Or.inl (by omega))) (s := 1) (by decide) S1 (hop' 0) hm0 (fun i hi => ((t1 i).mp hi).1)
  rw [hx5] at hr1
  have hb0 := ev_bare (G := G) hl' (s := 0) (by decide)
  rw [hs0] at hb0
  refine Ev.of pn_X3_findParts (Nat.le_of_ble_eq_true rfl) ?_
  refine s_X3_findParts_0 (x1 := S0) (x2 := X2) (x3 := X3) (x4 := S1) (x5 := X5) (x6 := X6) k0 (by rw [r4]; omega) (Or.inr (by rw [r4]; exact kt.1)) (by rw [r4, kt.2]; exact vp0) (by rw [c3]; omega) hb0 hr0 (by rw [c3]; exact a1) (by rw [c3, a2]; exact vq0) (by rw [r4, kt.2]; exact vp1) (by rw [c4]; omega) (by rw [r0]; omega) (by rw [c3, r0, sJ_eq]; exact hn0) (by rw [r0]; exact hg.1.1) (by rw [c4]; exact b1) (by rw [c4, b2]; exact vq0) (by rw [c3, c4]; exact hb1) (by rw [c3, c4]; exact hr1) (by rw [c4, b2]; exact vq2) (by rw [c3, c4, r0, sJ_eq]; exact hn1) (by rw [c3, a2]; exact vq2) ?_
  rw [c3, c4]
  refine fp_loop (hg.so so4 (Or.inl (by omega))) (hl'.so so4) (fun s hs => ?_) (fun h1 so5 q => ⟨⟨rfl, so4.trans so5, q⟩, ?_, ?_⟩) 2 0 _ (by omega) SO.rf (fun _ _ _ _ => rfl) (fun s hs => absurd hs (by omega))
  · match s, hs with
    | 0, _ =>
      refine ⟨fun i => ?_, fun i => ?_⟩
      · rw [show (2 * 0 : Nat) = 0 from rfl, sJ_nk (by decide), sJ_ne (by omega), sJ_ne (by omega), sJ_eq]; exact m0 i
      · rw [show (2 * (1 - 0) : Nat) = 2 from rfl, sJ_eq]; exact p1 i
    | 1, _ =>
      refine ⟨fun i => ?_, fun i => ?_⟩
      · rw [show (2 * 1 : Nat) = 2 from rfl, sJ_ne (by omega), sJ_eq]; exact m1 i
      · rw [show (2 * (1 - 1) : Nat) = 0 from rfl, sJ_ne (by omega), sJ_nk (by decide), sJ_eq]; exact p0 i
  · exact (so4.trans so5).2.2.2.1
  · exact (so4.trans so5).2.2.2.2.1
end PARTS
