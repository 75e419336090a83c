/-- the loop of the law: the script stands, the bench holds one state, the reference another, the room is kept -/
def LI2 (h : PH) (b Ls x : Nat) (xs : Nat → Int32) (N S L K : Nat) (sz : Nat → Nat) (E : Nat → Nat → Bool) (n : Nat) (U : Nat → Nat → Bool) (sz' : Nat → Nat) (E' : Nat → Nat → Bool) (n' : Nat) (U' : Nat → Nat → Bool) : Prop :=
  (hK h b = 1 ∧ hL h b = Ls ∧ ∀ j, hI h b j = xs j) ∧ b < x ∧ COK h x (x + 72) L K sz' E' n' U' ∧ MOK h (x + 45) sz E n U ∧ hN h ≤ N + L ∧ hS h ≤ S + 2 * L ∧ L ≤ 65536
section LOOP
variable {G : GG} {nc ns : Nat} {Z : Option Value → PH → Prop} {h h1 : PH} {b Ls x N S L K K' : Nat} {xs : Nat → Int32} {sz sz' : Nat → Nat} {E E' : Nat → Nat → Bool} {n n' : Nat} {U U' : Nat → Nat → Bool}
theorem LI2.cls (li : LI2 h b Ls x xs N S L K sz E n U sz E n U) (so : SO (x + 1) (x + 45) h h1) (ck : COK h1 x (x + 72) L K' sz' E' n' U') : LI2 h1 b Ls x xs N S L K' sz E n U sz' E' n' U' := by
  obtain ⟨⟨s1, s2, s3⟩, hb, -, mk, b1, b2, b3⟩ := li
  have a : AG b (b + 1) h h1 := so.ag (by omega)
  obtain ⟨a1, a2, a3, a4, a5⟩ := a b (Nat.le_refl _) (by omega)
  exact ⟨⟨a1.trans s1, a2.trans s2, fun j => (a4 j).trans (s3 j)⟩, hb, ck, mk.ag (so.ag (by omega)), by rw [so.2.2.2.1]; exact b1, by rw [so.2.2.2.2.1]; exact b2, b3⟩
theorem LI2.ref (li : LI2 h b Ls x xs N S L K sz E n U sz' E' n' U') (so : SO (x + 45) (x + 45 + 27) h h1) (mk : MOK h1 (x + 45) sz' E' n' U') : LI2 h1 b Ls x xs N S L K sz' E' n' U' sz' E' n' U' := by
  obtain ⟨⟨s1, s2, s3⟩, hb, ⟨cg, cu, k1, k2, q1, q2, q3⟩, -, b1, b2, b3⟩ := li
  have a : AG b (b + 1) h h1 := so.ag (by omega)
  obtain ⟨a1, a2, a3, a4, a5⟩ := a b (Nat.le_refl _) (by omega)
  exact ⟨⟨a1.trans s1, a2.trans s2, fun j => (a4 j).trans (s3 j)⟩, hb, ⟨cg, cu, k1, k2, q1.so so, q2.so so (by omega), q3.so so (by omega)⟩, mk, by rw [so.2.2.2.1]; exact b1, by rw [so.2.2.2.2.1]; exact b2, b3⟩
theorem sc_at (li : LI2 h b Ls x xs N S L K sz E n U sz' E' n' U') {i j : Nat} (hi : 4 * i + 4 ≤ Ls) (hj : j < 4) (hLs : Ls ≤ 2048) {k : Int32} (hk : k = nI (4 * i + j)) : vp_in k (hL h b) ∧ hI h b (Int32.toNatClampNeg k) = xs (4 * i + j) := by
  obtain ⟨⟨s1, s2, s3⟩, -⟩ := li
  subst hk
  refine ⟨by rw [s2]; exact vp_in_nI (by omega) (by omega), ?_⟩
  rw [nI_clamp (by omega)]; exact s3 _
theorem LI2.k16 (li : LI2 h b Ls x xs N S L K sz E n U sz' E' n' U') : hK h (x + 45) = 16 := li.2.2.2.1.1.1.1
theorem LI2.k15 (li : LI2 h b Ls x xs N S L K sz E n U sz' E' n' U') : hK h x = 15 := by
  obtain ⟨cg, cu, _, _, q, -⟩ := li.2.2.1
  exact q.1
theorem nI_aj {k : Nat} (j : Nat) : nI k + nI j = nI (k + j) := nI_add k j

theorem lo_node {i : Nat} (li : LI2 h b Ls x xs N S L K sz E n U (sNode sz (xs (4 * i + 1))) E n U) (hi : 4 * i + 4 ≤ Ls) (hLs : Ls ≤ 2048) (nx : ∀ h2, LI2 h2 b Ls x xs N S L K (sNode sz (xs (4 * i + 1))) E n U (sNode sz (xs (4 * i + 1))) E n U → RR G nc ns m_L_law 18 [some (.ref b), some (.ref x), some (.ref (x + 45)), some (.int (nI (4 * i) + 4))] [] h2 Z) :
    RR G nc ns m_L_law 133 [some (.ref b), some (.ref x), some (.ref (x + 45)), some (.int (nI (4 * i)))] [.int (aNode sz (xs (4 * i + 1)))] h Z := by
  obtain ⟨v1, w1⟩ := sc_at li (j := 1) hi (by decide) hLs (k := nI (4 * i) + 1) (nI_aj 1)
  obtain ⟨v2, w2⟩ := sc_at li (j := 2) hi (by decide) hLs (k := nI (4 * i) + 2) (nI_aj 2)
  obtain ⟨v3, w3⟩ := sc_at li (j := 3) hi (by decide) hLs (k := nI (4 * i) + 3) (nI_aj 3)
  exact s_L_law_133 (P1 := (RM2 h (x + 45) (sNode sz (xs (4 * i + 1))) E n U (aNode sz (xs (4 * i + 1))))) li.1.1 v1 (by rw [w1]; exact r_node li.2.2.2.1 (xs (4 * i + 1))) li.k16 (fun _ h2 q _ _ => by obtain ⟨rfl, so, mk⟩ := q; exact s_L_law_142 (fun _ => nx h2 (li.ref so mk)) (fun z => (z rfl).elim))
theorem lo_edge {i : Nat} {v : Bool} (li : LI2 h b Ls x xs N S L K sz E n U sz (sEdge sz E (xs (4 * i + 1)) (xs (4 * i + 2)) v) n U) (hi : 4 * i + 4 ≤ Ls) (hLs : Ls ≤ 2048) (hv : xs (4 * i + 3) = 0 ↔ v = false) (nx : ∀ h2, LI2 h2 b Ls x xs N S L K sz (sEdge sz E (xs (4 * i + 1)) (xs (4 * i + 2)) v) n U sz (sEdge sz E (xs (4 * i + 1)) (xs (4 * i + 2)) v) n U → RR G nc ns m_L_law 18 [some (.ref b), some (.ref x), some (.ref (x + 45)), some (.int (nI (4 * i) + 4))] [] h2 Z) :
    RR G nc ns m_L_law 174 [some (.ref b), some (.ref x), some (.ref (x + 45)), some (.int (nI (4 * i)))] [.int (aEdge sz E (xs (4 * i + 1)) (xs (4 * i + 2)) v)] h Z := by
  obtain ⟨v1, w1⟩ := sc_at li (j := 1) hi (by decide) hLs (k := nI (4 * i) + 1) (nI_aj 1)
  obtain ⟨v2, w2⟩ := sc_at li (j := 2) hi (by decide) hLs (k := nI (4 * i) + 2) (nI_aj 2)
  obtain ⟨v3, w3⟩ := sc_at li (j := 3) hi (by decide) hLs (k := nI (4 * i) + 3) (nI_aj 3)
  exact s_L_law_174 (P1 := (RM2 h (x + 45) sz (sEdge sz E (xs (4 * i + 1)) (xs (4 * i + 2)) v) n U (aEdge sz E (xs (4 * i + 1)) (xs (4 * i + 2)) v))) (P2 := (RM2 h (x + 45) sz (sEdge sz E (xs (4 * i + 1)) (xs (4 * i + 2)) v) n U (aEdge sz E (xs (4 * i + 1)) (xs (4 * i + 2)) v))) li.1.1 v1 v2 v3 (fun z => by rw [w3] at z; have e := hv.1 z; subst e; rw [w1, w2]; exact r_edge li.2.2.2.1 (xs (4 * i + 1)) (xs (4 * i + 2)) false) li.k16 (fun _ => fun _ h2 q _ _ => by obtain ⟨rfl, so, mk⟩ := q; exact s_L_law_201 (fun _ => nx h2 (li.ref so mk)) (fun z => (z rfl).elim)) (fun z => by rw [w3] at z; have e : v = true := (Bool.eq_false_or_eq_true v).elim id (fun q => (z (hv.2 q)).elim); subst e; rw [w1, w2]; exact r_edge li.2.2.2.1 (xs (4 * i + 1)) (xs (4 * i + 2)) true) (fun _ => fun _ h2 q _ _ => by obtain ⟨rfl, so, mk⟩ := q; exact s_L_law_201 (fun _ => nx h2 (li.ref so mk)) (fun z => (z rfl).elim))
theorem lo_count {i : Nat} (li : LI2 h b Ls x xs N S L K sz E n U sz E n U) (hi : 4 * i + 4 ≤ Ls) (hLs : Ls ≤ 2048) (nx : ∀ h2, LI2 h2 b Ls x xs N S L K sz E n U sz E n U → RR G nc ns m_L_law 18 [some (.ref b), some (.ref x), some (.ref (x + 45)), some (.int (nI (4 * i) + 4))] [] h2 Z) :
    RR G nc ns m_L_law 215 [some (.ref b), some (.ref x), some (.ref (x + 45)), some (.int (nI (4 * i)))] [.int (aCount sz E n U (xs (4 * i + 1)))] h Z := by
  obtain ⟨v1, w1⟩ := sc_at li (j := 1) hi (by decide) hLs (k := nI (4 * i) + 1) (nI_aj 1)
  obtain ⟨v2, w2⟩ := sc_at li (j := 2) hi (by decide) hLs (k := nI (4 * i) + 2) (nI_aj 2)
  obtain ⟨v3, w3⟩ := sc_at li (j := 3) hi (by decide) hLs (k := nI (4 * i) + 3) (nI_aj 3)
  exact s_L_law_215 (P1 := (RM2 h (x + 45) sz E n U (aCount sz E n U (xs (4 * i + 1))))) li.1.1 v1 (by rw [w1]; exact r_count li.2.2.2.1 (xs (4 * i + 1))) li.k16 (fun _ h2 q _ _ => by obtain ⟨rfl, so, mk⟩ := q; exact s_L_law_224 (fun _ => nx h2 (li.ref so mk)) (fun z => (z rfl).elim))
theorem lo_has {i : Nat} (li : LI2 h b Ls x xs N S L K sz E n U sz E n U) (hi : 4 * i + 4 ≤ Ls) (hLs : Ls ≤ 2048) (nx : ∀ h2, LI2 h2 b Ls x xs N S L K sz E n U sz E n U → RR G nc ns m_L_law 18 [some (.ref b), some (.ref x), some (.ref (x + 45)), some (.int (nI (4 * i) + 4))] [] h2 Z) :
    RR G nc ns m_L_law 243 [some (.ref b), some (.ref x), some (.ref (x + 45)), some (.int (nI (4 * i)))] [.int (aHas sz E (xs (4 * i + 1)) (xs (4 * i + 2)))] h Z := by
  obtain ⟨v1, w1⟩ := sc_at li (j := 1) hi (by decide) hLs (k := nI (4 * i) + 1) (nI_aj 1)
  obtain ⟨v2, w2⟩ := sc_at li (j := 2) hi (by decide) hLs (k := nI (4 * i) + 2) (nI_aj 2)
  obtain ⟨v3, w3⟩ := sc_at li (j := 3) hi (by decide) hLs (k := nI (4 * i) + 3) (nI_aj 3)
  exact s_L_law_243 (P1 := (RM2 h (x + 45) sz E n U (aHas sz E (xs (4 * i + 1)) (xs (4 * i + 2))))) li.1.1 v1 v2 (by rw [w1, w2]; exact r_has li.2.2.2.1 (xs (4 * i + 1)) (xs (4 * i + 2))) li.k16 (fun _ h2 q _ _ => by obtain ⟨rfl, so, mk⟩ := q; exact s_L_law_257 (fun _ => nx h2 (li.ref so mk)) (fun z => (z rfl).elim))
theorem lo_partner {i : Nat} (li : LI2 h b Ls x xs N S L K sz E n U sz E n U) (hi : 4 * i + 4 ≤ Ls) (hLs : Ls ≤ 2048) (nx : ∀ h2, LI2 h2 b Ls x xs N S L K sz E n U sz E n U → RR G nc ns m_L_law 18 [some (.ref b), some (.ref x), some (.ref (x + 45)), some (.int (nI (4 * i) + 4))] [] h2 Z) :
    RR G nc ns m_L_law 276 [some (.ref b), some (.ref x), some (.ref (x + 45)), some (.int (nI (4 * i)))] [.int (aPartner sz E (xs (4 * i + 1)) (xs (4 * i + 2)))] h Z := by
  obtain ⟨v1, w1⟩ := sc_at li (j := 1) hi (by decide) hLs (k := nI (4 * i) + 1) (nI_aj 1)
  obtain ⟨v2, w2⟩ := sc_at li (j := 2) hi (by decide) hLs (k := nI (4 * i) + 2) (nI_aj 2)
  obtain ⟨v3, w3⟩ := sc_at li (j := 3) hi (by decide) hLs (k := nI (4 * i) + 3) (nI_aj 3)
  exact s_L_law_276 (P1 := (RM2 h (x + 45) sz E n U (aPartner sz E (xs (4 * i + 1)) (xs (4 * i + 2))))) li.1.1 v1 v2 (by rw [w1, w2]; exact r_partner li.2.2.2.1 (xs (4 * i + 1)) (xs (4 * i + 2))) li.k16 (fun _ h2 q _ _ => by obtain ⟨rfl, so, mk⟩ := q; exact s_L_law_290 (fun _ => nx h2 (li.ref so mk)) (fun z => (z rfl).elim))
theorem lo_edgeIs {i : Nat} (li : LI2 h b Ls x xs N S L K sz E n U sz E n U) (hi : 4 * i + 4 ≤ Ls) (hLs : Ls ≤ 2048) (nx : ∀ h2, LI2 h2 b Ls x xs N S L K sz E n U sz E n U → RR G nc ns m_L_law 18 [some (.ref b), some (.ref x), some (.ref (x + 45)), some (.int (nI (4 * i) + 4))] [] h2 Z) :
    RR G nc ns m_L_law 309 [some (.ref b), some (.ref x), some (.ref (x + 45)), some (.int (nI (4 * i)))] [.int (aEdgeIs sz E (xs (4 * i + 1)) (xs (4 * i + 2)))] h Z := by
  obtain ⟨v1, w1⟩ := sc_at li (j := 1) hi (by decide) hLs (k := nI (4 * i) + 1) (nI_aj 1)
  obtain ⟨v2, w2⟩ := sc_at li (j := 2) hi (by decide) hLs (k := nI (4 * i) + 2) (nI_aj 2)
  obtain ⟨v3, w3⟩ := sc_at li (j := 3) hi (by decide) hLs (k := nI (4 * i) + 3) (nI_aj 3)
  exact s_L_law_309 (P1 := (RM2 h (x + 45) sz E n U (aEdgeIs sz E (xs (4 * i + 1)) (xs (4 * i + 2))))) li.1.1 v1 v2 (by rw [w1, w2]; exact r_edgeIs li.2.2.2.1 (xs (4 * i + 1)) (xs (4 * i + 2))) li.k16 (fun _ h2 q _ _ => by obtain ⟨rfl, so, mk⟩ := q; exact s_L_law_323 (fun _ => nx h2 (li.ref so mk)) (fun z => (z rfl).elim))
theorem lo_nodeIs {i : Nat} (li : LI2 h b Ls x xs N S L K sz E n U sz E n U) (hi : 4 * i + 4 ≤ Ls) (hLs : Ls ≤ 2048) (nx : ∀ h2, LI2 h2 b Ls x xs N S L K sz E n U sz E n U → RR G nc ns m_L_law 18 [some (.ref b), some (.ref x), some (.ref (x + 45)), some (.int (nI (4 * i) + 4))] [] h2 Z) :
    RR G nc ns m_L_law 342 [some (.ref b), some (.ref x), some (.ref (x + 45)), some (.int (nI (4 * i)))] [.int (aNodeIs sz E (xs (4 * i + 1)) (xs (4 * i + 2)))] h Z := by
  obtain ⟨v1, w1⟩ := sc_at li (j := 1) hi (by decide) hLs (k := nI (4 * i) + 1) (nI_aj 1)
  obtain ⟨v2, w2⟩ := sc_at li (j := 2) hi (by decide) hLs (k := nI (4 * i) + 2) (nI_aj 2)
  obtain ⟨v3, w3⟩ := sc_at li (j := 3) hi (by decide) hLs (k := nI (4 * i) + 3) (nI_aj 3)
  exact s_L_law_342 (P1 := (RM2 h (x + 45) sz E n U (aNodeIs sz E (xs (4 * i + 1)) (xs (4 * i + 2))))) li.1.1 v1 v2 (by rw [w1, w2]; exact r_nodeIs li.2.2.2.1 (xs (4 * i + 1)) (xs (4 * i + 2))) li.k16 (fun _ h2 q _ _ => by obtain ⟨rfl, so, mk⟩ := q; exact s_L_law_356 (fun _ => nx h2 (li.ref so mk)) (fun z => (z rfl).elim))
theorem lo_cover {i : Nat} (li : LI2 h b Ls x xs N S L K sz E n U sz E n U) (hi : 4 * i + 4 ≤ Ls) (hLs : Ls ≤ 2048) (nx : ∀ h2, LI2 h2 b Ls x xs N S L K sz E n U sz E n U → RR G nc ns m_L_law 18 [some (.ref b), some (.ref x), some (.ref (x + 45)), some (.int (nI (4 * i) + 4))] [] h2 Z) :
    RR G nc ns m_L_law 380 [some (.ref b), some (.ref x), some (.ref (x + 45)), some (.int (nI (4 * i)))] [.int (aCover sz E (xs (4 * i + 1)) (xs (4 * i + 2)) (xs (4 * i + 3)))] h Z := by
  obtain ⟨v1, w1⟩ := sc_at li (j := 1) hi (by decide) hLs (k := nI (4 * i) + 1) (nI_aj 1)
  obtain ⟨v2, w2⟩ := sc_at li (j := 2) hi (by decide) hLs (k := nI (4 * i) + 2) (nI_aj 2)
  obtain ⟨v3, w3⟩ := sc_at li (j := 3) hi (by decide) hLs (k := nI (4 * i) + 3) (nI_aj 3)
  exact s_L_law_380 (P1 := (RM2 h (x + 45) sz E n U (aCover sz E (xs (4 * i + 1)) (xs (4 * i + 2)) (xs (4 * i + 3))))) li.1.1 v1 v2 v3 (by rw [w1, w2, w3]; exact r_cover li.2.2.2.1 (xs (4 * i + 1)) (xs (4 * i + 2)) (xs (4 * i + 3))) li.k16 (fun _ h2 q _ _ => by obtain ⟨rfl, so, mk⟩ := q; exact s_L_law_399 (fun _ => nx h2 (li.ref so mk)) (fun z => (z rfl).elim))
theorem lo_hall {i : Nat} (li : LI2 h b Ls x xs N S L K sz E n U sz E n U) (hi : 4 * i + 4 ≤ Ls) (hLs : Ls ≤ 2048) (nx : ∀ h2, LI2 h2 b Ls x xs N S L K sz E n U sz E n U → RR G nc ns m_L_law 18 [some (.ref b), some (.ref x), some (.ref (x + 45)), some (.int (nI (4 * i) + 4))] [] h2 Z) :
    RR G nc ns m_L_law 418 [some (.ref b), some (.ref x), some (.ref (x + 45)), some (.int (nI (4 * i)))] [.int (aHall sz E (xs (4 * i + 1)) (xs (4 * i + 2)))] h Z := by
  obtain ⟨v1, w1⟩ := sc_at li (j := 1) hi (by decide) hLs (k := nI (4 * i) + 1) (nI_aj 1)
  obtain ⟨v2, w2⟩ := sc_at li (j := 2) hi (by decide) hLs (k := nI (4 * i) + 2) (nI_aj 2)
  obtain ⟨v3, w3⟩ := sc_at li (j := 3) hi (by decide) hLs (k := nI (4 * i) + 3) (nI_aj 3)
  exact s_L_law_418 (P1 := (RM2 h (x + 45) sz E n U (aHall sz E (xs (4 * i + 1)) (xs (4 * i + 2))))) li.1.1 v1 v2 (by rw [w1, w2]; exact r_hall li.2.2.2.1 (xs (4 * i + 1)) (xs (4 * i + 2))) li.k16 (fun _ h2 q _ _ => by obtain ⟨rfl, so, mk⟩ := q; exact s_L_law_432 (fun _ => nx h2 (li.ref so mk)) (fun z => (z rfl).elim))
theorem lo_part {i : Nat} (li : LI2 h b Ls x xs N S L K sz E n U sz E n U) (hi : 4 * i + 4 ≤ Ls) (hLs : Ls ≤ 2048) (nx : ∀ h2, LI2 h2 b Ls x xs N S L K sz E n U sz E n U → RR G nc ns m_L_law 18 [some (.ref b), some (.ref x), some (.ref (x + 45)), some (.int (nI (4 * i) + 4))] [] h2 Z) :
    RR G nc ns m_L_law 451 [some (.ref b), some (.ref x), some (.ref (x + 45)), some (.int (nI (4 * i)))] [.int (aPart sz E (xs (4 * i + 1)) (xs (4 * i + 2)))] h Z := by
  obtain ⟨v1, w1⟩ := sc_at li (j := 1) hi (by decide) hLs (k := nI (4 * i) + 1) (nI_aj 1)
  obtain ⟨v2, w2⟩ := sc_at li (j := 2) hi (by decide) hLs (k := nI (4 * i) + 2) (nI_aj 2)
  obtain ⟨v3, w3⟩ := sc_at li (j := 3) hi (by decide) hLs (k := nI (4 * i) + 3) (nI_aj 3)
  exact s_L_law_451 (P1 := (RM2 h (x + 45) sz E n U (aPart sz E (xs (4 * i + 1)) (xs (4 * i + 2))))) li.1.1 v1 v2 (by rw [w1, w2]; exact r_part li.2.2.2.1 (xs (4 * i + 1)) (xs (4 * i + 2))) li.k16 (fun _ h2 q _ _ => by obtain ⟨rfl, so, mk⟩ := q; exact s_L_law_465 (fun _ => nx h2 (li.ref so mk)) (fun z => (z rfl).elim))
theorem lo_block {i : Nat} (li : LI2 h b Ls x xs N S L K sz E n U sz E n U) (hi : 4 * i + 4 ≤ Ls) (hLs : Ls ≤ 2048) (nx : ∀ h2, LI2 h2 b Ls x xs N S L K sz E n U sz E n U → RR G nc ns m_L_law 18 [some (.ref b), some (.ref x), some (.ref (x + 45)), some (.int (nI (4 * i) + 4))] [] h2 Z) :
    RR G nc ns m_L_law 484 [some (.ref b), some (.ref x), some (.ref (x + 45)), some (.int (nI (4 * i)))] [.int (aBlock sz E (xs (4 * i + 1)) (xs (4 * i + 2)))] h Z := by
  obtain ⟨v1, w1⟩ := sc_at li (j := 1) hi (by decide) hLs (k := nI (4 * i) + 1) (nI_aj 1)
  obtain ⟨v2, w2⟩ := sc_at li (j := 2) hi (by decide) hLs (k := nI (4 * i) + 2) (nI_aj 2)
  obtain ⟨v3, w3⟩ := sc_at li (j := 3) hi (by decide) hLs (k := nI (4 * i) + 3) (nI_aj 3)
  exact s_L_law_484 (P1 := (RM2 h (x + 45) sz E n U (aBlock sz E (xs (4 * i + 1)) (xs (4 * i + 2))))) li.1.1 v1 v2 (by rw [w1, w2]; exact r_block li.2.2.2.1 (xs (4 * i + 1)) (xs (4 * i + 2))) li.k16 (fun _ h2 q _ _ => by obtain ⟨rfl, so, mk⟩ := q; exact s_L_law_498 (fun _ => nx h2 (li.ref so mk)) (fun z => (z rfl).elim))
theorem lo_leads {i : Nat} (li : LI2 h b Ls x xs N S L K sz E n U sz E n U) (hi : 4 * i + 4 ≤ Ls) (hLs : Ls ≤ 2048) (nx : ∀ h2, LI2 h2 b Ls x xs N S L K sz E n U sz E n U → RR G nc ns m_L_law 18 [some (.ref b), some (.ref x), some (.ref (x + 45)), some (.int (nI (4 * i) + 4))] [] h2 Z) :
    RR G nc ns m_L_law 517 [some (.ref b), some (.ref x), some (.ref (x + 45)), some (.int (nI (4 * i)))] [.int (aLeads sz E (xs (4 * i + 1)) (xs (4 * i + 2)))] h Z := by
  obtain ⟨v1, w1⟩ := sc_at li (j := 1) hi (by decide) hLs (k := nI (4 * i) + 1) (nI_aj 1)
  obtain ⟨v2, w2⟩ := sc_at li (j := 2) hi (by decide) hLs (k := nI (4 * i) + 2) (nI_aj 2)
  obtain ⟨v3, w3⟩ := sc_at li (j := 3) hi (by decide) hLs (k := nI (4 * i) + 3) (nI_aj 3)
  exact s_L_law_517 (P1 := (RM2 h (x + 45) sz E n U (aLeads sz E (xs (4 * i + 1)) (xs (4 * i + 2))))) li.1.1 v1 v2 (by rw [w1, w2]; exact r_leads li.2.2.2.1 (xs (4 * i + 1)) (xs (4 * i + 2))) li.k16 (fun _ h2 q _ _ => by obtain ⟨rfl, so, mk⟩ := q; exact s_L_law_531 (fun _ => nx h2 (li.ref so mk)) (fun z => (z rfl).elim))
theorem lo_thing {i : Nat} (li : LI2 h b Ls x xs N S L K sz E n U sz E (sThing n) U) (hi : 4 * i + 4 ≤ Ls) (hLs : Ls ≤ 2048) (nx : ∀ h2, LI2 h2 b Ls x xs N S L K sz E (sThing n) U sz E (sThing n) U → RR G nc ns m_L_law 18 [some (.ref b), some (.ref x), some (.ref (x + 45)), some (.int (nI (4 * i) + 4))] [] h2 Z) :
    RR G nc ns m_L_law 554 [some (.ref b), some (.ref x), some (.ref (x + 45)), some (.int (nI (4 * i)))] [.int (aThing n)] h Z := by
  exact s_L_law_554 (P1 := (RM2 h (x + 45) sz E (sThing n) U (aThing n))) (r_thing li.2.2.2.1) li.k16 (fun _ h2 q _ _ => by obtain ⟨rfl, so, mk⟩ := q; exact s_L_law_558 (fun _ => nx h2 (li.ref so mk)) (fun z => (z rfl).elim))
theorem lo_tell {i : Nat} (li : LI2 h b Ls x xs N S L K sz E n U sz E n (sTell n U (xs (4 * i + 1)) (xs (4 * i + 2)))) (hi : 4 * i + 4 ≤ Ls) (hLs : Ls ≤ 2048) (nx : ∀ h2, LI2 h2 b Ls x xs N S L K sz E n (sTell n U (xs (4 * i + 1)) (xs (4 * i + 2))) sz E n (sTell n U (xs (4 * i + 1)) (xs (4 * i + 2))) → RR G nc ns m_L_law 18 [some (.ref b), some (.ref x), some (.ref (x + 45)), some (.int (nI (4 * i) + 4))] [] h2 Z) :
    RR G nc ns m_L_law 577 [some (.ref b), some (.ref x), some (.ref (x + 45)), some (.int (nI (4 * i)))] [.int (aTell n U (xs (4 * i + 1)) (xs (4 * i + 2)))] h Z := by
  obtain ⟨v1, w1⟩ := sc_at li (j := 1) hi (by decide) hLs (k := nI (4 * i) + 1) (nI_aj 1)
  obtain ⟨v2, w2⟩ := sc_at li (j := 2) hi (by decide) hLs (k := nI (4 * i) + 2) (nI_aj 2)
  obtain ⟨v3, w3⟩ := sc_at li (j := 3) hi (by decide) hLs (k := nI (4 * i) + 3) (nI_aj 3)
  exact s_L_law_577 (P1 := (RM2 h (x + 45) sz E n (sTell n U (xs (4 * i + 1)) (xs (4 * i + 2))) (aTell n U (xs (4 * i + 1)) (xs (4 * i + 2))))) li.1.1 v1 v2 (by rw [w1, w2]; exact r_tell li.2.2.2.1 (xs (4 * i + 1)) (xs (4 * i + 2))) li.k16 (fun _ h2 q _ _ => by obtain ⟨rfl, so, mk⟩ := q; exact s_L_law_591 (fun _ => nx h2 (li.ref so mk)) (fun z => (z rfl).elim))
theorem lo_below {i : Nat} (li : LI2 h b Ls x xs N S L K sz E n U sz E n U) (hi : 4 * i + 4 ≤ Ls) (hLs : Ls ≤ 2048) (nx : ∀ h2, LI2 h2 b Ls x xs N S L K sz E n U sz E n U → RR G nc ns m_L_law 18 [some (.ref b), some (.ref x), some (.ref (x + 45)), some (.int (nI (4 * i) + 4))] [] h2 Z) :
    RR G nc ns m_L_law 610 [some (.ref b), some (.ref x), some (.ref (x + 45)), some (.int (nI (4 * i)))] [.int (aBelow n U (xs (4 * i + 1)) (xs (4 * i + 2)))] h Z := by
  obtain ⟨v1, w1⟩ := sc_at li (j := 1) hi (by decide) hLs (k := nI (4 * i) + 1) (nI_aj 1)
  obtain ⟨v2, w2⟩ := sc_at li (j := 2) hi (by decide) hLs (k := nI (4 * i) + 2) (nI_aj 2)
  obtain ⟨v3, w3⟩ := sc_at li (j := 3) hi (by decide) hLs (k := nI (4 * i) + 3) (nI_aj 3)
  exact s_L_law_610 (P1 := (RM2 h (x + 45) sz E n U (aBelow n U (xs (4 * i + 1)) (xs (4 * i + 2))))) li.1.1 v1 v2 (by rw [w1, w2]; exact r_below li.2.2.2.1 (xs (4 * i + 1)) (xs (4 * i + 2))) li.k16 (fun _ h2 q _ _ => by obtain ⟨rfl, so, mk⟩ := q; exact s_L_law_624 (fun _ => nx h2 (li.ref so mk)) (fun z => (z rfl).elim))
theorem lo_about {i : Nat} (li : LI2 h b Ls x xs N S L K sz E n U sz E n U) (hi : 4 * i + 4 ≤ Ls) (hLs : Ls ≤ 2048) (nx : ∀ h2, LI2 h2 b Ls x xs N S L K sz E n U sz E n U → RR G nc ns m_L_law 18 [some (.ref b), some (.ref x), some (.ref (x + 45)), some (.int (nI (4 * i) + 4))] [] h2 Z) :
    RR G nc ns m_L_law 643 [some (.ref b), some (.ref x), some (.ref (x + 45)), some (.int (nI (4 * i)))] [.int (aAbout n U (xs (4 * i + 1)) (xs (4 * i + 2)))] h Z := by
  obtain ⟨v1, w1⟩ := sc_at li (j := 1) hi (by decide) hLs (k := nI (4 * i) + 1) (nI_aj 1)
  obtain ⟨v2, w2⟩ := sc_at li (j := 2) hi (by decide) hLs (k := nI (4 * i) + 2) (nI_aj 2)
  obtain ⟨v3, w3⟩ := sc_at li (j := 3) hi (by decide) hLs (k := nI (4 * i) + 3) (nI_aj 3)
  exact s_L_law_643 (P1 := (RM2 h (x + 45) sz E n U (aAbout n U (xs (4 * i + 1)) (xs (4 * i + 2))))) li.1.1 v1 v2 (by rw [w1, w2]; exact r_about li.2.2.2.1 (xs (4 * i + 1)) (xs (4 * i + 2))) li.k16 (fun _ h2 q _ _ => by obtain ⟨rfl, so, mk⟩ := q; exact s_L_law_657 (fun _ => nx h2 (li.ref so mk)) (fun z => (z rfl).elim))
theorem lo_clearGraph {i : Nat} (li : LI2 h b Ls x xs N S L K sz E n U (fun _ => 0) (fun _ _ => false) n U) (hi : 4 * i + 4 ≤ Ls) (hLs : Ls ≤ 2048) (nx : ∀ h2, LI2 h2 b Ls x xs N S L K (fun _ => 0) (fun _ _ => false) n U (fun _ => 0) (fun _ _ => false) n U → RR G nc ns m_L_law 18 [some (.ref b), some (.ref x), some (.ref (x + 45)), some (.int (nI (4 * i) + 4))] [] h2 Z) :
    RR G nc ns m_L_law 666 [some (.ref b), some (.ref x), some (.ref (x + 45)), some (.int (nI (4 * i)))] [.int (nI (sz 0) + nI (sz 1))] h Z := by
  exact s_L_law_666 (P1 := (RM2 h (x + 45) (fun _ => 0) (fun _ _ => false) n U (nI (sz 0) + nI (sz 1)))) (r_clearGraph li.2.2.2.1) li.k16 (fun _ h2 q _ _ => by obtain ⟨rfl, so, mk⟩ := q; exact s_L_law_670 (fun _ => nx h2 (li.ref so mk)) (fun z => (z rfl).elim))
theorem lo_clearThings {i : Nat} (li : LI2 h b Ls x xs N S L K sz E n U sz E 0 (fun _ _ => false)) (hi : 4 * i + 4 ≤ Ls) (hLs : Ls ≤ 2048) (nx : ∀ h2, LI2 h2 b Ls x xs N S L K sz E 0 (fun _ _ => false) sz E 0 (fun _ _ => false) → RR G nc ns m_L_law 18 [some (.ref b), some (.ref x), some (.ref (x + 45)), some (.int (nI (4 * i) + 4))] [] h2 Z) :
    RR G nc ns m_L_law 679 [some (.ref b), some (.ref x), some (.ref (x + 45)), some (.int (nI (4 * i)))] [.int (nI n)] h Z := by
  exact s_L_law_679 (P1 := (RM2 h (x + 45) sz E 0 (fun _ _ => false) (nI n))) (r_clearThings li.2.2.2.1) li.k16 (fun _ h2 q _ _ => by obtain ⟨rfl, so, mk⟩ := q; exact s_L_law_683 (fun _ => nx h2 (li.ref so mk)) (fun z => (z rfl).elim))
theorem lo_pairings {i : Nat} (li : LI2 h b Ls x xs N S L K sz E n U sz E n U) (nx : ∀ h2, LI2 h2 b Ls x xs N S L K sz E n U sz E n U → RR G nc ns m_L_law 18 [some (.ref b), some (.ref x), some (.ref (x + 45)), some (.int (nI (4 * i) + 4))] [] h2 Z) :
    RR G nc ns m_L_law 540 [some (.ref b), some (.ref x), some (.ref (x + 45)), some (.int (nI (4 * i)))] [.long (aPairings sz E)] h Z := by
  refine s_L_law_540 (r_pairings li.2.2.2.1) li.k16 (fun _ h2 q _ _ => ?_)
  obtain ⟨rfl, so, mk⟩ := q
  exact s_L_law_544 (fun _ => nx h2 (li.ref so mk)) (fun z => (z (lg0.2 rfl)).elim)
theorem lt4 {k : Nat} (hk : k < 2 ^ 30) (hLs : Ls ≤ 2048) : (nI Ls - 4 < nI k) ↔ Ls < k + 4 := by
  have e1 : (nI Ls - 4).toInt = (Ls : Int) - 4 := by
    have a : (nI Ls).toInt = Ls := Int32.toInt_ofNat_of_lt (by omega)
    rw [Int32.toInt_sub, a, show (4 : Int32).toInt = 4 from rfl]
    rw [Int.bmod_eq_of_le (by omega) (by omega)]
  have e2 : (nI k).toInt = k := Int32.toInt_ofNat_of_lt (by omega)
  rw [Int32.lt_iff_toInt_lt, e1, e2]
  omega
theorem law_step {i : Nat} (li : LI2 h b Ls x xs N S L K sz E n U sz E n U) (hLs : Ls ≤ 2048) (hK2 : K ≤ 2 * i) (hi1 : i ≤ 1000) (hnc : N + 65536 ≤ nc) (hns : S + 131072 ≤ ns) (hz : ∀ h', Z (some (.int 1)) h')
    (ih : ∀ h2 L' K' sz' E' n' U', K' ≤ 2 * i + 2 → 4 * i + 4 ≤ Ls → LI2 h2 b Ls x xs N S L' K' sz' E' n' U' sz' E' n' U' → RR G nc ns m_L_law 18 [some (.ref b), some (.ref x), some (.ref (x + 45)), some (.int (nI (4 * i) + 4))] [] h2 Z) :
    RR G nc ns m_L_law 18 [some (.ref b), some (.ref x), some (.ref (x + 45)), some (.int (nI (4 * i)))] [] h Z := by
  by_cases hi : 4 * i + 4 ≤ Ls
  case neg =>
    have lt : nI Ls - 4 < nI (4 * i) := (lt4 (by omega) hLs).2 (by omega)
    have eL : hL h b = Ls := li.1.2.1
    have no : ¬ ((nI (hL h b)) - 4) < nI (4 * i) → False := fun z => z (by rw [eL]; exact lt)
    obtain ⟨mc, ms, L', ⟨m1, m2, m3⟩, -⟩ := c_pairings (G := G) li.2.2.1
    exact s_L_law_18 (P1 := fun _ _ => True) (P2 := fun _ _ => True) (P3 := fun _ _ => True) (P4 := fun _ _ => True) (P5 := fun _ _ => True) (P6 := fun _ _ => True) (P7 := fun _ _ => True) (P8 := fun _ _ => True) (P9 := fun _ _ => True) (P10 := fun _ _ => True) (P11 := fun _ _ => True) (P12 := fun _ _ => True) (P13 := fun _ _ => True) (P14 := fun _ _ => True) (P15 := fun _ _ => True) (P16 := fun _ _ => True) (P17 := fun _ _ => True) (P18 := fun _ _ => True) (P19 := fun _ _ => True) (P20 := fun _ _ => True) (mc14 := 0) (ms14 := 0) (Or.inr li.1.1)
      (fun _ => hz h)
      li.1.1
      (fun z => (no z).elim)
      (fun z => (no z).elim)
      (fun z => (no z).elim)
      (fun z => (no z).elim)
      li.k15
      (fun z => (no z).elim)
      (fun z => (no z).elim)
      (fun z => (no z).elim)
      (fun z => (no z).elim)
      (fun z => (no z).elim)
      (fun z => (no z).elim)
      (fun z => (no z).elim)
      (fun z => (no z).elim)
      (fun z => (no z).elim)
      (fun z => (no z).elim)
      (fun z => (no z).elim)
      (fun z => (no z).elim)
      (fun z => (no z).elim)
      (fun z => (no z).elim)
      (fun z => (no z).elim)
      (fun z => (no z).elim)
      (fun z => (no z).elim)
      (fun z => (no z).elim)
      (fun z => (no z).elim)
      (fun z => (no z).elim)
      (fun z => (no z).elim)
      (fun z => (no z).elim)
      (fun z => (no z).elim)
      (fun z => (no z).elim)
      (fun z => (no z).elim)
      (fun z => (no z).elim)
      (fun z => (no z).elim)
      (fun z => (no z).elim)
      (fun z => (no z).elim)
      (fun z => (no z).elim)
      (fun z => (no z).elim)
      (fun z => (no z).elim)
      (fun z => (no z).elim)
      (fun z => (no z).elim)
      (fun z => (no z).elim)
      (fun z => (no z).elim)
      (fun z => (no z).elim)
      (fun z => (no z).elim)
      (fun z => (no z).elim)
      (fun z => (no z).elim)
      (fun z => (no z).elim)
      (fun z => (no z).elim)
      (fun z => (no z).elim)
      (fun z => (no z).elim)
      (fun z => (no z).elim)
      (fun z => (no z).elim)
      (fun z => (no z).elim)
      (fun z => (no z).elim)
      (by have := li.2.2.2.2.1; omega)
      (by have := li.2.2.2.2.2.1; omega)
      (fun z => (no z).elim)
      (fun z => (no z).elim)
      (fun z => (no z).elim)
      (fun z => (no z).elim)
      (fun z => (no z).elim)
      (fun z => (no z).elim)
      (fun z => (no z).elim)
      (fun z => (no z).elim)
      (fun z => (no z).elim)
      (fun z => (no z).elim)
      (fun z => (no z).elim)
      (fun z => (no z).elim)
      (fun z => (no z).elim)
      (fun z => (no z).elim)
      (fun z => (no z).elim)
      (fun z => (no z).elim)
      (fun z => (no z).elim)
      (fun z => (no z).elim)
      (fun z => (no z).elim)
      (fun z => (no z).elim)
  case pos =>
    have hKK : K + 2 < 2 ^ 31 := by omega
    have ck := li.2.2.1
    obtain ⟨v0, w0⟩ := sc_at li (j := 0) hi (by decide) hLs (k := nI (4 * i)) rfl
    obtain ⟨v1, w1⟩ := sc_at li (j := 1) hi (by decide) hLs (k := nI (4 * i) + 1) (nI_aj 1)
    obtain ⟨v2, w2⟩ := sc_at li (j := 2) hi (by decide) hLs (k := nI (4 * i) + 2) (nI_aj 2)
    obtain ⟨v3, w3⟩ := sc_at li (j := 3) hi (by decide) hLs (k := nI (4 * i) + 3) (nI_aj 3)
    have e_node : Ev G m_X5_node [.ref x, .int (hI h b (Int32.toNatClampNeg (nI (4 * i) + 1)))] h 0 0 (RI (RP h x (x + 72) L (K + 2) (sNode sz (xs (4 * i + 1))) E n U (aNode sz (xs (4 * i + 1))))) := by rw [w1]; exact c_node ck hKK _
    have k_node : ∀ y1 h1, RP h x (x + 72) L (K + 2) (sNode sz (xs (4 * i + 1))) E n U (aNode sz (xs (4 * i + 1))) y1 h1 → RR G nc ns m_L_law 133 [some (.ref b), some (.ref x), some (.ref (x + 45)), some (.int (nI (4 * i)))] [.int y1] h1 Z := by
      rintro y1 h1 ⟨rfl, so, ck1⟩
      exact lo_node (li.cls so ck1) hi hLs (fun h2 l2 => ih h2 _ _ _ _ _ _ (by omega) hi l2)
    have e_edge1 : hI h b (Int32.toNatClampNeg (nI (4 * i) + 3)) = 0 → Ev G m_X5_edge [.ref x, .int (hI h b (Int32.toNatClampNeg (nI (4 * i) + 1))), .int (hI h b (Int32.toNatClampNeg (nI (4 * i) + 2))), .int 0] h 0 0 (RI (RP h x (x + 72) L (K + 2) sz (sEdge sz E (xs (4 * i + 1)) (xs (4 * i + 2)) false) n U (aEdge sz E (xs (4 * i + 1)) (xs (4 * i + 2)) false))) := fun _ => by rw [w1, w2]; exact c_edge ck hKK _ _ false
    have k_edge1 : hI h b (Int32.toNatClampNeg (nI (4 * i) + 3)) = 0 → ∀ y1 h1, RP h x (x + 72) L (K + 2) sz (sEdge sz E (xs (4 * i + 1)) (xs (4 * i + 2)) false) n U (aEdge sz E (xs (4 * i + 1)) (xs (4 * i + 2)) false) y1 h1 → RR G nc ns m_L_law 174 [some (.ref b), some (.ref x), some (.ref (x + 45)), some (.int (nI (4 * i)))] [.int y1] h1 Z := by
      intro z y1 h1 q
      rw [w3] at z
      obtain ⟨rfl, so, ck1⟩ := q
      exact lo_edge (v := false) (li.cls so ck1) hi hLs ⟨fun _ => rfl, fun _ => z⟩ (fun h2 l2 => ih h2 _ _ _ _ _ _ (by omega) hi l2)
    have e_edge2 : ¬ hI h b (Int32.toNatClampNeg (nI (4 * i) + 3)) = 0 → Ev G m_X5_edge [.ref x, .int (hI h b (Int32.toNatClampNeg (nI (4 * i) + 1))), .int (hI h b (Int32.toNatClampNeg (nI (4 * i) + 2))), .int 1] h 0 0 (RI (RP h x (x + 72) L (K + 2) sz (sEdge sz E (xs (4 * i + 1)) (xs (4 * i + 2)) true) n U (aEdge sz E (xs (4 * i + 1)) (xs (4 * i + 2)) true))) := fun _ => by rw [w1, w2]; exact c_edge ck hKK _ _ true
    have k_edge2 : ¬ hI h b (Int32.toNatClampNeg (nI (4 * i) + 3)) = 0 → ∀ y1 h1, RP h x (x + 72) L (K + 2) sz (sEdge sz E (xs (4 * i + 1)) (xs (4 * i + 2)) true) n U (aEdge sz E (xs (4 * i + 1)) (xs (4 * i + 2)) true) y1 h1 → RR G nc ns m_L_law 174 [some (.ref b), some (.ref x), some (.ref (x + 45)), some (.int (nI (4 * i)))] [.int y1] h1 Z := by
      intro z y1 h1 q
      rw [w3] at z
      obtain ⟨rfl, so, ck1⟩ := q
      exact lo_edge (v := true) (li.cls so ck1) hi hLs ⟨fun q => (z q).elim, fun q => (by cases q)⟩ (fun h2 l2 => ih h2 _ _ _ _ _ _ (by omega) hi l2)
    have e_count : Ev G m_X5_count [.ref x, .int (hI h b (Int32.toNatClampNeg (nI (4 * i) + 1)))] h 0 0 (RI (RP h x (x + 72) L K sz E n U (aCount sz E n U (xs (4 * i + 1))))) := by rw [w1]; exact c_count ck  _
    have k_count : ∀ y1 h1, RP h x (x + 72) L K sz E n U (aCount sz E n U (xs (4 * i + 1))) y1 h1 → RR G nc ns m_L_law 215 [some (.ref b), some (.ref x), some (.ref (x + 45)), some (.int (nI (4 * i)))] [.int y1] h1 Z := by
      rintro y1 h1 ⟨rfl, so, ck1⟩
      exact lo_count (li.cls so ck1) hi hLs (fun h2 l2 => ih h2 _ _ _ _ _ _ (by omega) hi l2)
    have e_has : Ev G m_X5_has [.ref x, .int (hI h b (Int32.toNatClampNeg (nI (4 * i) + 1))), .int (hI h b (Int32.toNatClampNeg (nI (4 * i) + 2)))] h 0 0 (RI (RP h x (x + 72) L K sz E n U (aHas sz E (xs (4 * i + 1)) (xs (4 * i + 2))))) := by rw [w1, w2]; exact c_has ck  _ _
    have k_has : ∀ y1 h1, RP h x (x + 72) L K sz E n U (aHas sz E (xs (4 * i + 1)) (xs (4 * i + 2))) y1 h1 → RR G nc ns m_L_law 243 [some (.ref b), some (.ref x), some (.ref (x + 45)), some (.int (nI (4 * i)))] [.int y1] h1 Z := by
      rintro y1 h1 ⟨rfl, so, ck1⟩
      exact lo_has (li.cls so ck1) hi hLs (fun h2 l2 => ih h2 _ _ _ _ _ _ (by omega) hi l2)
    have e_partner : Ev G m_X5_partner [.ref x, .int (hI h b (Int32.toNatClampNeg (nI (4 * i) + 1))), .int (hI h b (Int32.toNatClampNeg (nI (4 * i) + 2)))] h 0 0 (RI (RP h x (x + 72) L K sz E n U (aPartner sz E (xs (4 * i + 1)) (xs (4 * i + 2))))) := by rw [w1, w2]; exact c_partner ck  _ _
    have k_partner : ∀ y1 h1, RP h x (x + 72) L K sz E n U (aPartner sz E (xs (4 * i + 1)) (xs (4 * i + 2))) y1 h1 → RR G nc ns m_L_law 276 [some (.ref b), some (.ref x), some (.ref (x + 45)), some (.int (nI (4 * i)))] [.int y1] h1 Z := by
      rintro y1 h1 ⟨rfl, so, ck1⟩
      exact lo_partner (li.cls so ck1) hi hLs (fun h2 l2 => ih h2 _ _ _ _ _ _ (by omega) hi l2)
    have e_edgeIs : Ev G m_X5_edgeIs [.ref x, .int (hI h b (Int32.toNatClampNeg (nI (4 * i) + 1))), .int (hI h b (Int32.toNatClampNeg (nI (4 * i) + 2)))] h 0 0 (RI (RP h x (x + 72) L K sz E n U (aEdgeIs sz E (xs (4 * i + 1)) (xs (4 * i + 2))))) := by rw [w1, w2]; exact c_edgeIs ck  _ _
    have k_edgeIs : ∀ y1 h1, RP h x (x + 72) L K sz E n U (aEdgeIs sz E (xs (4 * i + 1)) (xs (4 * i + 2))) y1 h1 → RR G nc ns m_L_law 309 [some (.ref b), some (.ref x), some (.ref (x + 45)), some (.int (nI (4 * i)))] [.int y1] h1 Z := by
      rintro y1 h1 ⟨rfl, so, ck1⟩
      exact lo_edgeIs (li.cls so ck1) hi hLs (fun h2 l2 => ih h2 _ _ _ _ _ _ (by omega) hi l2)
    have e_nodeIs : Ev G m_X5_nodeIs [.ref x, .int (hI h b (Int32.toNatClampNeg (nI (4 * i) + 1))), .int (hI h b (Int32.toNatClampNeg (nI (4 * i) + 2)))] h 0 0 (RI (RP h x (x + 72) L K sz E n U (aNodeIs sz E (xs (4 * i + 1)) (xs (4 * i + 2))))) := by rw [w1, w2]; exact c_nodeIs ck  _ _
    have k_nodeIs : ∀ y1 h1, RP h x (x + 72) L K sz E n U (aNodeIs sz E (xs (4 * i + 1)) (xs (4 * i + 2))) y1 h1 → RR G nc ns m_L_law 342 [some (.ref b), some (.ref x), some (.ref (x + 45)), some (.int (nI (4 * i)))] [.int y1] h1 Z := by
      rintro y1 h1 ⟨rfl, so, ck1⟩
      exact lo_nodeIs (li.cls so ck1) hi hLs (fun h2 l2 => ih h2 _ _ _ _ _ _ (by omega) hi l2)
    have e_cover : Ev G m_X5_cover [.ref x, .int (hI h b (Int32.toNatClampNeg (nI (4 * i) + 1))), .int (hI h b (Int32.toNatClampNeg (nI (4 * i) + 2))), .int (hI h b (Int32.toNatClampNeg (nI (4 * i) + 3)))] h 0 0 (RI (RP h x (x + 72) L K sz E n U (aCover sz E (xs (4 * i + 1)) (xs (4 * i + 2)) (xs (4 * i + 3))))) := by rw [w1, w2, w3]; exact c_cover ck  _ _ _
    have k_cover : ∀ y1 h1, RP h x (x + 72) L K sz E n U (aCover sz E (xs (4 * i + 1)) (xs (4 * i + 2)) (xs (4 * i + 3))) y1 h1 → RR G nc ns m_L_law 380 [some (.ref b), some (.ref x), some (.ref (x + 45)), some (.int (nI (4 * i)))] [.int y1] h1 Z := by
      rintro y1 h1 ⟨rfl, so, ck1⟩
      exact lo_cover (li.cls so ck1) hi hLs (fun h2 l2 => ih h2 _ _ _ _ _ _ (by omega) hi l2)
    have e_hall : Ev G m_X5_hall [.ref x, .int (hI h b (Int32.toNatClampNeg (nI (4 * i) + 1))), .int (hI h b (Int32.toNatClampNeg (nI (4 * i) + 2)))] h 0 0 (RI (RP h x (x + 72) L K sz E n U (aHall sz E (xs (4 * i + 1)) (xs (4 * i + 2))))) := by rw [w1, w2]; exact c_hall ck  _ _
    have k_hall : ∀ y1 h1, RP h x (x + 72) L K sz E n U (aHall sz E (xs (4 * i + 1)) (xs (4 * i + 2))) y1 h1 → RR G nc ns m_L_law 418 [some (.ref b), some (.ref x), some (.ref (x + 45)), some (.int (nI (4 * i)))] [.int y1] h1 Z := by
      rintro y1 h1 ⟨rfl, so, ck1⟩
      exact lo_hall (li.cls so ck1) hi hLs (fun h2 l2 => ih h2 _ _ _ _ _ _ (by omega) hi l2)
    have e_part : Ev G m_X5_part [.ref x, .int (hI h b (Int32.toNatClampNeg (nI (4 * i) + 1))), .int (hI h b (Int32.toNatClampNeg (nI (4 * i) + 2)))] h 0 0 (RI (RP h x (x + 72) L K sz E n U (aPart sz E (xs (4 * i + 1)) (xs (4 * i + 2))))) := by rw [w1, w2]; exact c_part ck  _ _
    have k_part : ∀ y1 h1, RP h x (x + 72) L K sz E n U (aPart sz E (xs (4 * i + 1)) (xs (4 * i + 2))) y1 h1 → RR G nc ns m_L_law 451 [some (.ref b), some (.ref x), some (.ref (x + 45)), some (.int (nI (4 * i)))] [.int y1] h1 Z := by
      rintro y1 h1 ⟨rfl, so, ck1⟩
      exact lo_part (li.cls so ck1) hi hLs (fun h2 l2 => ih h2 _ _ _ _ _ _ (by omega) hi l2)
    have e_block : Ev G m_X5_block [.ref x, .int (hI h b (Int32.toNatClampNeg (nI (4 * i) + 1))), .int (hI h b (Int32.toNatClampNeg (nI (4 * i) + 2)))] h 0 0 (RI (RP h x (x + 72) L K sz E n U (aBlock sz E (xs (4 * i + 1)) (xs (4 * i + 2))))) := by rw [w1, w2]; exact c_block ck  _ _
    have k_block : ∀ y1 h1, RP h x (x + 72) L K sz E n U (aBlock sz E (xs (4 * i + 1)) (xs (4 * i + 2))) y1 h1 → RR G nc ns m_L_law 484 [some (.ref b), some (.ref x), some (.ref (x + 45)), some (.int (nI (4 * i)))] [.int y1] h1 Z := by
      rintro y1 h1 ⟨rfl, so, ck1⟩
      exact lo_block (li.cls so ck1) hi hLs (fun h2 l2 => ih h2 _ _ _ _ _ _ (by omega) hi l2)
    have e_leads : Ev G m_X5_leads [.ref x, .int (hI h b (Int32.toNatClampNeg (nI (4 * i) + 1))), .int (hI h b (Int32.toNatClampNeg (nI (4 * i) + 2)))] h 0 0 (RI (RP h x (x + 72) L K sz E n U (aLeads sz E (xs (4 * i + 1)) (xs (4 * i + 2))))) := by rw [w1, w2]; exact c_leads ck  _ _
    have k_leads : ∀ y1 h1, RP h x (x + 72) L K sz E n U (aLeads sz E (xs (4 * i + 1)) (xs (4 * i + 2))) y1 h1 → RR G nc ns m_L_law 517 [some (.ref b), some (.ref x), some (.ref (x + 45)), some (.int (nI (4 * i)))] [.int y1] h1 Z := by
      rintro y1 h1 ⟨rfl, so, ck1⟩
      exact lo_leads (li.cls so ck1) hi hLs (fun h2 l2 => ih h2 _ _ _ _ _ _ (by omega) hi l2)
    have e_thing : Ev G m_X5_thing [.ref x] h 0 0 (RI (RP h x (x + 72) L (K + 2) sz E (sThing n) U (aThing n))) := by exact c_thing ck hKK
    have k_thing : ∀ y1 h1, RP h x (x + 72) L (K + 2) sz E (sThing n) U (aThing n) y1 h1 → RR G nc ns m_L_law 554 [some (.ref b), some (.ref x), some (.ref (x + 45)), some (.int (nI (4 * i)))] [.int y1] h1 Z := by
      rintro y1 h1 ⟨rfl, so, ck1⟩
      exact lo_thing (li.cls so ck1) hi hLs (fun h2 l2 => ih h2 _ _ _ _ _ _ (by omega) hi l2)
    have e_tell : Ev G m_X5_tell [.ref x, .int (hI h b (Int32.toNatClampNeg (nI (4 * i) + 1))), .int (hI h b (Int32.toNatClampNeg (nI (4 * i) + 2)))] h 0 0 (RI (RP h x (x + 72) L (K + 2) sz E n (sTell n U (xs (4 * i + 1)) (xs (4 * i + 2))) (aTell n U (xs (4 * i + 1)) (xs (4 * i + 2))))) := by rw [w1, w2]; exact c_tell ck hKK _ _
    have k_tell : ∀ y1 h1, RP h x (x + 72) L (K + 2) sz E n (sTell n U (xs (4 * i + 1)) (xs (4 * i + 2))) (aTell n U (xs (4 * i + 1)) (xs (4 * i + 2))) y1 h1 → RR G nc ns m_L_law 577 [some (.ref b), some (.ref x), some (.ref (x + 45)), some (.int (nI (4 * i)))] [.int y1] h1 Z := by
      rintro y1 h1 ⟨rfl, so, ck1⟩
      exact lo_tell (li.cls so ck1) hi hLs (fun h2 l2 => ih h2 _ _ _ _ _ _ (by omega) hi l2)
    have e_below : Ev G m_X5_below [.ref x, .int (hI h b (Int32.toNatClampNeg (nI (4 * i) + 1))), .int (hI h b (Int32.toNatClampNeg (nI (4 * i) + 2)))] h 0 0 (RI (RP h x (x + 72) L K sz E n U (aBelow n U (xs (4 * i + 1)) (xs (4 * i + 2))))) := by rw [w1, w2]; exact c_below ck  _ _
    have k_below : ∀ y1 h1, RP h x (x + 72) L K sz E n U (aBelow n U (xs (4 * i + 1)) (xs (4 * i + 2))) y1 h1 → RR G nc ns m_L_law 610 [some (.ref b), some (.ref x), some (.ref (x + 45)), some (.int (nI (4 * i)))] [.int y1] h1 Z := by
      rintro y1 h1 ⟨rfl, so, ck1⟩
      exact lo_below (li.cls so ck1) hi hLs (fun h2 l2 => ih h2 _ _ _ _ _ _ (by omega) hi l2)
    have e_about : Ev G m_X5_about [.ref x, .int (hI h b (Int32.toNatClampNeg (nI (4 * i) + 1))), .int (hI h b (Int32.toNatClampNeg (nI (4 * i) + 2)))] h 0 0 (RI (RP h x (x + 72) L K sz E n U (aAbout n U (xs (4 * i + 1)) (xs (4 * i + 2))))) := by rw [w1, w2]; exact c_about ck  _ _
    have k_about : ∀ y1 h1, RP h x (x + 72) L K sz E n U (aAbout n U (xs (4 * i + 1)) (xs (4 * i + 2))) y1 h1 → RR G nc ns m_L_law 643 [some (.ref b), some (.ref x), some (.ref (x + 45)), some (.int (nI (4 * i)))] [.int y1] h1 Z := by
      rintro y1 h1 ⟨rfl, so, ck1⟩
      exact lo_about (li.cls so ck1) hi hLs (fun h2 l2 => ih h2 _ _ _ _ _ _ (by omega) hi l2)
    have e_clearGraph : Ev G m_X5_clearGraph [.ref x] h 0 0 (RI (RP h x (x + 72) L (K + 2) (fun _ => 0) (fun _ _ => false) n U (nI (sz 0) + nI (sz 1)))) := by exact c_clearGraph ck hKK
    have k_clearGraph : ∀ y1 h1, RP h x (x + 72) L (K + 2) (fun _ => 0) (fun _ _ => false) n U (nI (sz 0) + nI (sz 1)) y1 h1 → RR G nc ns m_L_law 666 [some (.ref b), some (.ref x), some (.ref (x + 45)), some (.int (nI (4 * i)))] [.int y1] h1 Z := by
      rintro y1 h1 ⟨rfl, so, ck1⟩
      exact lo_clearGraph (li.cls so ck1) hi hLs (fun h2 l2 => ih h2 _ _ _ _ _ _ (by omega) hi l2)
    have e_clearThings : Ev G m_X5_clearThings [.ref x] h 0 0 (RI (RP h x (x + 72) L (K + 2) sz E 0 (fun _ _ => false) (nI n))) := by exact c_clearThings ck hKK
    have k_clearThings : ∀ y1 h1, RP h x (x + 72) L (K + 2) sz E 0 (fun _ _ => false) (nI n) y1 h1 → RR G nc ns m_L_law 679 [some (.ref b), some (.ref x), some (.ref (x + 45)), some (.int (nI (4 * i)))] [.int y1] h1 Z := by
      rintro y1 h1 ⟨rfl, so, ck1⟩
      exact lo_clearThings (li.cls so ck1) hi hLs (fun h2 l2 => ih h2 _ _ _ _ _ _ (by omega) hi l2)
    obtain ⟨mc, ms, L', ⟨m1, m2, m3⟩, e_pairings⟩ := c_pairings (G := G) ck
    have k_pairings : ∀ (y1 : Int64) h1, (y1 = aPairings sz E ∧ FR x (x + 72) h h1 ∧ COK h1 x (x + 72) L' K sz E n U) → hN h1 = hN h + mc → hS h1 = hS h + ms → RR G nc ns m_L_law 540 [some (.ref b), some (.ref x), some (.ref (x + 45)), some (.int (nI (4 * i)))] [.long y1] h1 Z := by
      rintro y1 h1 ⟨rfl, fr, ck1⟩ a1 a2
      obtain ⟨⟨s1, s2, s3⟩, hb, -, mk, b1, b2, b3⟩ := id li
      obtain ⟨q1, q2, q3, q4, q5⟩ := fr b (b + 1) (Or.inl (by omega)) (by omega) b (Nat.le_refl _) (by omega)
      have l1 : LI2 h1 b Ls x xs N S L' K sz E n U sz E n U := ⟨⟨q1.trans s1, q2.trans s2, fun j => (q4 j).trans (s3 j)⟩, hb, ck1, mk.ag (fr (x + 45) (x + 45 + 27) (Or.inr (Nat.le_refl _)) (by omega)), by omega, by omega, m3⟩
      exact lo_pairings l1 (fun h2 l2 => ih h2 _ _ _ _ _ _ (by omega) hi l2)
    exact s_L_law_18 (mc14 := mc) (ms14 := ms) (Or.inr li.1.1)
      (fun _ => hz h)
      li.1.1
      (fun _ => v0)
      (fun _ _ => ih h L K sz E n U (by omega) hi li)
      (fun _ _ => v1)
      (fun _ _ => e_node)
      li.k15
      (fun _ _ y1 h1 q _ _ => k_node y1 h1 q)
      (fun _ _ => v1)
      (fun _ _ => v2)
      (fun _ _ => v3)
      (fun _ _ z => e_edge1 z)
      (fun _ _ z y1 h1 q _ _ => k_edge1 z y1 h1 q)
      (fun _ _ z => e_edge2 z)
      (fun _ _ z y1 h1 q _ _ => k_edge2 z y1 h1 q)
      (fun _ _ => v1)
      (fun _ _ => e_count)
      (fun _ _ y1 h1 q _ _ => k_count y1 h1 q)
      (fun _ _ => v1)
      (fun _ _ => v2)
      (fun _ _ => e_has)
      (fun _ _ y1 h1 q _ _ => k_has y1 h1 q)
      (fun _ _ => v1)
      (fun _ _ => v2)
      (fun _ _ => e_partner)
      (fun _ _ y1 h1 q _ _ => k_partner y1 h1 q)
      (fun _ _ => v1)
      (fun _ _ => v2)
      (fun _ _ => e_edgeIs)
      (fun _ _ y1 h1 q _ _ => k_edgeIs y1 h1 q)
      (fun _ _ => v1)
      (fun _ _ => v2)
      (fun _ _ => e_nodeIs)
      (fun _ _ y1 h1 q _ _ => k_nodeIs y1 h1 q)
      (fun _ _ => v1)
      (fun _ _ => v2)
      (fun _ _ => v3)
      (fun _ _ => e_cover)
      (fun _ _ y1 h1 q _ _ => k_cover y1 h1 q)
      (fun _ _ => v1)
      (fun _ _ => v2)
      (fun _ _ => e_hall)
      (fun _ _ y1 h1 q _ _ => k_hall y1 h1 q)
      (fun _ _ => v1)
      (fun _ _ => v2)
      (fun _ _ => e_part)
      (fun _ _ y1 h1 q _ _ => k_part y1 h1 q)
      (fun _ _ => v1)
      (fun _ _ => v2)
      (fun _ _ => e_block)
      (fun _ _ y1 h1 q _ _ => k_block y1 h1 q)
      (fun _ _ => v1)
      (fun _ _ => v2)
      (fun _ _ => e_leads)
      (fun _ _ y1 h1 q _ _ => k_leads y1 h1 q)
      (by have := li.2.2.2.2.1; omega)
      (by have := li.2.2.2.2.2.1; omega)
      (fun _ _ => e_pairings)
      (fun _ _ y1 h1 q a1 a2 => k_pairings y1 h1 q a1 a2)
      (fun _ _ => e_thing)
      (fun _ _ y1 h1 q _ _ => k_thing y1 h1 q)
      (fun _ _ => v1)
      (fun _ _ => v2)
      (fun _ _ => e_tell)
      (fun _ _ y1 h1 q _ _ => k_tell y1 h1 q)
      (fun _ _ => v1)
      (fun _ _ => v2)
      (fun _ _ => e_below)
      (fun _ _ y1 h1 q _ _ => k_below y1 h1 q)
      (fun _ _ => v1)
      (fun _ _ => v2)
      (fun _ _ => e_about)
      (fun _ _ y1 h1 q _ _ => k_about y1 h1 q)
      (fun _ _ => e_clearGraph)
      (fun _ _ y1 h1 q _ _ => k_clearGraph y1 h1 q)
      (fun _ _ => e_clearThings)
      (fun _ _ y1 h1 q _ _ => k_clearThings y1 h1 q)
theorem law_loop (hLs : Ls ≤ 2048) (hnc : N + 65536 ≤ nc) (hns : S + 131072 ≤ ns) (hz : ∀ h', Z (some (.int 1)) h') : ∀ d i h L K sz E n U, i + d = 514 → K ≤ 2 * i → 4 * i ≤ Ls + 4 → LI2 h b Ls x xs N S L K sz E n U sz E n U →
    RR G nc ns m_L_law 18 [some (.ref b), some (.ref x), some (.ref (x + 45)), some (.int (nI (4 * i)))] [] h Z := by
  intro d
  induction d with
  | zero =>
    intro i h L K sz E n U e hK2 hi li
    exact law_step li hLs hK2 (by omega) hnc hns hz (fun h2 L' K' sz' E' n' U' _ z _ => absurd z (by omega))
  | succ d ih =>
    intro i h L K sz E n U e hK2 hi li
    refine law_step li hLs hK2 (by omega) hnc hns hz (fun h2 L' K' sz' E' n' U' k1 k2 l2 => ?_)
    have e4 : nI (4 * i) + 4 = nI (4 * (i + 1)) := nI_aj 4
    rw [e4]
    exact ih (i + 1) h2 L' K' sz' E' n' U' (by omega) (by omega) (by omega) l2
end LOOP
