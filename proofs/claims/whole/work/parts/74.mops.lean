variable {G : GG} {h h' : PH} {y n : Nat} {sz : Nat → Nat} {E U : Nat → Nat → Bool}
theorem MGS.eo {S D : List Nat} (hg : MGS h y sz E) (eo : EO y S D h h') (h1 : (decide (1 ∉ S) && decide (2 ∉ S) && decide (3 ∉ S) && decide (4 ∉ S) && decide (5 ∉ S) && decide (6 ∉ S) && decide (7 ∉ S) && decide (8 ∉ S) && decide (9 ∉ S) && decide (0 ∉ D) && decide (1 ∉ D) && decide (3 ∉ D) && decide (4 ∉ D) && decide (13 ∉ D) && decide (14 ∉ D) && decide (15 ∉ D)) = true) : MGS h' y sz E := by
  simp only [Bool.and_eq_true, decide_eq_true_iff] at h1
  obtain ⟨⟨⟨⟨⟨⟨⟨⟨⟨⟨⟨⟨⟨⟨⟨a1, a2⟩, a3⟩, a4⟩, a5⟩, a6⟩, a7⟩, a8⟩, a9⟩, d0⟩, d1⟩, d3⟩, d4⟩, d13⟩, d14⟩, d15⟩ := h1
  obtain ⟨q1, q2, q3, q4⟩ := hg
  refine ⟨q1.eo eo, q2.eo eo a1 d0 d1, by rw [eo.f 3 d3]; exact q3, fun z => ?_⟩
  rw [eo.f 3 d3] at z
  obtain ⟨z1, z2⟩ := q4 z
  refine ⟨z1.eo eo (by simp only [Bool.and_eq_true, decide_eq_true_iff]; exact ⟨⟨⟨⟨⟨⟨⟨⟨⟨a2, a3⟩, a4⟩, a5⟩, a6⟩, a7⟩, a8⟩, a9⟩, d4⟩, d13⟩), fun w => ?_⟩
  rw [eo.f 14 d14] at w
  rw [eo.fJ 15 d15]; exact z2 w
theorem MUS.eo {S D : List Nat} (hg : MUS h y n U) (eo : EO y S D h h') (h1 : (decide (11 ∉ S) && decide (12 ∉ S) && decide (13 ∉ S) && decide (14 ∉ S) && decide (15 ∉ S) && decide (16 ∉ S) && decide (17 ∉ D) && decide (19 ∉ D) && decide (20 ∉ D)) = true) : MUS h' y n U := by
  simp only [Bool.and_eq_true, decide_eq_true_iff] at h1
  obtain ⟨⟨⟨⟨⟨⟨⟨⟨a11, a12⟩, a13⟩, a14⟩, a15⟩, a16⟩, d17⟩, d19⟩, d20⟩ := h1
  obtain ⟨q1, q2, q3, q4⟩ := hg
  refine ⟨q1.eo eo, q2.eo eo a11 d17, by rw [eo.f 19 d19]; exact q3, fun z => ?_⟩
  rw [eo.f 19 d19] at z
  exact (q4 z).eo eo (by simp only [Bool.and_eq_true, decide_eq_true_iff]; exact ⟨⟨⟨⟨⟨a12, a13⟩, a14⟩, a15⟩, a16⟩, d20⟩)
def MOK (h : PH) (y : Nat) (sz : Nat → Nat) (E : Nat → Nat → Bool) (n : Nat) (U : Nat → Nat → Bool) : Prop := MGS h y sz E ∧ MUS h y n U
def RM2 (h : PH) (y : Nat) (sz : Nat → Nat) (E : Nat → Nat → Bool) (n : Nat) (U : Nat → Nat → Bool) (a v : Int32) (h' : PH) : Prop := v = a ∧ SO y (y + 27) h h' ∧ MOK h' y sz E n U
theorem rm_fin {a v : Int32} (e : v = a) (so : SO y (y + 27) h h') (hk : MOK h' y sz E n U) : (fun v h' => RI (RM2 h y sz E n U a) v h' ∧ hN h' = hN h + 0 ∧ hS h' = hS h + 0) (some (.int v)) h' := ⟨⟨v, rfl, e, so, hk⟩, so.2.2.2.1, so.2.2.2.2.1⟩
theorem w_work (hk : MOK h y sz E n U) : Ev G m_X6_work [.ref y] h 0 0 (RV (fun h1 => SO y (y + 27) h h1 ∧ MOK h1 y sz E n U ∧ MW h1 y sz E)) := by
  refine (m_work hk.1).mono ?_
  rintro v h1 ⟨e, eo, g, w, _⟩
  exact ⟨e, eo.so, ⟨g, hk.2.eo eo (by decide)⟩, w⟩
theorem w_workT (hk : MOK h y sz E n U) : Ev G m_X6_workThings [.ref y] h 0 0 (RV (fun h1 => SO y (y + 27) h h1 ∧ MOK h1 y sz E n U ∧ MT h1 y n U)) := by
  refine (m_workThings hk.2).mono ?_
  rintro v h1 ⟨e, eo, g, w, _⟩
  exact ⟨e, eo.so, ⟨hk.1.eo eo (by decide), g⟩, w⟩
theorem ge_in {x : Int32} {k : Nat} (hk : k < 2 ^ 31) (hx : ¬ x < 0) : nI k ≤ x ↔ inB x k = false := by
  rw [ge_nI hk hx]
  unfold inB
  rw [decide_eq_false hx]
  simp
theorem lt_in {x : Int32} {k : Nat} (hk : k < 2 ^ 31) (hx : ¬ x < 0) : x < nI k ↔ inB x k = true := by
  have := ge_in hk hx
  constructor
  · intro z
    cases e : inB x k
    · have := this.2 e
      exact absurd z (Int32.not_lt.2 this)
    · rfl
  · intro z
    exact Int32.not_le.1 (fun w => by rw [this.1 w] at z; cases z)
theorem neg_in {x : Int32} {k : Nat} (hx : x < 0) : inB x k = false := by
  unfold inB; rw [decide_eq_true hx]; rfl
theorem m_isNode (hg : MG h y sz E) (hm : ML h y) (sd nd : Int32) : Ev G m_X6_isNode [.ref y, .int sd, .int nd] h 0 0 (Ret (some (.int (b2i (holdB sz sd nd)))) h) := by
  obtain ⟨g1, g2, g3, g4, g5, g6⟩ := hg
  refine Ev.of pn_X6_isNode (Nat.le_of_ble_eq_true rfl) ?_
  have fin : ∀ c : Bool, holdB sz sd nd = c → (fun v h' => Ret (some (.int (b2i (holdB sz sd nd)))) h v h' ∧ hN h' = hN h + 0 ∧ hS h' = hS h + 0) (some (.int (b2i c))) h := fun c e => by rw [e]; exact Zok
  have s0 : sd = 0 → holdB sz sd nd = inB nd (sz 0) := fun e => by rw [e]; exact hold0
  have s1 : sd = 1 → holdB sz sd nd = inB nd (sz 1) := fun e => by rw [e]; exact hold1
  have no01 : sd = 0 → sd = 1 → False := fun a b => by rw [a] at b; cases b
  refine s_X6_isNode_0 (fun z => ?_) (fun _ z1 z2 => ?_) hm.1 (fun z0 z1 z2 z3 => ?_) (fun z0 z1 z2 z3 => ?_) (fun z0 z1 z2 => ?_) (fun z0 z1 z2 _ => ?_) (fun z0 z1 z2 z3 _ => (no01 z1 z3).elim) (fun z0 z1 z2 z3 _ => (no01 z1 z3).elim)
  · exact fin false (by unfold holdB; rw [neg_in z, neg_in z]; simp)
  · exact fin false (by unfold holdB; rw [decide_eq_false z1, decide_eq_false z2]; rfl)
  · rw [g2, ge_in (by omega) z0] at z3
    exact fin false (by rw [s1 z2]; exact z3)
  · rw [g2, ge_in (by omega) z0] at z3
    exact fin true (by rw [s1 z2]; simpa using z3)
  · rw [g1, lt_in (by omega) z0] at z2
    exact fin true (by rw [s0 z1]; exact z2)
  · rw [g1, lt_in (by omega) z0] at z2
    exact fin false (by rw [s0 z1]; exact Bool.eq_false_iff.2 z2)
theorem r_node (hk : MOK h y sz E n U) (sd : Int32) : Ev G m_X6_node [.ref y, .int sd] h 0 0 (RI (RM2 h y (sNode sz sd) E n U (aNode sz sd))) := by
  obtain ⟨⟨hm, hg, h01, hfr⟩, hu⟩ := id hk
  obtain ⟨g1, g2, g3, g4, g5, g6⟩ := id hg
  refine Ev.of pn_X6_node (Nat.le_of_ble_eq_true rfl) ?_
  have no01 : sd = 1 → sd = 0 → False := fun b a => by rw [a] at b; cases b
  have f50 : ∀ k, k ≤ 50 → (nI k = 50 ↔ k = 50) := fun k hk' => by rw [show (50 : Int32) = nI 50 by decide]; exact nI_eq (by omega) (by decide)
  have full : (sd = 0 ∨ sd = 1) → sz (ct sd) = 50 → (fun v h' => RI (RM2 h y (sNode sz sd) E n U (aNode sz sd)) v h' ∧ hN h' = hN h + 0 ∧ hS h' = hS h + 0) (some (.int (-2))) h := by
    intro e1 e2
    have es : sNode sz sd = sz := if_neg (fun z => z.2 e2)
    rw [es]
    exact rm_fin (by unfold aNode; rw [if_pos e1, if_pos e2]) SO.rf hk
  have go : ∀ s, s < 2 → sd = nI s → sz s ≠ 50 → (sd = 0 ∨ sd = 1) → ct sd = s → (fun v h' => RI (RM2 h y (sNode sz sd) E n U (aNode sz sd)) v h' ∧ hN h' = hN h + 0 ∧ hS h' = hS h + 0) (some (.int ((hI (sI (sI h y 3 0) y s ((hI (sI h y 3 0) y s) + 1)) y s) - 1))) (sI (sI h y 3 0) y s ((hI (sI h y 3 0) y s) + 1)) := by
    intro s hs es e50' e01 ec
    have hsl : sz s ≤ 50 := by rcases (by omega : s = 0 ∨ s = 1) with z | z <;> subst z <;> assumption
    have v : hI (sI h y 3 0) y s = nI (sz s) := by
      rw [sI_nk (by omega)]
      rcases (by omega : s = 0 ∨ s = 1) with z | z
      · subst z; exact g1
      · subst z; exact g2
    have en : sNode sz sd = updN sz s (sz s + 1) := by
      unfold sNode; rw [ec, if_pos ⟨e01, e50'⟩]
    have eo : EO y [] [3, s] h (sI (sI h y 3 0) y s ((hI (sI h y 3 0) y s) + 1)) := (EO.s0 (List.mem_cons_self ..)).trans (EO.s0 (List.mem_cons_of_mem _ (List.mem_cons_self ..)))
    have i3 : hI (sI (sI h y 3 0) y s ((hI (sI h y 3 0) y s) + 1)) y 3 = 0 := by rw [sI_nk (by omega), sI_eq]
    have is : hI (sI (sI h y 3 0) y s ((hI (sI h y 3 0) y s) + 1)) y s = nI (sz s + 1) := by rw [sI_eq, v, nI_1]
    rw [is, nI_pred, en]
    have aN : nI (sz s) = aNode sz sd := by unfold aNode; rw [if_pos e01, ec, if_neg e50']
    have eo2 : EO y [] [0, 1, 3] h (sI (sI h y 3 0) y s ((hI (sI h y 3 0) y s) + 1)) := eo.wide (fun o ho => ho) (fun o ho => by
      rcases List.mem_cons.1 ho with z | z
      · subst z; decide
      · have : o = s := by simpa using z
        subst this
        rcases (by omega : o = 0 ∨ o = 1) with w | w <;> subst w <;> decide)
    refine rm_fin aN eo.so ⟨⟨hm.eo eo, ⟨?_, ?_, ?_, ?_, g5.eo eo rfl, ?_⟩, Or.inl i3, fun z => (z i3).elim⟩, hu.eo eo2 (by decide)⟩
    · rcases (by omega : s = 0 ∨ s = 1) with z | z
      · subst z; rw [is, updN_eq]
      · subst z; rw [updN_ne (by decide), sI_nk (by decide), sI_nk (by decide)]; exact g1
    · rcases (by omega : s = 0 ∨ s = 1) with z | z
      · subst z; rw [updN_ne (by decide), sI_nk (by decide), sI_nk (by decide)]; exact g2
      · subst z; rw [is, updN_eq]
    · rcases (by omega : s = 0 ∨ s = 1) with z | z
      · subst z; rw [updN_eq]; omega
      · subst z; rw [updN_ne (by decide)]; exact g3
    · rcases (by omega : s = 0 ∨ s = 1) with z | z
      · subst z; rw [updN_ne (by decide)]; exact g4
      · subst z; rw [updN_eq]; omega
    · intro l r e
      have := g6 l r e
      rcases (by omega : s = 0 ∨ s = 1) with z | z
      · subst z; rw [updN_eq, updN_ne (by decide)]; omega
      · subst z; rw [updN_eq, updN_ne (by decide)]; omega
  refine s_X6_node_0 hm.1 (fun z1 z2 => (z2 z1).elim) (fun z1 z2 => (z2 z1).elim) (fun z1 z2 => (z2 z1).elim) (fun z1 _ _ z2 => (z2 z1).elim) (fun z1 _ z2 _ => ?_) (fun z1 _ z2 => ?_) (fun z0 z1 _ z2 _ => ?_) (fun z0 _ _ _ z2 => (z0 z2).elim) (fun z0 z1 _ z2 => ?_) (fun z0 _ z2 => (z0 z2).elim) (fun z0 _ z2 => (z0 z2).elim) (fun z0 _ z2 => (z0 z2).elim) (fun z0 z1 => ?_)
  · rw [g1, f50 _ g3] at z2
    exact go 0 (by decide) z1 z2 (Or.inl z1) (by rw [z1]; rfl)
  · rw [g1, f50 _ g3] at z2
    exact full (Or.inl z1) (by rw [z1]; exact z2)
  · rw [g2, f50 _ g4] at z2
    exact go 1 (by decide) z1 z2 (Or.inr z1) (by rw [z1]; rfl)
  · rw [g2, f50 _ g4] at z2
    exact full (Or.inr z1) (by rw [z1]; exact z2)
  · have e : ¬ (sd = 0 ∨ sd = 1) := fun w => by rcases w with w | w; exact z0 w; exact z1 w
    have es : sNode sz sd = sz := if_neg (fun z => e z.1)
    rw [es]
    exact rm_fin (by unfold aNode; rw [if_neg e]) SO.rf hk
theorem jn_at {a b : Int32} (h0 : sz 0 ≤ 50) (h1 : sz 1 ≤ 50) (ha : inB a (sz 0) = true) (hb : inB b (sz 1) = true) : ∃ i j, i < sz 0 ∧ j < sz 1 ∧ a = nI i ∧ b = nI j ∧ ct a = i ∧ ct b = j := by
  obtain ⟨i, hi, ea⟩ := in_ex (by omega) ha
  obtain ⟨j, hj, eb⟩ := in_ex (by omega) hb
  exact ⟨i, j, hi, hj, ea, eb, by rw [ea]; exact ct_nI (by omega), by rw [eb]; exact ct_nI (by omega)⟩
theorem r_edge (hk : MOK h y sz E n U) (a b : Int32) (v : Bool) : Ev G m_X6_edge [.ref y, .int a, .int b, .int (b2i v)] h 0 0 (RI (RM2 h y sz (sEdge sz E a b v) n U (aEdge sz E a b v))) := by
  obtain ⟨⟨hm, hg, h01, hfr⟩, hu⟩ := id hk
  obtain ⟨g1, g2, g3, g4, g5, g6⟩ := id hg
  obtain ⟨r2, k2, l2⟩ := hm.r 2 1 4 2500 (by decide)
  have y0 := hm.2.1
  have b2inj : ∀ p q : Bool, b2i p = b2i q ↔ p = q := by decide
  refine Ev.of pn_X6_edge (Nat.le_of_ble_eq_true rfl) ?_
  have bad : (inB a (sz 0) && inB b (sz 1)) = false → (fun w h' => RI (RM2 h y sz (sEdge sz E a b v) n U (aEdge sz E a b v)) w h' ∧ hN h' = hN h + 0 ∧ hS h' = hS h + 0) (some (.int (-1))) h := by
    intro z
    have es : sEdge sz E a b v = E := by
      funext l r; unfold sEdge; rw [if_neg (fun q => by rw [z] at q; cases q.1)]
    rw [es]
    exact rm_fin (by unfold aEdge; rw [z]; rfl) SO.rf hk
  have pos : (¬ b2i (holdB sz 0 a) = 0) → (¬ b2i (holdB sz 1 b) = 0) → ∃ i j, i < sz 0 ∧ j < sz 1 ∧ a = nI i ∧ b = nI j ∧ ct a = i ∧ ct b = j ∧ (inB a (sz 0) && inB b (sz 1)) = true := by
    intro z1 z2
    rw [b2i_n, hold0] at z1
    rw [b2i_n, hold1] at z2
    obtain ⟨i, j, q1, q2, q3, q4, q5, q6⟩ := jn_at g3 g4 z1 z2
    exact ⟨i, j, q1, q2, q3, q4, q5, q6, by rw [z1, z2]; rfl⟩
  have idx : ∀ i j, i < sz 0 → j < sz 1 → a = nI i → b = nI j → Int32.toNatClampNeg ((50 * a) + b) = 50 * i + j ∧ vp_in ((50 * a) + b) 2500 := by
    intro i j hi hj ea eb
    rw [ea, eb, idx50 (by omega) (by omega)]
    exact ⟨nI_clamp (by omega), vp_in_nI (by omega) (by decide)⟩
  have mat : ∀ i j, i < sz 0 → j < sz 1 → a = nI i → b = nI j → ct a = i → ct b = j → (inB a (sz 0) && inB b (sz 1)) = true → MX5 (sI h (y + 1) (50 * i + j) (b2i v)) (y + 1) (sEdge sz E a b v) ∧ Rg (sz 0) (sz 1) (sEdge sz E a b v) := by
    intro i j hi hj ea eb ca cb eab
    refine ⟨fun l r hl hr => ?_, fun l r e => ?_⟩
    · unfold sEdge
      rw [ca, cb]
      by_cases q : l = i ∧ r = j
      · rw [if_pos ⟨eab, q⟩, q.1, q.2, sI_eq]
      · rw [if_neg (fun z => q z.2), sI_nk (by omega)]; exact g5 l r hl hr
    · unfold sEdge at e
      rw [ca, cb] at e
      by_cases q : l = i ∧ r = j
      · rw [q.1, q.2]; exact ⟨hi, hj⟩
      · rw [if_neg (fun z => q z.2)] at e; exact g6 l r e
  refine s_X6_edge_0 (x1 := b2i (holdB sz 0 a)) (x2 := b2i (holdB sz 1 b)) (m_isNode hg hm 0 a) hm.1 (fun z => ?_) (fun _ => m_isNode hg hm 1 b) (by rw [r2]; omega) (by rw [r2]; exact k2) (fun z1 z2 => ?_) (fun _ _ _ => b2i_01 v) (fun z1 z2 z3 z4 => ?_) (fun z1 z2 z3 z4 => ?_) (fun _ _ _ => b2i_01 v) (fun z1 z2 z3 _ => ?_) (fun z1 z2 z3 _ => ?_) (fun _ z => ?_)
  · rw [b2i_0, hold0] at z
    exact bad (by rw [z]; rfl)
  · obtain ⟨i, j, hi, hj, ea, eb, ca, cb, eab⟩ := pos z1 z2
    rw [r2, l2]; exact (idx i j hi hj ea eb).2
  · obtain ⟨i, j, hi, hj, ea, eb, ca, cb, eab⟩ := pos z1 z2
    obtain ⟨ci, _⟩ := idx i j hi hj ea eb
    rw [r2, ci, g5 i j (by omega) (by omega), b2inj] at z3
    rw [r2, ci, sI_ne (by omega)] at z4
    rw [r2, ci]
    have eo : EO y [1] [3] h (sI (sI h (y + 1) (50 * i + j) (b2i v)) y 3 0) := (EO.cI (by decide) (by decide) (by decide)).trans (EO.s0 (by decide))
    obtain ⟨m1, m2⟩ := mat i j hi hj ea eb ca cb eab
    have aE : (0 : Int32) = aEdge sz E a b v := by unfold aEdge; rw [eab, if_pos rfl, ca, cb, if_pos z3]
    exact rm_fin aE eo.so ⟨⟨hm.eo eo, ⟨(eo.f 0 (by decide)).trans g1, (eo.f 1 (by decide)).trans g2, g3, g4, fun l r hl hr => by rw [sI_ne (by omega)]; exact m1 l r hl hr, m2⟩, Or.inl sI_eq, fun w => (w sI_eq).elim⟩, hu.eo eo (by decide)⟩
  · obtain ⟨i, j, hi, hj, ea, eb, ca, cb, eab⟩ := pos z1 z2
    obtain ⟨ci, _⟩ := idx i j hi hj ea eb
    rw [r2, ci, g5 i j (by omega) (by omega), b2inj] at z3
    rw [r2, ci, sI_ne (by omega)] at z4
    rw [r2, ci]
    have es : sEdge sz E a b v = E := by
      funext l r; unfold sEdge
      rw [ca, cb]
      by_cases q : l = i ∧ r = j
      · rw [if_pos ⟨eab, q⟩, q.1, q.2, z3]
      · rw [if_neg (fun z => q z.2)]
    have aE : (0 : Int32) = aEdge sz E a b v := by unfold aEdge; rw [eab, if_pos rfl, ca, cb, if_pos z3]
    rw [es]
    -- nothing is changed: what is written is what was there
    have i3 : hI h y 3 = 1 := by rcases h01 with w | w; exact (z4 w).elim; exact w
    have same : ∀ b j', hI (sI (sI h (y + 1) (50 * i + j) (b2i v)) y 3 1) b j' = hI h b j' := by
      intro b j'
      rw [hI_sI, hI_sI]
      by_cases q : b = y ∧ j' = 3
      · rw [if_pos q, q.1, q.2, i3]
      · rw [if_neg q]
        by_cases q2 : b = y + 1 ∧ j' = 50 * i + j
        · rw [if_pos q2, q2.1, q2.2, g5 i j (by omega) (by omega), z3]
        · rw [if_neg q2]
    have eo : EO y [] [] h (sI (sI h (y + 1) (50 * i + j) (b2i v)) y 3 1) := ⟨rfl, rfl, rfl, rfl, rfl, fun b _ => ⟨same b, fun _ => rfl⟩, fun o _ _ _ => ⟨same _, fun _ => rfl⟩, fun j' _ => ⟨same _ _, rfl⟩⟩
    exact rm_fin aE eo.so ⟨hk.1.eo eo (by decide), hk.2.eo eo (by decide)⟩
  · obtain ⟨i, j, hi, hj, ea, eb, ca, cb, eab⟩ := pos z1 z2
    obtain ⟨ci, _⟩ := idx i j hi hj ea eb
    rw [r2, ci, g5 i j (by omega) (by omega), b2inj] at z3
    rw [r2, ci]
    have eo : EO y [1] [3] h (sI (sI h (y + 1) (50 * i + j) (b2i v)) y 3 0) := (EO.cI (by decide) (by decide) (by decide)).trans (EO.s0 (by decide))
    obtain ⟨m1, m2⟩ := mat i j hi hj ea eb ca cb eab
    have aE : (1 : Int32) = aEdge sz E a b v := by unfold aEdge; rw [eab, if_pos rfl, ca, cb, if_neg z3]
    exact rm_fin aE eo.so ⟨⟨hm.eo eo, ⟨(eo.f 0 (by decide)).trans g1, (eo.f 1 (by decide)).trans g2, g3, g4, fun l r hl hr => by rw [sI_ne (by omega)]; exact m1 l r hl hr, m2⟩, Or.inl sI_eq, fun w => (w sI_eq).elim⟩, hu.eo eo (by decide)⟩
  · obtain ⟨i, j, hi, hj, ea, eb, ca, cb, eab⟩ := pos z1 z2
    obtain ⟨ci, _⟩ := idx i j hi hj ea eb
    rw [r2, ci, g5 i j (by omega) (by omega), b2inj] at z3
    rw [r2, ci]
    have eo : EO y [1] [3] h (sI (sI h (y + 1) (50 * i + j) (b2i v)) y 3 0) := (EO.cI (by decide) (by decide) (by decide)).trans (EO.s0 (by decide))
    obtain ⟨m1, m2⟩ := mat i j hi hj ea eb ca cb eab
    have aE : (1 : Int32) = aEdge sz E a b v := by unfold aEdge; rw [eab, if_pos rfl, ca, cb, if_neg z3]
    exact rm_fin aE eo.so ⟨⟨hm.eo eo, ⟨(eo.f 0 (by decide)).trans g1, (eo.f 1 (by decide)).trans g2, g3, g4, fun l r hl hr => by rw [sI_ne (by omega)]; exact m1 l r hl hr, m2⟩, Or.inl sI_eq, fun w => (w sI_eq).elim⟩, hu.eo eo (by decide)⟩
  · rw [b2i_0, hold1] at z
    exact bad (by rw [z, Bool.and_false])
theorem m_has (hg : MG h y sz E) (hm : ML h y) (a b : Int32) : Ev G m_X6_has [.ref y, .int a, .int b] h 0 0 (Ret (some (.int (aHas sz E a b))) h) := by
  obtain ⟨g1, g2, g3, g4, g5, g6⟩ := id hg
  obtain ⟨r2, k2, l2⟩ := hm.r 2 1 4 2500 (by decide)
  have y0 := hm.2.1
  refine Ev.of pn_X6_has (Nat.le_of_ble_eq_true rfl) ?_
  have fin : ∀ c : Bool, jn sz E a b = c → (fun v h' => Ret (some (.int (aHas sz E a b))) h v h' ∧ hN h' = hN h + 0 ∧ hS h' = hS h + 0) (some (.int (b2i c))) h := fun c e => by
    have : aHas sz E a b = b2i c := by unfold aHas; rw [e]
    rw [this]; exact Zok
  have pos : (¬ b2i (holdB sz 0 a) = 0) → (¬ b2i (holdB sz 1 b) = 0) → ∃ i j, i < sz 0 ∧ j < sz 1 ∧ Int32.toNatClampNeg ((50 * a) + b) = 50 * i + j ∧ vp_in ((50 * a) + b) 2500 ∧ jn sz E a b = E i j := by
    intro z1 z2
    rw [b2i_n, hold0] at z1
    rw [b2i_n, hold1] at z2
    obtain ⟨i, j, q1, q2, q3, q4, q5, q6⟩ := jn_at g3 g4 z1 z2
    refine ⟨i, j, q1, q2, ?_, ?_, ?_⟩
    · rw [q3, q4, idx50 (by omega) (by omega)]; exact nI_clamp (by omega)
    · rw [q3, q4, idx50 (by omega) (by omega)]; exact vp_in_nI (by omega) (by decide)
    · unfold jn; rw [z1, z2, q5, q6]; rfl
  refine s_X6_has_0 (x1 := b2i (holdB sz 0 a)) (x2 := b2i (holdB sz 1 b)) (m_isNode hg hm 0 a) hm.1 (fun z => ?_) (fun _ => m_isNode hg hm 1 b) (fun _ z => ?_) (by rw [r2]; omega) (by rw [r2]; exact k2) (fun z1 z2 => ?_) (fun z1 z2 z3 => ?_) (fun z1 z2 z3 => ?_)
  · rw [b2i_0, hold0] at z
    exact fin false (by unfold jn; rw [z]; rfl)
  · rw [b2i_0, hold1] at z
    exact fin false (by unfold jn; rw [z]; simp)
  · obtain ⟨i, j, _, _, _, q, _⟩ := pos z1 z2
    rw [r2, l2]; exact q
  · obtain ⟨i, j, q1, q2, q3, q4, q5⟩ := pos z1 z2
    rw [r2, q3, g5 i j (by omega) (by omega), b2i_0] at z3
    exact fin false (by rw [q5]; exact z3)
  · obtain ⟨i, j, q1, q2, q3, q4, q5⟩ := pos z1 z2
    rw [r2, q3, g5 i j (by omega) (by omega), b2i_n] at z3
    exact fin true (by rw [q5]; exact z3)
