variable {G : GG} {h h' : PH} {y n : Nat} {U : Nat → Nat → Bool}
def MU (h : PH) (y n : Nat) (U : Nat → Nat → Bool) : Prop := hI h y 17 = nI n ∧ n ≤ 40 ∧ MX5 h (y + 11) U ∧ Rg n n U ∧ SPO U
theorem MU.eo {S D : List Nat} (hu : MU h y n U) (eo : EO y S D h h') (h1 : 11 ∉ S) (h2 : 17 ∉ D) : MU h' y n U := ⟨(eo.f 17 h2).trans hu.1, hu.2.1, fun l r hl hr => ((eo.2.2.2.2.2.2.1 11 (by decide) (by decide) h1).1 _).trans (hu.2.2.1 l r hl hr), hu.2.2.2⟩
theorem EQ.congr {m : Nat} {op op' : Nat → Nat → Bool} (hq : EQ h y n m op) (h0 : ∀ i, op 0 i = op' 0 i) (h1 : ∀ i, op 1 i = op' 1 i) : EQ h y n m op' := by
  obtain ⟨q1, q2, q3⟩ := hq
  exact ⟨fun i hi => by rw [← h0 i, ← h1 i]; exact q1 i hi, fun i hi => q2 i (by rw [h0 i]; exact hi), fun i hi => q3 i (by rw [h1 i]; exact hi)⟩
/-- all but those that the first j things of the order shut out -/
def opJ (n : Nat) (U : Nat → Nat → Bool) (t j : Nat) : Nat → Nat → Bool := fun _ i => decide (i < n) && (bes n U t i || decide (j ≤ i))
theorem opJ_end {t s i : Nat} : opJ n U t n s i = bes n U t i := by
  unfold opJ
  by_cases q : i < n
  · rw [decide_eq_true q, decide_eq_false (by omega)]; simp
  · rw [decide_eq_false q]
    cases e : bes n U t i
    · rfl
    · exact (q (bes_iff.1 e).1).elim
theorem opJ_keep {t j s i : Nat} (hb : bes n U t j = true) : opJ n U t (j + 1) s i = opJ n U t j s i := by
  unfold opJ
  by_cases e : i = j
  · subst e; rw [hb]; simp
  · have : decide (j + 1 ≤ i) = decide (j ≤ i) := by
      by_cases q : j ≤ i
      · rw [decide_eq_true q, decide_eq_true (by omega)]
      · rw [decide_eq_false q, decide_eq_false (by omega)]
    rw [this]
theorem opJ_shut {t j i s : Nat} (hs : s < 2) (hb : bes n U t j = false) : cl (cl (opJ n U t j) 0 j) 1 j s i = opJ n U t (j + 1) s i := by
  by_cases e : i = j
  · subst e
    have : opJ n U t (i + 1) s i = false := by
      unfold opJ; rw [hb, decide_eq_false (show ¬ i + 1 ≤ i by omega)]; simp
    rw [this]
    rcases (by omega : s = 0 ∨ s = 1) with z | z
    · subst z; rw [cl_ne (fun w => absurd w.1 (by decide)), cl_self]
    · subst z; rw [cl_self]
  · rw [cl_ne (fun w => e w.2), cl_ne (fun w => e w.2)]
    unfold opJ
    have : decide (j + 1 ≤ i) = decide (j ≤ i) := by
      by_cases q : j ≤ i
      · rw [decide_eq_true q, decide_eq_true (by omega)]
      · rw [decide_eq_false q, decide_eq_false (by omega)]
    rw [this]
theorem nI_m1 (k : Nat) : nI (k + 1) + (-1) = nI k := by rw [nI_succ]; grind
theorem m_width0 (hm : ML h y) (hu : MU h y n U) : Ev G m_X6_widthBeside [.ref y, .int (-1)] h 0 0 (RI (fun x h1 => EO y [18, 19, 20, 21, 22, 25, 26] [28, 29, 38] h h1 ∧ ∃ mt, EG h1 y n n U mt (opAll (sz2 n n)) ∧ Great n U (mt 0) (mt 1) ∧ x = nI n - nI (siz n (mt 0)))) := by
  obtain ⟨u1, u2, u3, u4, u5⟩ := id hu
  obtain ⟨r18, k18, l18⟩ := hm.r 18 11 4 2500 (by decide)
  obtain ⟨r30, k30, l30⟩ := hm.r 30 19 4 50 (by decide)
  obtain ⟨r31, k31, l31⟩ := hm.r 31 20 4 50 (by decide)
  have y0 := hm.2.1
  refine Ev.of pn_X6_widthBeside (Nat.le_of_ble_eq_true rfl) ?_
  refine s_X6_widthBeside_0 hm.1 (by rw [r18]; omega) (by rw [r18, u1]; exact m_use hm (Or.inr rfl) (by omega) (by omega) u3 u4) (fun h1 q _ _ => ?_)
  obtain ⟨eo1, eg1⟩ := q
  obtain ⟨o1, o2, o3, -⟩ := id eo1
  refine s_X6_widthBeside_16 eg1.1.1 ?_
  have e17 : hI h1 y 17 = nI n := (eo1.f 17 (by decide)).trans u1
  have ev := m_growAll (G := G) eg1 isM_none (fun l b z => by cases z)
  have go : ∀ x h2, (EO y [21, 22, 25, 26] [38] h1 h2 ∧ ∃ mt' k, EM h2 y mt' ∧ IsM U (mt' 0) (mt' 1) ∧ (∀ l b, mt' 0 l = some b → opAll (sz2 n n) 0 l = opAll (sz2 n n) 1 b) ∧ Cert U mt' (opAll (sz2 n n)) ∧ (∀ s i, s < 2 → opAll (sz2 n n) s i = false → mt' s i = (fun _ _ => none : Nat → Nat → Option Nat) s i) ∧ siz n (mt' 0) = siz n ((fun _ _ => none : Nat → Nat → Option Nat) 0) + k ∧ x = nI k) →
      RR G (hN h + 0) (hS h + 0) m_X6_widthBeside 96 [some (.ref y), some (.int (-1)), some (.int (hI h1 y 17)), some (.int 0)] [.int x, .int (hI h1 y 17)] h2 (fun v h' => RI (fun x h1 => EO y [18, 19, 20, 21, 22, 25, 26] [28, 29, 38] h h1 ∧ ∃ mt, EG h1 y n n U mt (opAll (sz2 n n)) ∧ Great n U (mt 0) (mt 1) ∧ x = nI n - nI (siz n (mt 0))) v h' ∧ hN h' = hN h + 0 ∧ hS h' = hS h + 0) := by
    intro x h2 q
    obtain ⟨eo2, mt, k, p1, p2, p3, p4, p5, p6, p7⟩ := q
    rw [show siz n ((fun _ _ => none : Nat → Nat → Option Nat) 0) = 0 from siz_none] at p6
    have eo3 : EO y [18, 19, 20, 21, 22, 25, 26] [28, 29, 38] h h2 := (eo1.wide (by decide) (by decide)).trans (eo2.wide (by decide) (by decide))
    refine s_X6_widthBeside_96 ⟨⟨_, rfl, eo3, mt, eg1.grow eo2 p1 (by decide) (by decide) (by decide) (by decide) (by decide), cert_all (sz := sz2 n n) u4 p2 p4, ?_⟩, eo3.2.2.2.1, eo3.2.2.2.2.1⟩
    rw [e17, p7, p6, Nat.zero_add]
  have ng : ¬ ((-1 : Int32) < 0) → False := fun z => z (by decide)
  exact s_X6_widthBeside_23 eg1.1.1 (fun _ => ev) (fun _ x h2 q _ _ => go x h2 q) (fun _ _ => ev) (fun _ _ x h2 q _ _ => go x h2 q) (by rw [o3, r30]; omega) (by rw [o1, o3, r30]; exact k30) (fun _ z => (ng z).elim) (by rw [o3, r31]; omega) (by rw [o1, o3, r31]; exact k31) (fun _ z => (ng z).elim) (fun _ z => (ng z).elim) (by rw [o3, r18]; omega) (by rw [o1, o3, r18]; exact k18) (fun _ z => (ng z).elim) (fun _ z => (ng z).elim) (fun _ z => (ng z).elim) (fun _ z => (ng z).elim) (fun _ z => (ng z).elim) (fun _ z => (ng z).elim) (fun _ z => (ng z).elim) (fun _ z => (ng z).elim) (fun _ z => (ng z).elim)
theorem m_widthT {t : Nat} (hm : ML h y) (hu : MU h y n U) (ht : t < n) : Ev G m_X6_widthBeside [.ref y, .int (nI t)] h 0 0 (RI (fun x h1 => EO y [18, 19, 20, 21, 22, 25, 26] [28, 29, 38] h h1 ∧ ∃ g g', Great n (rsU U (bes n U t)) g g' ∧ x = nI (cnt n (bes n U t)) - nI (siz n g))) := by
  obtain ⟨u1, u2, u3, u4, u5⟩ := id hu
  obtain ⟨r18, k18, l18⟩ := hm.r 18 11 4 2500 (by decide)
  obtain ⟨r30, k30, l30⟩ := hm.r 30 19 4 50 (by decide)
  obtain ⟨r31, k31, l31⟩ := hm.r 31 20 4 50 (by decide)
  have y0 := hm.2.1
  refine Ev.of pn_X6_widthBeside (Nat.le_of_ble_eq_true rfl) ?_
  refine s_X6_widthBeside_0 hm.1 (by rw [r18]; omega) (by rw [r18, u1]; exact m_use hm (Or.inr rfl) (by omega) (by omega) u3 u4) (fun h1 q _ _ => ?_)
  obtain ⟨eo1, eg1⟩ := q
  refine s_X6_widthBeside_16 eg1.1.1 ?_
  have e17 : hI h1 y 17 = nI n := (eo1.f 17 (by decide)).trans u1
  have cT : Int32.toNatClampNeg (nI t) = t := nI_clamp (by omega)
  have pt : ¬ nI t < 0 := nI_pos (by omega)
  have loop : ∀ d j h2, j + d = n → EO y [19, 20] [] h1 h2 → EQ h2 y n n (opJ n U t j) → RR G (hN h + 0) (hS h + 0) m_X6_widthBeside 23 [some (.ref y), some (.int (nI t)), some (.int (nI (n - cnt j (fun x => !bes n U t x)))), some (.int (nI j))] [] h2 (fun v h' => RI (fun x h1 => EO y [18, 19, 20, 21, 22, 25, 26] [28, 29, 38] h h1 ∧ ∃ g g', Great n (rsU U (bes n U t)) g g' ∧ x = nI (cnt n (bes n U t)) - nI (siz n g)) v h' ∧ hN h' = hN h + 0 ∧ hS h' = hS h + 0) := by
    intro d
    induction d with
    | zero =>
      intro j h2 e eo2 eq2
      have e : j = n := by omega
      subst e
      have eoA : EO y [18, 19, 20, 21, 22] [28, 29] h h2 := eo1.trans (eo2.wide (by decide) (by decide))
      obtain ⟨o1, o2, o3, -⟩ := id eoA
      have en : hI h2 y 17 = nI j := (eo2.f 17 (by decide)).trans e17
      have no : ¬ hI h2 y 17 ≤ nI j → False := fun z => z (by rw [en]; exact nI_le (Nat.le_refl _) (by omega))
      have eq3 : EQ h2 y j j (fun _ => bes j U t) := eq2.congr (fun i => opJ_end) (fun i => opJ_end)
      have eg2 : EG h2 y j j U (fun _ _ => none) (fun _ => bes j U t) := ⟨eg1.1.eo eo2, eg1.2.1.eo eo2 (by decide) (by decide), eg1.2.2.1.eo eo2 (by decide), eq3, eg1.2.2.2.2.eo eo2 (by decide) (by decide)⟩
      refine s_X6_widthBeside_23 (P2 := fun _ _ => True) eg2.1.1 (fun _ => m_growAll eg2 isM_none (fun l b z => by cases z)) (fun _ x h3 q _ _ => ?_) (fun z => (no z).elim) (fun z => (no z).elim) (by rw [o3, r30]; omega) (by rw [o1, o3, r30]; exact k30) (fun z => (no z).elim) (by rw [o3, r31]; omega) (by rw [o1, o3, r31]; exact k31) (fun z => (no z).elim) (fun z => (no z).elim) (by rw [o3, r18]; omega) (by rw [o1, o3, r18]; exact k18) (fun z => (no z).elim) (fun z => (no z).elim) (fun z => (no z).elim) (fun z => (no z).elim) (fun z => (no z).elim) (fun z => (no z).elim) (fun z => (no z).elim) (fun z => (no z).elim) (fun z => (no z).elim)
      obtain ⟨eo3, mt, k, p1, p2, p3, p4, p5, p6, p7⟩ := q
      rw [show siz j ((fun _ _ => none : Nat → Nat → Option Nat) 0) = 0 from siz_none] at p6
      have eo4 : EO y [18, 19, 20, 21, 22, 25, 26] [28, 29, 38] h h3 := (eoA.wide (by decide) (by decide)).trans (eo3.wide (by decide) (by decide))
      have hgr := cert_great (n := j) (k := j) u4 p2 p3 p4
      have eF : opF mt (fun _ => bes j U t) 0 = mt 0 := by
        funext i
        show (if bes j U t i = true then mt 0 i else none) = mt 0 i
        by_cases q : bes j U t i = true
        · rw [if_pos q]
        · rw [if_neg q, p5 0 i (by decide) (Bool.eq_false_iff.2 q)]
      refine s_X6_widthBeside_96 ⟨⟨_, rfl, eo4, _, _, hgr, ?_⟩, eo4.2.2.2.1, eo4.2.2.2.2.1⟩
      rw [eF, p7, p6, Nat.zero_add]
      have := cnt_not (n := j) (bes j U t)
      rw [show j - cnt j (fun x => !bes j U t x) = cnt j (bes j U t) by omega]
    | succ d ih =>
      intro j h2 e eo2 eq2
      have hj : j < n := by omega
      have eoA : EO y [18, 19, 20, 21, 22] [28, 29] h h2 := eo1.trans (eo2.wide (by decide) (by decide))
      obtain ⟨o1, o2, o3, -⟩ := id eoA
      have en : hI h2 y 17 = nI n := (eo2.f 17 (by decide)).trans e17
      have no : hI h2 y 17 ≤ nI j → False := fun z => absurd z (by rw [en]; exact nI_ge hj (by omega))
      have cj : Int32.toNatClampNeg (nI j) = j := nI_clamp (by omega)
      have vpj : vp_in (nI j) 50 := vp_in_nI (by omega) (by decide)
      have e30 : hR h2 y 30 = y + 19 := by rw [o3]; exact r30
      have e31 : hR h2 y 31 = y + 20 := by rw [o3]; exact r31
      have e18 : hR h2 y 18 = y + 11 := by rw [o3]; exact r18
      have v30 : vp_in (nI j) (hL h2 (hR h2 y 30)) := by rw [o2, e30, l30]; exact vpj
      have v31 : vp_in (nI j) (hL h2 (hR h2 y 31)) := by rw [o2, e31, l31]; exact vpj
      have i1 : (50 : Int32) * nI j + nI t = nI (50 * j + t) := idx50 (by omega) (by omega)
      have i2 : (50 : Int32) * nI t + nI j = nI (50 * t + j) := idx50 (by omega) (by omega)
      have c1 : Int32.toNatClampNeg (nI (50 * j + t)) = 50 * j + t := nI_clamp (by omega)
      have c2 : Int32.toNatClampNeg (nI (50 * t + j)) = 50 * t + j := nI_clamp (by omega)
      have w1 : hI h2 (y + 11) (50 * j + t) = b2i (U j t) := (eoA.i 11 rfl _).trans (u3 j t (by omega) (by omega))
      have w2 : hI h2 (y + 11) (50 * t + j) = b2i (U t j) := (eoA.i 11 rfl _).trans (u3 t j (by omega) (by omega))
      have cle : cnt j (fun x => !bes n U t x) ≤ j := cnt_le _ _
      have out : bes n U t j = false → RR G (hN h + 0) (hS h + 0) m_X6_widthBeside 23 [some (.ref y), some (.int (nI t)), some (.int (nI (n - cnt j (fun x => !bes n U t x)) + (-1))), some (.int (nI j + 1))] [] (sI (sI h2 (hR h2 y 30) (Int32.toNatClampNeg (nI j)) 1) (hR h2 y 31) (Int32.toNatClampNeg (nI j)) 1) (fun v h' => RI (fun x h1 => EO y [18, 19, 20, 21, 22, 25, 26] [28, 29, 38] h h1 ∧ ∃ g g', Great n (rsU U (bes n U t)) g g' ∧ x = nI (cnt n (bes n U t)) - nI (siz n g)) v h' ∧ hN h' = hN h + 0 ∧ hS h' = hS h + 0) := by
        intro hb
        rw [e30, e31, cj, nI_1]
        have cs : cnt (j + 1) (fun x => !bes n U t x) = cnt j (fun x => !bes n U t x) + 1 := by rw [cnt_s, hb]; rfl
        rw [show n - cnt j (fun x => !bes n U t x) = (n - cnt (j + 1) (fun x => !bes n U t x)) + 1 by omega, nI_m1]
        exact ih (j + 1) _ (by omega) (eo2.trans ((EO.cI (by decide) (by decide) (by decide)).trans (EO.cI (by decide) (by decide) (by decide)))) (((eq2.shut (s := 0) (i := j) (by decide) (by omega)).shut (s := 1) (i := j) (by decide) (by omega)).congr (fun i => opJ_shut (by decide) hb) (fun i => opJ_shut (by decide) hb))
      refine s_X6_widthBeside_23 (P1 := fun _ _ => True) (P2 := fun _ _ => True) (by rw [o1]; exact hm.1) (fun z => (no z).elim) (fun z => (no z).elim) (fun _ z => (pt z).elim) (fun _ z => (pt z).elim) (by rw [e30]; omega) (by rw [o1, e30]; exact k30) (fun _ _ _ => v30) (by rw [e31]; omega) (by rw [o1, e31]; exact k31) (fun _ _ _ => v31) (fun _ _ z => out ?_) (by rw [e18]; omega) (by rw [o1, e18]; exact k18) (fun _ _ _ => by rw [o2, e18, l18, i1]; exact vp_in_nI (by omega) (by decide)) (fun _ _ _ _ => v30) (fun _ _ _ _ => v31) (fun _ _ _ z => out ?_) (fun _ _ _ _ => by rw [o2, e18, l18, i2]; exact vp_in_nI (by omega) (by decide)) (fun _ _ z1 z2 z3 => ?_) (fun _ _ _ _ _ => v30) (fun _ _ _ _ _ => v31) (fun _ _ _ _ z => out ?_)
      · have : j = t := (nI_eq (by omega) (by omega)).1 z
        cases e : bes n U t j
        · rfl
        · exact ((bes_iff.1 e).2.1 this).elim
      · rw [e18, i1, c1, w1, b2i_n] at z
        cases e : bes n U t j
        · rfl
        · rw [(bes_iff.1 e).2.2.1] at z; cases z
      · rw [e18, i1, c1, w1, b2i_0] at z2
        rw [e18, i2, c2, w2, b2i_0] at z3
        have hb : bes n U t j = true := bes_iff.2 ⟨hj, fun e => z1 (by rw [e]), z2, z3⟩
        have cs : cnt (j + 1) (fun x => !bes n U t x) = cnt j (fun x => !bes n U t x) := by rw [cnt_s, hb]; rfl
        rw [nI_1, ← cs]
        exact ih (j + 1) h2 (by omega) eo2 (eq2.congr (fun i => (opJ_keep hb).symm) (fun i => (opJ_keep hb).symm))
      · rw [e18, i2, c2, w2, b2i_n] at z
        cases e : bes n U t j
        · rfl
        · rw [(bes_iff.1 e).2.2.2] at z; cases z
  rw [e17, ← nI_0]
  refine loop n 0 h1 (by omega) EO.rf (eg1.2.2.2.1.congr (fun i => ?_) (fun i => ?_))
  · show decide (i < n) = (decide (i < n) && (bes n U t i || decide (0 ≤ i)))
    rw [decide_eq_true (Nat.zero_le i)]; simp
  · show decide (i < n) = (decide (i < n) && (bes n U t i || decide (0 ≤ i)))
    rw [decide_eq_true (Nat.zero_le i)]; simp
theorem updN_eq {f : Nat → Nat} {k v : Nat} : updN f k v k = v := if_pos rfl
theorem updN_ne {f : Nat → Nat} {k v j : Nat} (h : j ≠ k) : updN f k v j = f j := if_neg h
/-- levels by going up the pairs again and again -/
def LVL (h1 : PH) (y n : Nat) (U : Nat → Nat → Bool) (v : Nat → Nat) (ro : Nat) : Prop := (∀ t, t < n → hI h1 (y + 14) t = nI (v t)) ∧ (∀ t, t < n → v t ≤ lev n U t) ∧ ∀ t, t < n → min (lev n U t) ro ≤ v t
theorem m_levels (hm : ML h y) (hu : MU h y n U) : Ev G m_X6_levels [.ref y] h 0 0 (RV (fun h1 => EO y [14] [] h h1 ∧ ∀ t, t < n → hI h1 (y + 14) t = nI (lev n U t))) := by
  obtain ⟨u1, u2, u3, u4, u5⟩ := id hu
  obtain ⟨r18, k18, l18⟩ := hm.r 18 11 4 2500 (by decide)
  obtain ⟨r23, k23, l23⟩ := hm.r 23 14 2 40 (by decide)
  have y0 := hm.2.1
  refine Ev.of pn_X6_levels (Nat.le_of_ble_eq_true rfl) ?_
  refine s_X6_levels_0 ?_
  have lv : ∀ t, t < n → lev n U t < n := fun t ht => lev_lt u5 ht
  have rounds : ∀ d ro v h1, ro + d = n → EO y [14] [] h h1 → LVL h1 y n U v ro → RR G (hN h + 0) (hS h + 0) m_X6_levels 25 [some (.ref y), some (.int (nI ro)), none, none] [] h1 (fun v h' => RV (fun h1 => EO y [14] [] h h1 ∧ ∀ t, t < n → hI h1 (y + 14) t = nI (lev n U t)) v h' ∧ hN h' = hN h + 0 ∧ hS h' = hS h + 0) := by
    intro d
    induction d with
    | zero =>
      intro ro v h1 e eo hl
      have e : ro = n := by omega
      subst e
      obtain ⟨o1, o2, o3, -⟩ := id eo
      have en : hI h1 y 17 = nI ro := (eo.f 17 (by decide)).trans u1
      refine s_X6_levels_25 (by rw [o1]; exact hm.1) (fun _ => ⟨⟨rfl, eo, fun t ht => ?_⟩, eo.2.2.2.1, eo.2.2.2.2.1⟩) (fun z => (z (by rw [en]; exact nI_le (Nat.le_refl _) (by omega))).elim)
      rw [hl.1 t ht]
      have h1' := hl.2.1 t ht
      have h2' := hl.2.2 t ht
      have h3' := lv t ht
      congr 1
      omega
    | succ d ih =>
      intro ro v h1 e eo hl
      obtain ⟨o1, o2, o3, -⟩ := id eo
      have en : hI h1 y 17 = nI n := (eo.f 17 (by decide)).trans u1
      refine s_X6_levels_25 (by rw [o1]; exact hm.1) (fun z => absurd z (by rw [en]; exact nI_ge (by omega) (by omega))) (fun _ => ?_)
      rw [← nI_0]
      have rows : ∀ d a v h2, a + d = n → EO y [14] [] h h2 → LVL h2 y n U v ro → (∀ x z, x < a → U x z = true → min (lev n U x) ro + 1 ≤ v z) → RR G (hN h + 0) (hS h + 0) m_X6_levels 35 [some (.ref y), some (.int (nI ro)), some (.int (nI a)), none] [] h2 (fun v h' => RV (fun h1 => EO y [14] [] h h1 ∧ ∀ t, t < n → hI h1 (y + 14) t = nI (lev n U t)) v h' ∧ hN h' = hN h + 0 ∧ hS h' = hS h + 0) := by
        intro d
        induction d with
        | zero =>
          intro a v h2 e2 eo2 hl2 hp
          have e2 : a = n := by omega
          subst e2
          obtain ⟨p1, p2, p3, -⟩ := id eo2
          have en2 : hI h2 y 17 = nI a := (eo2.f 17 (by decide)).trans u1
          refine s_X6_levels_35 (by rw [p1]; exact hm.1) (fun _ => ?_) (fun z => (z (by rw [en2]; exact nI_le (Nat.le_refl _) (by omega))).elim)
          rw [nI_1]
          refine ih (ro + 1) v h2 (by omega) eo2 ⟨hl2.1, hl2.2.1, fun t ht => ?_⟩
          cases ek : lev a U t with
          | zero => omega
          | succ k =>
            obtain ⟨x, hx, hxt, hxk⟩ := lev_pred u5 u4 ht ek
            have := hp x t hx hxt
            rw [hxk] at this
            omega
        | succ d ih2 =>
          intro a v h2 e2 eo2 hl2 hp
          have ha : a < n := by omega
          obtain ⟨p1, p2, p3, -⟩ := id eo2
          have en2 : hI h2 y 17 = nI n := (eo2.f 17 (by decide)).trans u1
          refine s_X6_levels_35 (by rw [p1]; exact hm.1) (fun z => absurd z (by rw [en2]; exact nI_ge ha (by omega))) (fun _ => ?_)
          rw [← nI_0]
          have cols : ∀ d b v h3, b + d = n → EO y [14] [] h h3 → LVL h3 y n U v ro → (∀ x z, x < a ∨ (x = a ∧ z < b) → U x z = true → min (lev n U x) ro + 1 ≤ v z) → RR G (hN h + 0) (hS h + 0) m_X6_levels 45 [some (.ref y), some (.int (nI ro)), some (.int (nI a)), some (.int (nI b))] [] h3 (fun v h' => RV (fun h1 => EO y [14] [] h h1 ∧ ∀ t, t < n → hI h1 (y + 14) t = nI (lev n U t)) v h' ∧ hN h' = hN h + 0 ∧ hS h' = hS h + 0) := by
            intro d
            induction d with
            | zero =>
              intro b v h3 e3 eo3 hl3 hp3
              have e3 : b = n := by omega
              subst e3
              obtain ⟨t1, t2, t3, -⟩ := id eo3
              have en3 : hI h3 y 17 = nI b := (eo3.f 17 (by decide)).trans u1
              have no : ¬ hI h3 y 17 ≤ nI b → False := fun z => z (by rw [en3]; exact nI_le (Nat.le_refl _) (by omega))
              refine s_X6_levels_45 (by rw [t1]; exact hm.1) (fun _ => ?_) (by rw [t3, r18]; omega) (by rw [t1, t3, r18]; exact k18) (fun z => (no z).elim) (fun z => (no z).elim) (by rw [t3, r23]; omega) (by rw [t1, t3, r23]; exact k23) (fun z => (no z).elim) (fun z => (no z).elim) (fun z => (no z).elim) (fun z => (no z).elim)
              rw [nI_1]
              refine ih2 (a + 1) v h3 (by omega) eo3 hl3 (fun x z hx hxz => hp3 x z ?_ hxz)
              have := (u4 _ _ hxz).2
              omega
            | succ d ih3 =>
              intro b v h3 e3 eo3 hl3 hp3
              have hb : b < n := by omega
              obtain ⟨t1, t2, t3, -⟩ := id eo3
              have en3 : hI h3 y 17 = nI n := (eo3.f 17 (by decide)).trans u1
              have e18 : hR h3 y 18 = y + 11 := by rw [t3]; exact r18
              have e23 : hR h3 y 23 = y + 14 := by rw [t3]; exact r23
              have i1 : (50 : Int32) * nI a + nI b = nI (50 * a + b) := idx50 (by omega) (by omega)
              have c1 : Int32.toNatClampNeg (nI (50 * a + b)) = 50 * a + b := nI_clamp (by omega)
              have ca : Int32.toNatClampNeg (nI a) = a := nI_clamp (by omega)
              have cb : Int32.toNatClampNeg (nI b) = b := nI_clamp (by omega)
              have w1 : hI h3 (y + 11) (50 * a + b) = b2i (U a b) := (eo3.i 11 rfl _).trans (u3 a b (by omega) (by omega))
              have la := hl3.2.1 a ha
              have lb := hl3.2.1 b hb
              have la' := lv a ha
              have lb' := lv b hb
              refine s_X6_levels_45 (by rw [t1]; exact hm.1) (fun z => absurd z (by rw [en3]; exact nI_ge hb (by omega))) (by rw [e18]; omega) (by rw [t1, e18]; exact k18) (fun _ => by rw [t2, e18, l18, i1]; exact vp_in_nI (by omega) (by decide)) (fun _ z => ?_) (by rw [e23]; omega) (by rw [t1, e23]; exact k23) (fun _ _ => by rw [t2, e23, l23]; exact vp_in_nI (by omega) (by decide)) (fun _ _ => by rw [t2, e23, l23]; exact vp_in_nI (by omega) (by decide)) (fun _ z1 z2 => ?_) (fun _ z1 z2 => ?_)
              · rw [e18, i1, c1, w1, b2i_0] at z
                rw [nI_1]
                refine ih3 (b + 1) v h3 (by omega) eo3 hl3 (fun x w hx hxw => ?_)
                by_cases q : x = a ∧ w = b
                · rw [q.1, q.2, z] at hxw; cases hxw
                · exact hp3 x w (by omega) hxw
              · rw [e18, i1, c1, w1, b2i_n] at z1
                rw [e23, ca, cb, hl3.1 a ha, hl3.1 b hb, nI_ltI (by omega) (by omega)] at z2
                rw [nI_1]
                refine ih3 (b + 1) v h3 (by omega) eo3 hl3 (fun x w hx hxw => ?_)
                by_cases q : x = a ∧ w = b
                · rw [q.1, q.2]
                  have := hl3.2.2 a ha
                  omega
                · exact hp3 x w (by omega) hxw
              · rw [e18, i1, c1, w1, b2i_n] at z1
                rw [e23, ca, cb, hl3.1 a ha, hl3.1 b hb, nI_ltI (by omega) (by omega)] at z2
                rw [e23, ca, cb, hl3.1 a ha, nI_1, nI_1]
                have lu := lev_up u5 u4 z1
                refine ih3 (b + 1) (updN v b (v a + 1)) _ (by omega) (eo3.trans (EO.cI (by decide) (by decide) (by decide))) ⟨fun t ht => ?_, fun t ht => ?_, fun t ht => ?_⟩ (fun x w hx hxw => ?_)
                · by_cases q : t = b
                  · subst q; rw [sI_eq, updN_eq]
                  · rw [sI_nk q, updN_ne q]; exact hl3.1 t ht
                · by_cases q : t = b
                  · subst q; rw [updN_eq]; omega
                  · rw [updN_ne q]; exact hl3.2.1 t ht
                · by_cases q : t = b
                  · subst q
                    rw [updN_eq]
                    have := hl3.2.2 t ht
                    omega
                  · rw [updN_ne q]; exact hl3.2.2 t ht
                · by_cases q : w = b
                  · rw [q, updN_eq]
                    by_cases q2 : x = a
                    · rw [q2]
                      have := hl3.2.2 a ha
                      omega
                    · have := hp3 x w (by omega) hxw
                      rw [q] at this
                      omega
                  · rw [updN_ne q]
                    exact hp3 x w (by omega) hxw
          exact cols n 0 v h2 (by omega) eo2 hl2 (fun x z hx hxz => hp x z (by omega) hxz)
      exact rows n 0 v h1 (by omega) eo hl (fun x z hx => absurd hx (by omega))
  have zero : ∀ d k h1, k + d = n → EO y [14] [] h h1 → (∀ t, t < k → hI h1 (y + 14) t = 0) → RR G (hN h + 0) (hS h + 0) m_X6_levels 2 [some (.ref y), some (.int (nI k)), none, none] [] h1 (fun v h' => RV (fun h1 => EO y [14] [] h h1 ∧ ∀ t, t < n → hI h1 (y + 14) t = nI (lev n U t)) v h' ∧ hN h' = hN h + 0 ∧ hS h' = hS h + 0) := by
    intro d
    induction d with
    | zero =>
      intro k h1 e eo hb
      have e : k = n := by omega
      subst e
      obtain ⟨o1, o2, o3, -⟩ := id eo
      have en : hI h1 y 17 = nI k := (eo.f 17 (by decide)).trans u1
      have no : ¬ hI h1 y 17 ≤ nI k → False := fun z => z (by rw [en]; exact nI_le (Nat.le_refl _) (by omega))
      refine s_X6_levels_2 (by rw [o1]; exact hm.1) (fun _ => ?_) (by rw [o3, r23]; omega) (by rw [o1, o3, r23]; exact k23) (fun z => (no z).elim) (fun z => (no z).elim)
      rw [← nI_0]
      exact rounds k 0 (fun _ => 0) h1 (by omega) eo ⟨fun t ht => by rw [hb t ht]; rfl, fun t ht => Nat.zero_le _, fun t ht => by omega⟩
    | succ d ih =>
      intro k h1 e eo hb
      obtain ⟨o1, o2, o3, -⟩ := id eo
      have en : hI h1 y 17 = nI n := (eo.f 17 (by decide)).trans u1
      have ck : Int32.toNatClampNeg (nI k) = k := nI_clamp (by omega)
      refine s_X6_levels_2 (by rw [o1]; exact hm.1) (fun z => absurd z (by rw [en]; exact nI_ge (by omega) (by omega))) (by rw [o3, r23]; omega) (by rw [o1, o3, r23]; exact k23) (fun _ => by rw [o2, o3, r23, l23]; exact vp_in_nI (by omega) (by decide)) (fun _ => ?_)
      rw [o3, r23, ck, nI_1]
      refine ih (k + 1) _ (by omega) (eo.trans (EO.cI (by decide) (by decide) (by decide))) (fun t ht => ?_)
      by_cases q : t = k
      · subst q; exact sI_eq
      · rw [sI_nk q]; exact hb t (by omega)
  rw [← nI_0]
  exact zero n 0 h (by omega) EO.rf (fun t ht => absurd ht (by omega))
