variable {G : GG} {h h' : PH} {x B L K n : Nat} {sz : Nat → Nat} {E U : Nat → Nat → Bool}
theorem GS.szc {g m : Nat} {sz' : Nat → Nat} (hg : GS h g m sz E) (h0 : sz 0 = sz' 0) (h1 : sz 1 = sz' 1) : GS h g m sz' E := by
  obtain ⟨q1, q2, q3, q4⟩ := hg
  refine ⟨q1, fun s hs => ?_, q3, by rw [← h0, ← h1]; exact q4⟩
  rcases (by omega : s = 0 ∨ s = 1) with z | z
  · subst z; rw [← h0]; exact q2 0 hs
  · subst z; rw [← h1]; exact q2 1 hs
def aThing (n : Nat) : Int32 := if n = 40 then -2 else nI n
def sThing (n : Nat) : Nat := if n = 40 then n else n + 1
theorem c_thing (hk : COK h x B L K sz E n U) (hK2 : K + 2 < 2 ^ 31) : Ev G m_X5_thing [.ref x] h 0 0 (RI (RP h x B L (K + 2) sz E (sThing n) U (aThing n))) := by
  obtain ⟨hs, hn, hE, hRU, hU⟩ := n_lt hk
  obtain ⟨cg, cu, b1, b2, hx, hc, hu⟩ := id hk
  obtain ⟨x1, x2, x3, x4, x5, x6, x7, x8, x9, x10, x11⟩ := id hx
  refine Ev.of pn_X5_thing (Nat.le_of_ble_eq_true rfl) ?_
  refine s_X5_thing_0 x1 (by rw [x6]; exact ne_add x 25) (by rw [x6]; exact ev_add hu.1 0) (by rw [x6]; exact hu.1.1.1) (fun v h1 q n1 s1 => ?_)
  rcases q with ⟨e1, -⟩ | ⟨s, hs2, e1, e2⟩
  · exact (e1 (Or.inl rfl)).elim
  · have es : s = 0 := by
      rcases (by omega : s = 0 ∨ s = 1) with z | z
      · exact z
      · subst z; exact absurd e1 (by decide)
    subst es
    rcases e2 with ⟨z1, z2, z3⟩ | ⟨z1, z2, z3, z4, z5⟩
    · subst z3
      refine s_X5_thing_8 x1 (by rw [x6]; exact ne_add x 25) (by rw [x6]; exact ev_add hu.1 1) (by rw [x6]; exact hu.1.1.1) (fun v2 h2 q n2 s2 => ?_)
      refine s_X5_thing_17 ?_
      have hn40 : n = 40 := z1
      have e3 : sThing n = n := if_pos hn40
      rcases q with ⟨e1, -⟩ | ⟨s, hs2, e1, e2⟩
      · exact (e1 (Or.inr rfl)).elim
      · rcases e2 with ⟨w1, w2, w3⟩ | ⟨w1, -⟩
        · subst w3
          rw [e3]
          exact rp_fin (by unfold aThing; rw [if_pos hn40]; exact w2) SO.rf (hk.wide (by omega))
        · have w1 : n < 40 := w1
          omega
    · have z1 : n < 40 := z1
      have hx1 := hx.so z3
      obtain ⟨y1, y2, y3, y4, y5, y6, -⟩ := id hx1
      refine s_X5_thing_8 y1 (by rw [y6]; exact ne_add x 25) (by rw [y6]; exact ev_add z5 1) (by rw [y6]; exact z5.1.1) (fun v2 h2 q n2 s2 => ?_)
      refine s_X5_thing_17 ?_
      rcases q with ⟨e1, -⟩ | ⟨s, hs2, e1, e2⟩
      · exact (e1 (Or.inr rfl)).elim
      · have es : s = 1 := by
          rcases (by omega : s = 0 ∨ s = 1) with z | z
          · subst z; exact absurd e1 (by decide)
          · exact z
        subst es
        have u1 : updN (fun _ => n) 0 ((fun _ => n) 0 + 1) 1 = n := rfl
        rcases e2 with ⟨w1, -⟩ | ⟨w1, w2, w3, w4, w5⟩
        · rw [u1] at w1; omega
        · rw [u1] at w2 w5
          have so := z3.trans w3
          have g2 : GS h2 (x + 26) 40 (fun _ => n + 1) U := w5.szc rfl rfl
          have e3 : sThing n = n + 1 := if_neg (by omega)
          have ch : hI h2 (x + 26) 3 = nI (cu + 2) := by rw [w4 3, if_pos rfl, z4 3, if_pos rfl, hu.2.2.2.2.1, nI_1, nI_1]
          obtain ⟨c', hc', hu2⟩ := hu.chg so (Or.inr ch) g2 hU (by omega)
          rw [e3]
          exact rp_fin (by unfold aThing; rw [if_neg (by omega)]; exact w2) (so.wide (by omega) (by omega)) ⟨cg, c', by omega, by omega, hx.so so, hc.so so (by omega), hu2⟩
def aBelow (n : Nat) (U : Nat → Nat → Bool) (a b : Int32) : Int32 := b2i (jn (fun _ => n) U a b)
theorem c_below (hk : COK h x B L K sz E n U) (a b : Int32) : Ev G m_X5_below [.ref x, .int a, .int b] h 0 0 (RI (RP h x B L K sz E n U (aBelow n U a b))) := by
  obtain ⟨cg, cu, b1, b2, hx, hc, hu⟩ := id hk
  obtain ⟨x1, x2, x3, x4, x5, x6, x7, x8, x9, x10, x11⟩ := id hx
  refine Ev.of pn_X5_below (Nat.le_of_ble_eq_true rfl) ?_
  exact s_X5_below_0 (x1 := aBelow n U a b) x1 (by rw [x6]; exact ne_add x 25) (by rw [x6]; exact ev_joins hu.1 a b) (by rw [x6]; exact hu.1.1.1) (rp_fin rfl SO.rf hk) (b2i_01 _)
def tel (U : Nat → Nat → Bool) (a b : Nat) : Nat → Nat → Bool := fun l r => U l r || ((U l a || decide (l = a)) && (U b r || decide (r = b)))
theorem tel_iff {a b l r : Nat} : tel U a b l r = true ↔ U l r = true ∨ ((U l a = true ∨ l = a) ∧ (U b r = true ∨ r = b)) := by
  unfold tel
  rw [Bool.or_eq_true, Bool.and_eq_true, Bool.or_eq_true, Bool.or_eq_true, decide_eq_true_iff, decide_eq_true_iff]
theorem tel_spo {a b : Nat} (hU : SPO U) (hab : a ≠ b) (hba : U b a = false) : SPO (tel U a b) := by
  have nba : ¬ U b a = true := by rw [hba]; decide
  refine ⟨fun l => ?_, fun l m r h1 h2 => ?_⟩
  · cases e : tel U a b l l
    · rfl
    · exfalso
      rcases tel_iff.1 e with h | ⟨h1 | h1, h2 | h2⟩
      · rw [hU.1 l] at h; cases h
      · exact nba (hU.2 _ _ _ h2 h1)
      · rw [h2] at h1; exact nba h1
      · rw [h1] at h2; exact nba h2
      · exact hab (h1.symm.trans h2)
  · rw [tel_iff] at *
    rcases h1 with h1 | ⟨h1, h3⟩ <;> rcases h2 with h2 | ⟨h2, h4⟩
    · exact Or.inl (hU.2 _ _ _ h1 h2)
    · right
      refine ⟨?_, h4⟩
      rcases h2 with h2 | h2
      · exact Or.inl (hU.2 _ _ _ h1 h2)
      · exact Or.inl (h2 ▸ h1)
    · right
      refine ⟨h1, ?_⟩
      rcases h3 with h3 | h3
      · exact Or.inl (hU.2 _ _ _ h3 h2)
      · exact Or.inl (h3 ▸ h2)
    · exact Or.inr ⟨h1, h4⟩
def aTell (n : Nat) (U : Nat → Nat → Bool) (a b : Int32) : Int32 := if inB a n && inB b n then (if a = b ∨ U (ct b) (ct a) = true then -3 else if U (ct a) (ct b) = true then 0 else 1) else -1
def sTell (n : Nat) (U : Nat → Nat → Bool) (a b : Int32) : Nat → Nat → Bool := if (inB a n && inB b n) = true ∧ ¬ (a = b ∨ U (ct b) (ct a) = true) ∧ ¬ U (ct a) (ct b) = true then tel U (ct a) (ct b) else U
theorem c_tell (hk : COK h x B L K sz E n U) (hK2 : K + 2 < 2 ^ 31) (a b : Int32) : Ev G m_X5_tell [.ref x, .int a, .int b] h 0 0 (RI (RP h x B L (K + 2) sz E n (sTell n U a b) (aTell n U a b))) := by
  obtain ⟨hs, hn, hE, hRU, hU⟩ := n_lt hk
  obtain ⟨cg, cu, b1, b2, hx, hc, hu⟩ := id hk
  obtain ⟨x1, x2, x3, x4, x5, x6, x7, x8, x9, x10, x11⟩ := id hx
  refine Ev.of pn_X5_tell (Nat.le_of_ble_eq_true rfl) ?_
  have same : ∀ v : Int32, ¬ ((inB a n && inB b n) = true ∧ ¬ (a = b ∨ U (ct b) (ct a) = true) ∧ ¬ U (ct a) (ct b) = true) → v = aTell n U a b → (fun w h' => RI (RP h x B L (K + 2) sz E n (sTell n U a b) (aTell n U a b)) w h' ∧ hN h' = hN h + 0 ∧ hS h' = hS h + 0) (some (.int v)) h := by
    intro v q e
    have es : sTell n U a b = U := if_neg q
    rw [es]
    exact rp_fin e SO.rf (hk.wide (by omega))
  have jne : ∀ i j, i < n → j < n → ∀ p q : Int32, p = nI i → q = nI j → b2i (inB p n && inB q n && U p.toNatClampNeg q.toNatClampNeg) = b2i (U i j) := by
    intro i j hi hj p q ea eb
    rw [ea, eb, inB_nI (by omega), inB_nI (by omega), decide_eq_true hi, decide_eq_true hj, nI_clamp (by omega), nI_clamp (by omega)]; rfl
  have pos : (¬ b2i (holdB (fun _ => n) 0 a) = 0) → (¬ b2i (holdB (fun _ => n) 0 b) = 0) → ∃ i j, i < n ∧ j < n ∧ a = nI i ∧ b = nI j ∧ (inB a n && inB b n) = true ∧ ct a = i ∧ ct b = j := by
    intro z1 z2
    rw [b2i_n, hold0] at z1 z2
    obtain ⟨i, hi, ea⟩ := in_ex (k := n) (by omega) z1
    obtain ⟨j, hj, eb⟩ := in_ex (k := n) (by omega) z2
    exact ⟨i, j, hi, hj, ea, eb, by rw [Bool.and_eq_true]; exact ⟨z1, z2⟩, by rw [ea]; exact ct_nI (by omega), by rw [eb]; exact ct_nI (by omega)⟩
  refine s_X5_tell_0 (x1 := b2i (holdB (fun _ => n) 0 a)) (x2 := b2i (holdB (fun _ => n) 0 b)) (x3 := b2i (inB b n && inB a n && U b.toNatClampNeg a.toNatClampNeg)) (x4 := b2i (inB a n && inB b n && U a.toNatClampNeg b.toNatClampNeg)) (x5 := hJ h (x + 26 + 3 + 1) (ct a)) (x6 := hJ h (x + 26 + 3 + 0) (ct b)) (P7 := fun h' => SO (x + 26) (x + 26 + 5) h h' ∧ chg h h' (x + 26) ∧ GS h' (x + 26) 40 (fun _ => n) (tel U (ct a) (ct b))) x1 (by rw [x6]; exact ne_add x 25) (by rw [x6]; exact ev_holds hu.1 0 a) (by rw [x6]; exact hu.1.1.1) (fun z => ?_) (fun _ => by rw [x6]; exact ev_holds hu.1 0 b) (fun z1 z2 z3 => ?_) (fun _ _ _ => by rw [x6]; exact ev_joins hu.1 b a) (fun _ _ _ _ => by rw [x6]; exact ev_joins hu.1 a b) (fun z1 z2 _ _ _ => ?_) (fun z1 z2 _ _ _ => ?_) (fun z1 z2 _ _ _ => ?_) (fun z1 z2 z3 z4 z5 h1 q n1 s1 => ?_) (fun z1 z2 z3 z4 z5 => ?_) (fun z1 z2 z3 z4 => ?_) (fun _ z => ?_)
  · rw [b2i_0, hold0] at z
    have z : inB a n = false := z
    exact same _ (fun q => by rw [z] at q; cases q.1) (by unfold aTell; rw [z]; rfl)
  · obtain ⟨i, j, hi, hj, ea, eb, e1, e2, e3⟩ := pos z1 z2
    exact same _ (fun q => q.2.1 (Or.inl z3)) (by unfold aTell; rw [e1, if_pos rfl, if_pos (Or.inl z3)])
  · obtain ⟨i, j, hi, hj, ea, eb, e1, e2, e3⟩ := pos z1 z2
    rw [x6, e2, ea]
    exact ev_across hu.1 (s := 1) (by decide) hi
  · obtain ⟨i, j, hi, hj, ea, eb, e1, e2, e3⟩ := pos z1 z2
    rw [x6, e3, eb]
    exact ev_across hu.1 (s := 0) (by decide) hj
  · obtain ⟨i, j, hi, hj, ea, eb, e1, e2, e3⟩ := pos z1 z2
    have lo : ∀ l, bt (hJ h (x + 26 + 3 + 1) i ||| (1 <<< (Int32.toInt64 (nI i) &&& 63))) l = (U l i || decide (l = i)) := by
      intro l
      rw [bt_or, bt_bit (by omega), hu.1.2.2.1 1 (by decide) i (by omega) l]; rfl
    have hi' : ∀ r, bt (hJ h (x + 26 + 3 + 0) j ||| (1 <<< (Int32.toInt64 (nI j) &&& 63))) r = (U j r || decide (r = j)) := by
      intro r
      rw [bt_or, bt_bit (by omega), hu.1.2.2.1 0 (by decide) j (by omega) r]; rfl
    rw [x6, e2, e3, ea, eb]
    refine (ev_joinAll hu.1 (fun l hl => ?_) (fun r hr => ?_)).mono (fun w h' q => ⟨q.1, q.2.1, q.2.2.1, ?_⟩)
    · rw [lo l, Bool.or_eq_true, decide_eq_true_iff] at hl
      rcases hl with hl | hl
      · exact (hRU _ _ hl).1
      · rw [hl]; exact hi
    · rw [hi' r, Bool.or_eq_true, decide_eq_true_iff] at hr
      rcases hr with hr | hr
      · exact (hRU _ _ hr).2
      · rw [hr]; exact hj
    · have := q.2.2.2
      simp only [lo, hi'] at this
      exact this
  · obtain ⟨i, j, hi, hj, ea, eb, e1, e2, e3⟩ := pos z1 z2
    obtain ⟨so, ch, hg⟩ := q
    rw [jne j i hj hi b a eb ea, b2i_0] at z4
    rw [jne i j hi hj a b ea eb, b2i_0] at z5
    have nab : ¬ (a = b ∨ U (ct b) (ct a) = true) := by
      rintro (w | w)
      · exact z3 w
      · rw [e2, e3, z4] at w; cases w
    have nt : ¬ U (ct a) (ct b) = true := by rw [e2, e3, z5]; decide
    have es : sTell n U a b = tel U (ct a) (ct b) := if_pos ⟨e1, nab, nt⟩
    have hij : i ≠ j := fun w => z3 (by rw [ea, eb, w])
    have ch3 : hI h1 (x + 26) 3 = nI (cu + 1) := by rw [ch 3, if_pos rfl, hu.2.2.2.2.1, nI_1]
    obtain ⟨c', hc', hu2⟩ := hu.chg so (Or.inl ch3) hg (by rw [e2, e3]; exact tel_spo hU hij z4) (by omega)
    refine s_X5_tell_99 ?_
    rw [es]
    exact rp_fin (by unfold aTell; rw [e1, if_pos rfl, if_neg nab, if_neg nt]) (so.wide (by omega) (by omega)) ⟨cg, c', by omega, by omega, hx.so so, hc.so so (by omega), hu2⟩
  · obtain ⟨i, j, hi, hj, ea, eb, e1, e2, e3⟩ := pos z1 z2
    rw [jne j i hj hi b a eb ea, b2i_0] at z4
    rw [jne i j hi hj a b ea eb, b2i_n] at z5
    have nab : ¬ (a = b ∨ U (ct b) (ct a) = true) := by
      rintro (w | w)
      · exact z3 w
      · rw [e2, e3, z4] at w; cases w
    have nt : U (ct a) (ct b) = true := by rw [e2, e3]; exact z5
    exact same _ (fun q => q.2.2 nt) (by unfold aTell; rw [e1, if_pos rfl, if_neg nab, if_pos nt])
  · obtain ⟨i, j, hi, hj, ea, eb, e1, e2, e3⟩ := pos z1 z2
    rw [jne j i hj hi b a eb ea, b2i_n] at z4
    have nab : a = b ∨ U (ct b) (ct a) = true := Or.inr (by rw [e2, e3]; exact z4)
    exact same _ (fun q => q.2.1 nab) (by unfold aTell; rw [e1, if_pos rfl, if_pos nab])
  · rw [b2i_0, hold0] at z
    have z : inB b n = false := z
    exact same _ (fun q => by rw [z, Bool.and_false] at q; cases q.1) (by unfold aTell; rw [z, Bool.and_false]; rfl)
noncomputable def chn (n : Nat) (U : Nat → Nat → Bool) : Nat → Nat := Classical.epsilon (fun c : Nat → Nat => isChain n (bst (fun _ => n) U 0) (bst (fun _ => n) U 1) c)
theorem chn_eq {c : Nat → Nat} (hU : SPO U) (hRg : Rg n n U) (hM : IsM U (bst (fun _ => n) U 0) (bst (fun _ => n) U 1)) (h : isChain n (bst (fun _ => n) U 0) (bst (fun _ => n) U 1) c) {t : Nat} (ht : t < n) : c t = chn n U t :=
  chain_unique hU hRg hM h (Classical.epsilon_spec (p := fun c : Nat → Nat => isChain n (bst (fun _ => n) U 0) (bst (fun _ => n) U 1) c) ⟨c, h⟩) ht
noncomputable def aAbout (n : Nat) (U : Nat → Nat → Bool) (t w : Int32) : Int32 := if inB t n then (if w = 0 then nI (chn n U (ct t)) else if w = 1 then enc (bst (fun _ => n) U 0 (ct t)) else if w = 2 then nI (lev n U (ct t)) else if w = 3 then b2i (dc (mis (fun _ => n) U 1 (ct t) ∧ ¬ ptA (fun _ => n) U 0 (ct t))) else if w = 4 then b2i (dc (mis (fun _ => n) U 0 (ct t) ∧ ¬ ptA (fun _ => n) U 1 (ct t))) else -1) else -1
theorem anti0 {t : Nat} : (!cov (fun _ => n) U 1 0 t && !cov (fun _ => n) U 1 1 t) = dc (mis (fun _ => n) U 1 t ∧ ¬ ptA (fun _ => n) U 0 t) := by
  refine dc_eq ?_
  unfold cov
  rw [Bool.and_eq_true, Bool.not_eq_true', Bool.not_eq_true', dc_no, dc_no, if_neg (by decide), if_pos rfl, Classical.not_not]
  exact And.comm
theorem anti1 {t : Nat} : (!cov (fun _ => n) U 0 0 t && !cov (fun _ => n) U 0 1 t) = dc (mis (fun _ => n) U 0 t ∧ ¬ ptA (fun _ => n) U 1 t) := by
  refine dc_eq ?_
  unfold cov
  rw [Bool.and_eq_true, Bool.not_eq_true', Bool.not_eq_true', dc_no, dc_no, if_pos rfl, if_neg (by decide), Classical.not_not]
theorem c_about (hk : COK h x B L K sz E n U) (t w : Int32) : Ev G m_X5_about [.ref x, .int t, .int w] h 0 0 (RI (RP h x B L K sz E n U (aAbout n U t w))) := by
  obtain ⟨hs, hn, hE, hRU, hU⟩ := n_lt hk
  obtain ⟨cg, cu, b1, b2, hx, hc, hu⟩ := id hk
  obtain ⟨x1, x2, x3, x4, x5, x6, x7, x8, x9, x10, x11⟩ := id hx
  refine Ev.of pn_X5_about (Nat.le_of_ble_eq_true rfl) ?_
  refine s_X5_about_0 (x1 := b2i (holdB (fun _ => n) 0 t)) x1 (by rw [x6]; exact ne_add x 25) (by rw [x6]; exact ev_holds hu.1 0 t) (by rw [x6]; exact hu.1.1.1) (by rw [x7]; exact ne_add x 30) (fun _ => by rw [x7]; exact rf_U hu) (by rw [x7]; exact hu.2.1.1) (fun z h1 q n1 s1 => ?_) (fun z => ?_)
  · obtain ⟨so, hu1, pf⟩ := q
    have hx1 := hx.so so
    obtain ⟨y1, y2, y3, y4, y5, y6, y7, y8, -⟩ := id hx1
    rw [b2i_n, hold0] at z
    have z : inB t n = true := z
    obtain ⟨i, hi, et⟩ := in_ex (k := n) (by omega) z
    have ect : ct t = i := by rw [et]; exact ct_nI (by omega)
    refine s_X5_about_21 y1 (by rw [y8]; exact ne_add x 41) (by rw [y8]; exact rf_O hu1 pf) (by rw [y8]; exact hu1.2.2.1.1) (fun h2 q2 n2 s2 => ?_)
    obtain ⟨so2, hu2, ⟨mt, p1, p2, p3, p4⟩, of⟩ := q2
    have so3 : SO (x + 1) (x + 45) h h2 := (so.wide (by omega) (by omega)).trans (so2.wide (by omega) (by omega))
    have hx2 := hx1.so so2
    have hk2 : COK h2 x B L K sz E n U := ⟨cg, cu, b1, b2, hx2, (hc.so so (by omega)).so so2 (by omega), hu2⟩
    obtain ⟨w1, w2, w3, w4, w5, w6, w7, w8, -⟩ := id hx2
    obtain ⟨⟨q1, -⟩, q4⟩ := of
    have e0 : mt 0 = bst (fun _ => n) U 0 := bst_at (sz := fun _ => n) hRU p2 (show 0 < 2 by decide)
    have e1 : mt 1 = bst (fun _ => n) U 1 := bst_at (sz := fun _ => n) hRU p2 (show 1 < 2 by decide)
    obtain ⟨c, c1, c2, c3⟩ := q4 _ _ p2
    have hM : IsM U (bst (fun _ => n) U 0) (bst (fun _ => n) U 1) := by rw [← e0, ← e1]; exact p2.1.1
    have c1 : isChain n (bst (fun _ => n) U 0) (bst (fun _ => n) U 1) c := by rw [← e0, ← e1]; exact c1
    have ch : hI h2 (x + 42 + 2) i = nI (chn n U i) := by rw [c2 i hi, chn_eq hU hRU hM c1 hi]
    have ans : aAbout n U t w = if w = 0 then nI (chn n U i) else if w = 1 then enc (bst (fun _ => n) U 0 i) else if w = 2 then nI (lev n U i) else if w = 3 then b2i (dc (mis (fun _ => n) U 1 i ∧ ¬ ptA (fun _ => n) U 0 i)) else if w = 4 then b2i (dc (mis (fun _ => n) U 0 i ∧ ¬ ptA (fun _ => n) U 1 i)) else -1 := by
      unfold aAbout
      rw [z, if_pos rfl, ect]
    have bi : ∀ c : Bool, (b2i c = 0 → (0 : Int32) = b2i c) ∧ (¬ b2i c = 0 → (1 : Int32) = b2i c) := by decide
    refine s_X5_about_28 (x1 := nI (chn n U i)) (x2 := enc (bst (fun _ => n) U 0 i)) (x3 := nI (lev n U i)) (x4 := b2i (dc (mis (fun _ => n) U 1 i ∧ ¬ ptA (fun _ => n) U 0 i))) (x5 := b2i (dc (mis (fun _ => n) U 0 i ∧ ¬ ptA (fun _ => n) U 1 i))) (fun v => ?_) w1 (by rw [w8]; exact ne_add x 41) (fun _ => ?_) (by rw [w8]; exact hu2.2.2.1.1) (fun v => ?_) (by rw [w7]; exact ne_add x 30) (fun _ => ?_) (by rw [w7]; exact hu2.2.1.1) (fun v => ?_) (fun _ => ?_) (fun v => ?_) (fun v => ?_) (fun v v2 => ?_) (fun v v2 => ?_) (fun v => ?_) (fun v v2 => ?_) (fun v v2 => ?_)
    · refine rp_fin ?_ so3 hk2
      have ne : ∀ u : Int32, (0 ≤ u ∧ u ≤ 4) → w ≠ u := by
        intro u hu e
        subst e
        have q2 : w.toInt < 0 ∨ 4 < w.toInt := by
          rcases v with v | v
          · exact Or.inl (Int32.lt_iff_toInt_lt.1 v)
          · exact Or.inr (Int32.lt_iff_toInt_lt.1 v)
        have a1 : 0 ≤ w.toInt := Int32.le_iff_toInt_le.1 hu.1
        have a2 : w.toInt ≤ 4 := Int32.le_iff_toInt_le.1 hu.2
        omega
      rw [ans, if_neg (ne 0 (by decide)), if_neg (ne 1 (by decide)), if_neg (ne 2 (by decide)), if_neg (ne 3 (by decide)), if_neg (ne 4 (by decide))]
    · rw [w8, et, ← ch]; exact ev_chainOf hu2.1 (hu2.1.2.1 0 (by decide)).2 (Nat.succ_pos _) hu2.2.2.1 hi
    · subst v; exact rp_fin ans.symm so3 hk2
    · rw [w7, et, ← e0]; exact ev_mateOf hu2.1 hu2.2.1 p1 (s := 0) (by decide) hi
    · subst v; exact rp_fin ans.symm so3 hk2
    · rw [w8, et, show nI (lev n U i) = hI h2 (x + 42 + 1) i from (q1 i hi).symm]; exact ev_levelOf hu2.1 (hu2.1.2.1 0 (by decide)).2 (Nat.succ_pos _) hu2.2.2.1 hi
    · subst v; exact rp_fin ans.symm so3 hk2
    · subst v
      rw [w8, et, ← anti0]
      exact ev_isInAntichain (w := 0) hu2.1 rfl (hu2.1.2.1 0 (by decide)).2 hu2.2.1 p4 hu2.2.2.1 (by decide) hi
    · subst v; exact rp_fin (((bi _).1 v2).trans ans.symm) so3 hk2
    · subst v; exact rp_fin (((bi _).2 v2).trans ans.symm) so3 hk2
    · subst v
      rw [w8, et, ← anti1]
      exact ev_isInAntichain (w := 1) hu2.1 rfl (hu2.1.2.1 0 (by decide)).2 hu2.2.1 p4 hu2.2.2.1 (by decide) hi
    · subst v; exact rp_fin (((bi _).1 v2).trans ans.symm) so3 hk2
    · subst v; exact rp_fin (((bi _).2 v2).trans ans.symm) so3 hk2
  · rw [b2i_0, hold0] at z
    have z : inB t n = false := z
    exact rp_fin (by unfold aAbout; rw [z]; rfl) SO.rf hk
theorem c_clearGraph (hk : COK h x B L K sz E n U) (hK2 : K + 2 < 2 ^ 31) : Ev G m_X5_clearGraph [.ref x] h 0 0 (RI (RP h x B L (K + 2) (fun _ => 0) (fun _ _ => false) n U (nI (sz 0) + nI (sz 1)))) := by
  obtain ⟨hs, hn, hE, hRU, hU⟩ := n_lt hk
  obtain ⟨cg, cu, b1, b2, hx, hc, hu⟩ := id hk
  obtain ⟨x1, x2, x3, x4, x5, x6, x7, x8, x9, x10, x11⟩ := id hx
  refine Ev.of pn_X5_clearGraph (Nat.le_of_ble_eq_true rfl) ?_
  refine s_X5_clearGraph_0 (x1 := nI (sz 0)) (x2 := nI (sz 1)) x1 (by rw [x2]; exact ne_add x 0) (by rw [x2]; exact ev_sizeOf hc.1 (s := 0) (by decide)) (by rw [x2]; exact hc.1.1.1) (by rw [x2]; exact ev_sizeOf hc.1 (s := 1) (by decide)) (by rw [x2]; exact ev_clear hc.1.1) (fun h1 q n1 s1 => ?_)
  obtain ⟨so, ch, hg⟩ := q
  refine s_X5_clearGraph_25 ?_
  exact rp_fin rfl (so.wide (by omega) (by omega)) ⟨cg + 1, cu, by omega, by omega, hx.so so, hc.chg so ch hg (by omega), hu.so so (by omega)⟩
theorem c_clearThings (hk : COK h x B L K sz E n U) (hK2 : K + 2 < 2 ^ 31) : Ev G m_X5_clearThings [.ref x] h 0 0 (RI (RP h x B L (K + 2) sz E 0 (fun _ _ => false) (nI n))) := by
  obtain ⟨hs, hn, hE, hRU, hU⟩ := n_lt hk
  obtain ⟨cg, cu, b1, b2, hx, hc, hu⟩ := id hk
  obtain ⟨x1, x2, x3, x4, x5, x6, x7, x8, x9, x10, x11⟩ := id hx
  refine Ev.of pn_X5_clearThings (Nat.le_of_ble_eq_true rfl) ?_
  refine s_X5_clearThings_0 (x1 := nI n) x1 (by rw [x6]; exact ne_add x 25) (by rw [x6]; exact ev_sizeOf hu.1 (s := 0) (by decide)) (by rw [x6]; exact hu.1.1.1) (by rw [x6]; exact ev_clear hu.1.1) (fun h1 q n1 s1 => ?_)
  obtain ⟨so, ch, hg⟩ := q
  refine s_X5_clearThings_16 ?_
  have ch3 : hI h1 (x + 26) 3 = nI (cu + 1) := by rw [ch 3, if_pos rfl, hu.2.2.2.2.1, nI_1]
  obtain ⟨c', hc', hu2⟩ := hu.chg so (Or.inl ch3) hg ⟨fun _ => rfl, fun _ _ _ h => (by cases h)⟩ (by omega)
  exact rp_fin rfl (so.wide (by omega) (by omega)) ⟨cg, c', by omega, by omega, hx.so so, hc.so so (by omega), hu2⟩
