variable {G : GG} {h h' : PH} {y n : Nat} {U : Nat → Nat → Bool}
def MT (h : PH) (y n : Nat) (U : Nat → Nat → Bool) : Prop := hI h y 20 = nI n - nI (siz n (bst (fun _ => n) U 0)) ∧ (∀ t, t < n → hI h (y + 12) t = e1 (bst (fun _ => n) U 0 t) ∧ hI h (y + 13) t = nI (chn n U t) ∧ hI h (y + 14) t = nI (lev n U t) ∧ hI h (y + 15) t = b2i (dc (mis (fun _ => n) U 1 t ∧ ¬ ptA (fun _ => n) U 0 t)) ∧ hI h (y + 16) t = b2i (dc (mis (fun _ => n) U 0 t ∧ ¬ ptA (fun _ => n) U 1 t))) ∧ Best n U (bst (fun _ => n) U 0) (bst (fun _ => n) U 1) n
def MUS (h : PH) (y n : Nat) (U : Nat → Nat → Bool) : Prop := ML h y ∧ MU h y n U ∧ (hI h y 19 = 0 ∨ hI h y 19 = 1) ∧ (¬ hI h y 19 = 0 → MT h y n U)
def wtS : List Nat := [12, 13, 14, 15, 16, 17, 18, 19, 20, 21, 22, 23, 24, 25, 26]
def wtD : List Nat := [19, 20, 28, 29, 38]
theorem MT.eo {S D : List Nat} (hw : MT h y n U) (eo : EO y S D h h') (h1 : (decide (12 ∉ S) && decide (13 ∉ S) && decide (14 ∉ S) && decide (15 ∉ S) && decide (16 ∉ S) && decide (20 ∉ D)) = true) : MT h' y n U := by
  simp only [Bool.and_eq_true, decide_eq_true_iff] at h1
  obtain ⟨⟨⟨⟨⟨a2, a3⟩, a4⟩, a5⟩, a6⟩, d4⟩ := h1
  obtain ⟨q1, q2, q3⟩ := hw
  have c := eo.2.2.2.2.2.2.1
  refine ⟨(eo.f 20 d4).trans q1, fun t ht => ?_, q3⟩
  rw [(c 12 (by decide) (by decide) a2).1, (c 13 (by decide) (by decide) a3).1, (c 14 (by decide) (by decide) a4).1, (c 15 (by decide) (by decide) a5).1, (c 16 (by decide) (by decide) a6).1]
  exact q2 t ht
theorem width_eq {a b c d : Nat} (ha : a ≤ 50) (hb : b ≤ 50) (hc : c ≤ 50) (hd : d ≤ 50) : nI a - nI b = nI c - nI d - 1 ↔ a + d + 1 = c + b := by
  rw [← nI_eq (a := a + d + 1) (b := c + b) (by omega) (by omega), ← nI_1, ← nI_add, ← nI_add]
  generalize nI a = x
  generalize nI b = z
  generalize nI c = u
  generalize nI d = v
  constructor
  · intro e; grind
  · intro e; grind
theorem mc_loop {nc ns : Nat} {Z : Option Value → PH → Prop} {r : Nat} {num e2 : Int32} {f f' : Nat → Option Nat} (hm : ML h y) (hu : MU h y n U) (hM : IsM U f f') (hf : ∀ t, t < n → hI h (y + 12) t = e1 (f t))
    (hz : ∀ h1, EO y [13] [] h h1 → (∀ x, x < n → hI h1 (y + 13) x = if dc (Cl (nxt f) r x) then num else hI h (y + 13) x) → RR G nc ns m_X6_workThings 65 [some (.ref y), some (.int (num + 1)), some (.int (e2 + 1)), none] [] h1 Z) : ∀ d s (cur : Option Nat) h1, s + d = n + 1 → EO y [13] [] h h1 → (∀ c, cur = some c → c < n ∧ Cl (nxt f) r c ∧ s ≤ lev n U c) → (∀ x, x < n → hI h1 (y + 13) x = if dc (Cl (nxt f) r x ∧ ¬ ∃ c, cur = some c ∧ Cl (nxt f) c x) then num else hI h (y + 13) x) →
    RR G nc ns m_X6_workThings 84 [some (.ref y), some (.int num), some (.int e2), some (.int (e1 cur))] [] h1 Z := by
  obtain ⟨u1, u2, u3, u4, u5⟩ := id hu
  obtain ⟨r22, k22, l22⟩ := hm.r 22 13 2 40 (by decide)
  obtain ⟨r21, k21, l21⟩ := hm.r 21 12 2 40 (by decide)
  have y0 := hm.2.1
  have fin : ∀ h1, EO y [13] [] h h1 → (∀ x, x < n → hI h1 (y + 13) x = if dc (Cl (nxt f) r x ∧ ¬ ∃ c, (none : Option Nat) = some c ∧ Cl (nxt f) c x) then num else hI h (y + 13) x) → RR G nc ns m_X6_workThings 84 [some (.ref y), some (.int num), some (.int e2), some (.int (e1 none))] [] h1 Z := fun h1 eo w => by
    obtain ⟨o1, o2, o3, -⟩ := id eo
    have no : ¬ (e1 none : Int32) < 0 → False := fun z => z (by decide)
    refine s_X6_workThings_84 (fun _ => hz h1 eo (fun x hx => ?_)) (by rw [o1]; exact hm.1) (by rw [o3, r22]; omega) (by rw [o1, o3, r22]; exact k22) (fun z => (no z).elim) (by rw [o3, r21]; omega) (by rw [o1, o3, r21]; exact k21) (fun z => (no z).elim) (fun z => (no z).elim)
    rw [w x hx, dc_congr (Q := Cl (nxt f) r x) ⟨fun z => z.1, fun z => ⟨z, fun ⟨c, e, _⟩ => by cases e⟩⟩]
  intro d
  induction d with
  | zero =>
    intro s cur h1 e eo q1 q2
    cases cur with
    | none => exact fin h1 eo q2
    | some c =>
      obtain ⟨c1, c2, c3⟩ := q1 c rfl
      have := lev_lt u5 c1
      omega
  | succ d ih =>
    intro s cur h1 e eo q1 q2
    cases cur with
    | none => exact fin h1 eo q2
    | some c =>
      obtain ⟨c1, c2, c3⟩ := q1 c rfl
      obtain ⟨o1, o2, o3, -⟩ := id eo
      have cc : Int32.toNatClampNeg (nI c) = c := nI_clamp (by omega)
      have e22 : hR h1 y 22 = y + 13 := by rw [o3]; exact r22
      have e21 : hR h1 y 21 = y + 12 := by rw [o3]; exact r21
      have vc : vp_in (nI c) 40 := vp_in_nI (by omega) (by decide)
      refine s_X6_workThings_84 (l3 := nI c) (fun z => absurd z (nI_pos (by omega))) (by rw [o1]; exact hm.1) (by rw [e22]; omega) (by rw [o1, e22]; exact k22) (fun _ => by rw [o2, e22, l22]; exact vc) (by rw [e21]; omega) (by rw [o1, e21]; exact k21) (fun _ => by rw [o2, e21, l21]; exact vc) (fun _ => ?_)
      have vf : hI (sI h1 (y + 13) c num) (y + 12) c = e1 (f c) := by
        rw [sI_ne (by omega), eo.i 12 rfl]; exact hf c c1
      rw [e22, e21, cc, vf]
      refine ih (s + 1) (f c) _ (by omega) (eo.trans (EO.cI (by decide) (by decide) (by decide))) (fun c' hc' => ?_) (fun x hx => ?_)
      · have h1 := hM.2 c c' hc'
        have := lev_up u5 u4 h1
        exact ⟨(u4 c c' h1).2, c2.step hc', by omega⟩
      · by_cases ex : x = c
        · subst ex
          rw [sI_eq, dc_iff.mpr]
          · rfl
          · refine ⟨c2, fun ⟨c', y1, y2⟩ => ?_⟩
            have := lev_up u5 u4 (hM.2 x c' y1)
            rcases nxt_lev u5 u4 hM y2 with w | w
            · subst w; omega
            · omega
        · rw [sI_nk ex, q2 x hx]
          rw [dc_congr (P := Cl (nxt f) r x ∧ ¬ ∃ c1, some c = some c1 ∧ Cl (nxt f) c1 x) (Q := Cl (nxt f) r x ∧ ¬ ∃ c1, f c = some c1 ∧ Cl (nxt f) c1 x)]
          constructor
          · rintro ⟨z1, z2⟩
            exact ⟨z1, fun ⟨c', y1, y2⟩ => z2 ⟨c, rfl, cl_head.mpr (Or.inr ⟨c', y1, y2⟩)⟩⟩
          · rintro ⟨z1, z2⟩
            refine ⟨z1, fun ⟨c', y1, y2⟩ => ?_⟩
            cases y1
            rcases cl_head.mp y2 with w | ⟨b, w1, w2⟩
            · exact ex w
            · exact z2 ⟨b, w1, w2⟩
theorem m_workThings (hg : MUS h y n U) : Ev G m_X6_workThings [.ref y] h 0 0 (RV (fun h1 => EO y wtS wtD h h1 ∧ MUS h1 y n U ∧ MT h1 y n U ∧ ¬ hI h1 y 19 = 0)) := by
  obtain ⟨hm, hu, h01, hfr⟩ := id hg
  obtain ⟨u1, u2, u3, u4, u5⟩ := id hu
  obtain ⟨r21, k21, l21⟩ := hm.r 21 12 2 40 (by decide)
  obtain ⟨r22, k22, l22⟩ := hm.r 22 13 2 40 (by decide)
  obtain ⟨r24, k24, l24⟩ := hm.r 24 15 4 40 (by decide)
  obtain ⟨r25, k25, l25⟩ := hm.r 25 16 4 40 (by decide)
  obtain ⟨r32, k32, l32⟩ := hm.r 32 21 2 50 (by decide)
  obtain ⟨r33, k33, l33⟩ := hm.r 33 22 2 50 (by decide)
  have y0 := hm.2.1
  refine Ev.of pn_X6_workThings (Nat.le_of_ble_eq_true rfl) ?_
  have eo0 : EO y wtS wtD h (sI h y 19 1) := EO.s0 (by decide)
  refine s_X6_workThings_0 hm.1 (fun _ => m_width0 (hm.eo eo0) (hu.eo eo0 (by decide) (by decide))) (fun _ x h1 q _ _ => ?_) (fun z => ⟨⟨rfl, EO.rf, hg, hfr z, z⟩, rfl, rfl⟩)
  obtain ⟨eo1, mt0, eg1, hG0, ex⟩ := q
  have t19 : hI h1 y 19 = 1 := by rw [eo1.f 19 (by decide), sI_eq]
  have eo1 : EO y wtS wtD h h1 := eo0.trans (eo1.wide (by decide) (by decide))
  have eoA : EO y [] [20] h1 (sI h1 y 20 x) := EO.s0 (by decide)
  refine s_X6_workThings_19 (by rw [eo1.1]; exact hm.1) (m_improve (eg1.eo eoA rfl) hG0) (by rw [eo1.1]; exact hm.1) (fun h2 q _ _ => ?_)
  obtain ⟨eo2, mt, eg2, hB⟩ := q
  have t19b : hI h2 y 19 = 1 := by rw [eo2.f 19 (by decide), eoA.f 19 (by decide)]; exact t19
  have t20 : hI h2 y 20 = nI n - nI (siz n (mt 0)) := by rw [eo2.f 20 (by decide), sI_eq, ex, great_siz hG0 hB.1]
  have eo2 : EO y wtS wtD h h2 := (eo1.trans (eoA.wide (by decide) (by decide))).trans (eo2.wide (by decide) (by decide))
  obtain ⟨eb0, eb1⟩ := bst_eq (sz := fun _ => n) u4 hB
  have hM := hB.1.1
  have hlt : ∀ a b, mt 1 a = some b → a < n ∧ b < n := fun a b e => (u4 _ _ (hM.2 _ _ ((hM.1 _ _).2 e))).symm
  refine s_X6_workThings_26 ?_
  -- the end of it: which things are in some greatest antichain
  have last : ∀ (e1' : Int32) d t h3, t + d = n → EO y wtS wtD h h3 → hI h3 y 19 = 1 → hI h3 y 20 = nI n - nI (siz n (mt 0)) → (∀ x, x < n → hI h3 (y + 12) x = e1 (mt 0 x) ∧ hI h3 (y + 13) x = nI (chn n U x) ∧ hI h3 (y + 14) x = nI (lev n U x)) → (∀ x, x < t → hI h3 (y + 15) x = b2i (dc (inMax n U x)) ∧ hI h3 (y + 16) x = b2i (dc (inMax n U x))) → RR G (hN h + 0) (hS h + 0) m_X6_workThings 120 [some (.ref y), some (.int e1'), some (.int (nI t)), none] [] h3 (fun v h' => RV (fun h1 => EO y wtS wtD h h1 ∧ MUS h1 y n U ∧ MT h1 y n U ∧ ¬ hI h1 y 19 = 0) v h' ∧ hN h' = hN h + 0 ∧ hS h' = hS h + 0) := by
    intro e1' d
    induction d with
    | zero =>
      intro t h3 e eo3 s19 s20 hx hl
      have e : t = n := by omega
      subst e
      obtain ⟨o1, o2, o3, -⟩ := id eo3
      have en : hI h3 y 17 = nI t := (eo3.f 17 (by decide)).trans u1
      have no : ¬ hI h3 y 17 ≤ nI t → False := fun z => z (by rw [en]; exact nI_le (Nat.le_refl _) (by omega))
      refine s_X6_workThings_120 (P2 := fun _ _ => True) (by rw [o1]; exact hm.1) (fun _ => m_ends (M := fun x => dc (inMax t U x)) (hm.eo eo3) (hu.eo eo3 (by decide) (by decide)) (fun x hx' => (hl x hx').1) (fun x hx' => (hl x hx').2)) (fun _ h4 q _ _ => ?_) (by rw [o3, r24]; omega) (fun z => (no z).elim) (fun z => (no z).elim)
      obtain ⟨eo4, w⟩ := q
      have eo5 : EO y wtS wtD h h4 := eo3.trans (eo4.wide (by decide) (by decide))
      have mtx : MT h4 y t U := by
        refine ⟨by rw [eo4.f 20 (by decide), s20, eb0], fun x hx' => ?_, by rw [← eb0, ← eb1]; exact hB⟩
        obtain ⟨a1, a2, a3⟩ := hx x hx'
        obtain ⟨b1, b2⟩ := w x hx'
        refine ⟨by rw [eo4.i 12 rfl, a1, eb0], by rw [eo4.i 13 rfl]; exact a2, by rw [eo4.i 14 rfl]; exact a3, ?_, ?_⟩
        · rw [b1]
          congr 1
          refine dc_congr ?_
          rw [← low_iff (sz := fun _ => t) rfl u5 u4 hB.1 hx', dc_iff]
          constructor
          · rintro ⟨z1, z2⟩
            refine ⟨z1, fun v hv hv2 => ?_⟩
            cases e : U v x
            · rfl
            · exact (z2 ⟨v, hv, dc_iff.2 hv2, e⟩).elim
          · rintro ⟨z1, z2⟩
            refine ⟨z1, fun ⟨v, hv, hv2, hv3⟩ => ?_⟩
            rw [z2 v hv (dc_iff.1 hv2)] at hv3; cases hv3
        · rw [b2]
          congr 1
          refine dc_congr ?_
          rw [← high_iff (sz := fun _ => t) rfl u5 u4 hB.1 hx', dc_iff]
          constructor
          · rintro ⟨z1, z2⟩
            refine ⟨z1, fun v hv hv2 => ?_⟩
            cases e : U x v
            · rfl
            · exact (z2 ⟨v, hv, dc_iff.2 hv2, e⟩).elim
          · rintro ⟨z1, z2⟩
            refine ⟨z1, fun ⟨v, hv, hv2, hv3⟩ => ?_⟩
            have hv3 : U x v = true := hv3
            rw [z2 v hv (dc_iff.1 hv2)] at hv3; cases hv3
      have s19b : hI h4 y 19 = 1 := by rw [eo4.f 19 (by decide)]; exact s19
      exact s_X6_workThings_175 ⟨⟨rfl, eo5, ⟨hm.eo eo5, hu.eo eo5 (by decide) (by decide), Or.inr s19b, fun _ => mtx⟩, mtx, by rw [s19b]; decide⟩, eo5.2.2.2.1, eo5.2.2.2.2.1⟩
    | succ d ih =>
      intro t h3 e eo3 s19 s20 hx hl
      have ht : t < n := by omega
      obtain ⟨o1, o2, o3, -⟩ := id eo3
      have en : hI h3 y 17 = nI n := (eo3.f 17 (by decide)).trans u1
      have no : hI h3 y 17 ≤ nI t → False := fun z => absurd z (by rw [en]; exact nI_ge ht (by omega))
      refine s_X6_workThings_120 (P1 := fun _ => True) (by rw [o1]; exact hm.1) (fun z => (no z).elim) (fun z => (no z).elim) (by rw [o3, r24]; omega) (fun _ => m_widthT (hm.eo eo3) (hu.eo eo3 (by decide) (by decide)) ht) (fun _ x h4 q _ _ => ?_)
      obtain ⟨eo4, g, g', hgg, ex4⟩ := q
      have ctt : Int32.toNatClampNeg (nI t) = t := nI_clamp (by omega)
      have eo5 : EO y wtS wtD h h4 := eo3.trans (eo4.wide (by decide) (by decide))
      obtain ⟨p1, p2, p3, -⟩ := id eo5
      have s20b : hI h4 y 20 = nI n - nI (siz n (mt 0)) := by rw [eo4.f 20 (by decide)]; exact s20
      have s19b : hI h4 y 19 = 1 := by rw [eo4.f 19 (by decide)]; exact s19
      have q1 := cnt_le n (bes n U t)
      have q2 := siz_le_n (n := n) (f := g)
      have q3 := siz_le_n (n := n) (f := mt 0)
      have key : x = hI h4 y 20 - 1 ↔ inMax n U t := by
        rw [s20b, ex4, width_eq (by omega) (by omega) (by omega) (by omega)]
        exact bes_max (sz := fun _ => n) rfl u5 u4 hB.1 ht hgg
      have vt : vp_in (nI t) 40 := vp_in_nI (by omega) (by decide)
      have step : ∀ v : Int32, v = b2i (dc (inMax n U t)) → RR G (hN h + 0) (hS h + 0) m_X6_workThings 120 [some (.ref y), some (.int e1'), some (.int (nI t + 1)), none] [] (sI (sI h4 (y + 15) t v) (y + 16) t (hI (sI h4 (y + 15) t v) (y + 15) t)) (fun v h' => RV (fun h1 => EO y wtS wtD h h1 ∧ MUS h1 y n U ∧ MT h1 y n U ∧ ¬ hI h1 y 19 = 0) v h' ∧ hN h' = hN h + 0 ∧ hS h' = hS h + 0) := by
        intro v ev
        rw [sI_eq, nI_1]
        have eoB : EO y [15, 16] [] h4 (sI (sI h4 (y + 15) t v) (y + 16) t v) := (EO.cI (by decide) (by decide) (by decide)).trans (EO.cI (by decide) (by decide) (by decide))
        refine ih (t + 1) _ (by omega) (eo5.trans (eoB.wide (by decide) (by decide))) (by rw [eoB.f 19 (by decide)]; exact s19b) (by rw [eoB.f 20 (by decide)]; exact s20b) (fun z hz => ?_) (fun z hz => ?_)
        · rw [eoB.i 12 rfl, eoB.i 13 rfl, eoB.i 14 rfl, eo4.i 12 rfl, eo4.i 13 rfl, eo4.i 14 rfl]; exact hx z hz
        · by_cases ez : z = t
          · subst ez
            rw [sI_ne (show y + 15 ≠ y + 16 by omega), sI_eq, sI_eq, ev]; exact ⟨rfl, rfl⟩
          · rw [sI_ne (show y + 15 ≠ y + 16 by omega), sI_nk ez, sI_nk ez, sI_ne (show y + 16 ≠ y + 15 by omega), eo4.i 15 rfl, eo4.i 16 rfl]; exact hl z (by omega)
      have e24 : hR h4 y 24 = y + 15 := by rw [p3]; exact r24
      have e25 : hR h4 y 25 = y + 16 := by rw [p3]; exact r25
      rw [o3, r24]
      refine s_X6_workThings_138 (by rw [p1]; exact hm.1) (by rw [p1]; exact k24) (fun _ => by rw [p2, l24]; exact vt) (by rw [e25]; omega) (by rw [e24]; omega) (by rw [p1, e24]; exact k24) (fun _ => by rw [p2, e24, l24]; exact vt) (by rw [p1, e25]; exact k25) (fun _ => by rw [p2, e25, l25]; exact vt) (fun _ => by rw [e24, ctt, sI_eq]; exact Or.inl rfl) (fun z => ?_) (fun _ => by rw [p2, l24]; exact vt) (fun _ => by rw [p2, e24, l24]; exact vt) (fun _ => by rw [p2, e25, l25]; exact vt) (fun _ => by rw [e24, ctt, sI_eq]; exact Or.inr rfl) (fun z => ?_)
      · rw [e24, e25, ctt]
        exact step 0 (by rw [dc_no.2 (fun w => z (key.2 w))]; rfl)
      · rw [e24, e25, ctt]
        exact step 1 (by rw [dc_iff.2 (key.1 z)]; rfl)
  -- the chains
  have chains : ∀ d F h3, F + d = n → EO y wtS wtD h h3 → EM h3 y mt → hI h3 y 19 = 1 → hI h3 y 20 = nI n - nI (siz n (mt 0)) → (∀ x, x < n → hI h3 (y + 12) x = e1 (mt 0 x)) → (∀ r x, r < F → mt 1 r = none → x < n → Cl (nxt (mt 0)) r x → hI h3 (y + 13) x = nI (cnt r (fun j => (mt 1 j).isNone))) → RR G (hN h + 0) (hS h + 0) m_X6_workThings 65 [some (.ref y), some (.int (nI (cnt F (fun j => (mt 1 j).isNone)))), some (.int (nI F)), none] [] h3 (fun v h' => RV (fun h1 => EO y wtS wtD h h1 ∧ MUS h1 y n U ∧ MT h1 y n U ∧ ¬ hI h1 y 19 = 0) v h' ∧ hN h' = hN h + 0 ∧ hS h' = hS h + 0) := by
    intro d
    induction d with
    | zero =>
      intro F h3 e eo3 em3 s19 s20 hx hc
      have e : F = n := by omega
      subst e
      obtain ⟨o1, o2, o3, -⟩ := id eo3
      have en : hI h3 y 17 = nI F := (eo3.f 17 (by decide)).trans u1
      have no : ¬ hI h3 y 17 ≤ nI F → False := fun z => z (by rw [en]; exact nI_le (Nat.le_refl _) (by omega))
      refine s_X6_workThings_65 (by rw [o1]; exact hm.1) (fun _ => m_levels (hm.eo eo3) (hu.eo eo3 (by decide) (by decide))) (fun _ h4 q _ _ => ?_) (by rw [o3, r33]; omega) (by rw [o1, o3, r33]; exact k33) (fun z => (no z).elim) (fun z => (no z).elim) (fun z => (no z).elim)
      obtain ⟨eo4, w⟩ := q
      refine s_X6_workThings_118 ?_
      rw [← nI_0]
      have isc : isChain F (mt 0) (mt 1) (fun x => (hI h3 (y + 13) x).toNatClampNeg) := by
        intro r x hr1 hr2 hcl
        have hxF : x < F := by
          rcases nxt_U u5 hM hcl with e | e
          · omega
          · exact (u4 r x e).2
        have := cnt_le r (fun j => (mt 1 j).isNone)
        show (hI h3 (y + 13) x).toNatClampNeg = _
        rw [hc r x hr1 hr2 hxF hcl, nI_clamp (by omega)]
      refine last _ F 0 h4 (by omega) (eo3.trans (eo4.wide (by decide) (by decide))) (by rw [eo4.f 19 (by decide)]; exact s19) (by rw [eo4.f 20 (by decide)]; exact s20) (fun x hx' => ⟨by rw [eo4.i 12 rfl]; exact hx x hx', ?_, w x hx'⟩) (fun x hx' => absurd hx' (by omega))
      rw [eo4.i 13 rfl]
      obtain ⟨r, r1, r2, r3⟩ := root_ex u5 u4 hM _ x hx' (Nat.le_refl _)
      have hv := hc r x r1 r2 hx' r3
      rw [eb0, eb1] at isc
      have := chn_eq u5 u4 (by rw [← eb0, ← eb1]; exact hM) isc hx'
      rw [← this]
      have := cnt_le r (fun j => (mt 1 j).isNone)
      show _ = nI (hI h3 (y + 13) x).toNatClampNeg
      rw [hv, nI_clamp (by omega)]
    | succ d ih =>
      intro F h3 e eo3 em3 s19 s20 hx hc
      have hF : F < n := by omega
      obtain ⟨o1, o2, o3, -⟩ := id eo3
      have en : hI h3 y 17 = nI n := (eo3.f 17 (by decide)).trans u1
      have no : hI h3 y 17 ≤ nI F → False := fun z => absurd z (by rw [en]; exact nI_ge hF (by omega))
      have cF : Int32.toNatClampNeg (nI F) = F := nI_clamp (by omega)
      have v33 : hI h3 (y + 22) F = e1 (mt 1 F) := (em3.1 F (by omega)).2
      refine s_X6_workThings_65 (P1 := fun _ => True) (by rw [o1]; exact hm.1) (fun z => (no z).elim) (fun z => (no z).elim) (by rw [o3, r33]; omega) (by rw [o1, o3, r33]; exact k33) (fun _ => by rw [o2, o3, r33, l33]; exact vp_in_nI (by omega) (by decide)) (fun _ z => ?_) (fun _ z => ?_)
      · rw [o3, r33, cF, v33, e1_ge (em3.lt (by decide))] at z
        have ec : cnt (F + 1) (fun j => (mt 1 j).isNone) = cnt F (fun j => (mt 1 j).isNone) := by
          obtain ⟨v, hv⟩ := isSome_ex z
          rw [cnt_s, hv]; rfl
        rw [nI_1, ← ec]
        refine ih (F + 1) h3 (by omega) eo3 em3 s19 s20 hx (fun r x hr1 hr2 hx' hcl => ?_)
        by_cases er : r = F
        · subst er; rw [hr2] at z; cases z
        · exact hc r x (by omega) hr2 hx' hcl
      · rw [o3, r33, cF, v33, e1_ge (em3.lt (by decide))] at z
        have hno : mt 1 F = none := by cases e : mt 1 F with | none => rfl | some _ => rw [e] at z; exact (z rfl).elim
        have ec : cnt (F + 1) (fun j => (mt 1 j).isNone) = cnt F (fun j => (mt 1 j).isNone) + 1 := by rw [cnt_s, hno]; rfl
        refine mc_loop (h := h3) (r := F) (f := mt 0) (f' := mt 1) (hm.eo eo3) (hu.eo eo3 (by decide) (by decide)) hM hx (fun h4 eo4 w => ?_) (n + 1) 0 (some F) h3 (by omega) EO.rf (fun c hc' => ?_) (fun x hx' => ?_)
        · rw [nI_1, nI_1, ← ec]
          refine ih (F + 1) h4 (by omega) (eo3.trans (eo4.wide (by decide) (by decide))) (em3.eo eo4 (by decide) (by decide)) (by rw [eo4.f 19 (by decide)]; exact s19) (by rw [eo4.f 20 (by decide)]; exact s20) (fun x hx' => by rw [eo4.i 12 rfl]; exact hx x hx') (fun r x hr1 hr2 hx' hcl => ?_)
          rw [w x hx']
          by_cases er : r = F
          · subst er
            rw [dc_iff.mpr hcl]; rfl
          · rw [dc_no.mpr (fun z => er (root_unique hM hr2 hno hcl z))]
            exact hc r x (by omega) hr2 hx' hcl
        · cases hc'; exact ⟨hF, Cl.rf, Nat.zero_le _⟩
        · rw [dc_no.mpr (fun z => z.2 ⟨F, rfl, z.1⟩)]; rfl
  -- the partners as the next things
  have next : ∀ d k h3, k + d = n → EO y wtS wtD h h3 → EM h3 y mt → hI h3 y 19 = 1 → hI h3 y 20 = nI n - nI (siz n (mt 0)) → (∀ x, x < k → hI h3 (y + 12) x = e1 (mt 0 x)) → RR G (hN h + 0) (hS h + 0) m_X6_workThings 28 [some (.ref y), some (.int (nI k)), none, none] [] h3 (fun v h' => RV (fun h1 => EO y wtS wtD h h1 ∧ MUS h1 y n U ∧ MT h1 y n U ∧ ¬ hI h1 y 19 = 0) v h' ∧ hN h' = hN h + 0 ∧ hS h' = hS h + 0) := by
    intro d
    induction d with
    | zero =>
      intro k h3 e eo3 em3 s19 s20 hx
      have e : k = n := by omega
      subst e
      obtain ⟨o1, o2, o3, -⟩ := id eo3
      have en : hI h3 y 17 = nI k := (eo3.f 17 (by decide)).trans u1
      have no : ¬ hI h3 y 17 ≤ nI k → False := fun z => z (by rw [en]; exact nI_le (Nat.le_refl _) (by omega))
      refine s_X6_workThings_28 (by rw [o1]; exact hm.1) (fun _ => ?_) (by rw [o3, r21]; omega) (by rw [o3, r32]; omega) (by rw [o1, o3, r32]; exact k32) (fun z => (no z).elim) (by rw [o1, o3, r21]; exact k21) (fun z => (no z).elim) (by rw [o3, r22]; omega) (by rw [o1, o3, r22]; exact k22) (fun z => (no z).elim) (fun z => (no z).elim)
      exact chains k 0 h3 (by omega) eo3 em3 s19 s20 hx (fun r x hr => absurd hr (by omega))
    | succ d ih =>
      intro k h3 e eo3 em3 s19 s20 hx
      have hk : k < n := by omega
      obtain ⟨o1, o2, o3, -⟩ := id eo3
      have en : hI h3 y 17 = nI n := (eo3.f 17 (by decide)).trans u1
      have ck : Int32.toNatClampNeg (nI k) = k := nI_clamp (by omega)
      have vk : vp_in (nI k) 40 := vp_in_nI (by omega) (by decide)
      have v21 : hI h3 (y + 21) k = e1 (mt 0 k) := (em3.1 k (by omega)).1
      refine s_X6_workThings_28 (by rw [o1]; exact hm.1) (fun z => absurd z (by rw [en]; exact nI_ge hk (by omega))) (by rw [o3, r21]; omega) (by rw [o3, r32]; omega) (by rw [o1, o3, r32]; exact k32) (fun _ => by rw [o2, o3, r32, l32]; exact vp_in_nI (by omega) (by decide)) (by rw [o1, o3, r21]; exact k21) (fun _ => by rw [o2, o3, r21, l21]; exact vk) (by rw [o3, r22]; omega) (by rw [o1, o3, r22]; exact k22) (fun _ => by rw [o2, o3, r22, l22]; exact vk) (fun _ => ?_)
      rw [o3, r21, r22, r32, ck, v21, nI_1]
      have eoB : EO y [12, 13] [] h3 (sI (sI h3 (y + 12) k (e1 (mt 0 k))) (y + 13) k (-1)) := (EO.cI (by decide) (by decide) (by decide)).trans (EO.cI (by decide) (by decide) (by decide))
      refine ih (k + 1) _ (by omega) (eo3.trans (eoB.wide (by decide) (by decide))) (em3.eo eoB (by decide) (by decide)) (by rw [eoB.f 19 (by decide)]; exact s19) (by rw [eoB.f 20 (by decide)]; exact s20) (fun x hx' => ?_)
      rw [sI_ne (show y + 12 ≠ y + 13 by omega)]
      by_cases ex : x = k
      · subst ex; exact sI_eq
      · rw [sI_nk ex]; exact hx x (by omega)
  rw [← nI_0]
  exact next n 0 h2 (by omega) eo2 eg2.2.2.2.2 t19b t20 (fun x hx => absurd hx (by omega))
