variable {G : GG} {h h' : PH} {y n : Nat} {U : Nat → Nat → Bool}
noncomputable def loX (M : Nat → Bool) (U : Nat → Nat → Bool) (t k : Nat) : Bool := dc (M t = true ∧ ¬ ∃ x, x < k ∧ M x = true ∧ U x t = true)
theorem loX_0 {M : Nat → Bool} {t : Nat} : loX M U t 0 = M t := by
  symm; refine dc_eq ?_
  exact ⟨fun z => ⟨z, fun ⟨x, w, _⟩ => absurd w (by omega)⟩, fun z => z.1⟩
theorem loX_no {M : Nat → Bool} {t k : Nat} (h : ¬ (M k = true ∧ U k t = true)) : loX M U t (k + 1) = loX M U t k := by
  refine dc_congr ⟨fun z => ⟨z.1, fun ⟨x, w1, w2⟩ => z.2 ⟨x, by omega, w2⟩⟩, fun z => ⟨z.1, fun ⟨x, w1, w2⟩ => ?_⟩⟩
  by_cases e : x = k
  · subst e; exact h w2
  · exact z.2 ⟨x, by omega, w2⟩
theorem loX_yes {M : Nat → Bool} {t k : Nat} (h : M k = true ∧ U k t = true) : loX M U t (k + 1) = false := dc_no.2 (fun z => z.2 ⟨k, by omega, h⟩)
theorem m_ends {M : Nat → Bool} (hm : ML h y) (hu : MU h y n U) (h15 : ∀ t, t < n → hI h (y + 15) t = b2i (M t)) (h16 : ∀ t, t < n → hI h (y + 16) t = b2i (M t)) : Ev G m_X6_ends [.ref y] h 0 0 (RV (fun h1 => EO y [15, 16, 17] [] h h1 ∧ ∀ t, t < n → hI h1 (y + 15) t = b2i (loX M U t n) ∧ hI h1 (y + 16) t = b2i (loX M (trU U) t n))) := by
  obtain ⟨u1, u2, u3, u4, u5⟩ := id hu
  obtain ⟨r18, k18, l18⟩ := hm.r 18 11 4 2500 (by decide)
  obtain ⟨r24, k24, l24⟩ := hm.r 24 15 4 40 (by decide)
  obtain ⟨r25, k25, l25⟩ := hm.r 25 16 4 40 (by decide)
  obtain ⟨r26, k26, l26⟩ := hm.r 26 17 4 40 (by decide)
  have y0 := hm.2.1
  refine Ev.of pn_X6_ends (Nat.le_of_ble_eq_true rfl) ?_
  refine s_X6_ends_0 ?_
  have outer : ∀ d t h1, t + d = n → EO y [15, 16, 17] [] h h1 → (∀ x, x < n → hI h1 (y + 17) x = b2i (M x)) → (∀ x, x < n → hI h1 (y + 15) x = b2i (if x < t then loX M U x n else M x) ∧ hI h1 (y + 16) x = b2i (if x < t then loX M (trU U) x n else M x)) → RR G (hN h + 0) (hS h + 0) m_X6_ends 30 [some (.ref y), some (.int (nI t)), none] [] h1 (fun v h' => RV (fun h1 => EO y [15, 16, 17] [] h h1 ∧ ∀ t, t < n → hI h1 (y + 15) t = b2i (loX M U t n) ∧ hI h1 (y + 16) t = b2i (loX M (trU U) t n)) v h' ∧ hN h' = hN h + 0 ∧ hS h' = hS h + 0) := by
    intro d
    induction d with
    | zero =>
      intro t h1 e eo hk hb
      have e : t = n := by omega
      subst e
      obtain ⟨o1, o2, o3, -⟩ := id eo
      have en : hI h1 y 17 = nI t := (eo.f 17 (by decide)).trans u1
      refine s_X6_ends_30 (by rw [o1]; exact hm.1) (fun _ => ⟨⟨rfl, eo, fun x hx => ?_⟩, eo.2.2.2.1, eo.2.2.2.2.1⟩) (fun z => (z (by rw [en]; exact nI_le (Nat.le_refl _) (by omega))).elim)
      have := hb x hx
      rw [if_pos hx, if_pos hx] at this
      exact this
    | succ d ih =>
      intro t h1 e eo hk hb
      have ht : t < n := by omega
      obtain ⟨o1, o2, o3, -⟩ := id eo
      have en : hI h1 y 17 = nI n := (eo.f 17 (by decide)).trans u1
      refine s_X6_ends_30 (by rw [o1]; exact hm.1) (fun z => absurd z (by rw [en]; exact nI_ge ht (by omega))) (fun _ => ?_)
      rw [← nI_0]
      have inner : ∀ d k h2, k + d = n → EO y [15, 16, 17] [] h h2 → (∀ x, x < n → hI h2 (y + 17) x = b2i (M x)) → (∀ x, x < n → x ≠ t → hI h2 (y + 15) x = b2i (if x < t then loX M U x n else M x) ∧ hI h2 (y + 16) x = b2i (if x < t then loX M (trU U) x n else M x)) → hI h2 (y + 15) t = b2i (loX M U t k) → hI h2 (y + 16) t = b2i (loX M (trU U) t k) → RR G (hN h + 0) (hS h + 0) m_X6_ends 40 [some (.ref y), some (.int (nI t)), some (.int (nI k))] [] h2 (fun v h' => RV (fun h1 => EO y [15, 16, 17] [] h h1 ∧ ∀ t, t < n → hI h1 (y + 15) t = b2i (loX M U t n) ∧ hI h1 (y + 16) t = b2i (loX M (trU U) t n)) v h' ∧ hN h' = hN h + 0 ∧ hS h' = hS h + 0) := by
        intro d
        induction d with
        | zero =>
          intro k h2 e2 eo2 hk2 hb2 q1 q2
          have e2 : k = n := by omega
          subst e2
          obtain ⟨p1, p2, p3, -⟩ := id eo2
          have en2 : hI h2 y 17 = nI k := (eo2.f 17 (by decide)).trans u1
          have no : ¬ hI h2 y 17 ≤ nI k → False := fun z => z (by rw [en2]; exact nI_le (Nat.le_refl _) (by omega))
          refine s_X6_ends_40 (by rw [p1]; exact hm.1) (fun _ => ?_) (by rw [p3, r26]; omega) (by rw [p1, p3, r26]; exact k26) (fun z => (no z).elim) (fun z => (no z).elim) (by rw [p3, r18]; omega) (by rw [p1, p3, r18]; exact k18) (fun z => (no z).elim) (fun z => (no z).elim) (by rw [p3, r25]; omega) (by rw [p1, p3, r25]; exact k25) (fun z => (no z).elim) (fun z => (no z).elim) (fun z => (no z).elim) (fun z => (no z).elim) (fun z => (no z).elim) (fun z => (no z).elim) (fun z => (no z).elim) (fun z => (no z).elim) (by rw [p3, r24]; omega) (by rw [p1, p3, r24]; exact k24) (fun z => (no z).elim) (fun z => (no z).elim) (fun z => (no z).elim) (fun z => (no z).elim) (fun z => (no z).elim) (fun z => (no z).elim)
          rw [nI_1]
          refine ih (t + 1) h2 (by omega) eo2 hk2 (fun x hx => ?_)
          by_cases ex : x = t
          · subst ex
            rw [if_pos (by omega), if_pos (by omega)]
            exact ⟨q1, q2⟩
          · have := hb2 x hx ex
            by_cases lt : x < t
            · rw [if_pos lt, if_pos lt] at this
              rw [if_pos (by omega), if_pos (by omega)]; exact this
            · rw [if_neg lt, if_neg lt] at this
              rw [if_neg (by omega), if_neg (by omega)]; exact this
        | succ d ih2 =>
          intro k h2 e2 eo2 hk2 hb2 q1 q2
          have hkn : k < n := by omega
          obtain ⟨p1, p2, p3, -⟩ := id eo2
          have en2 : hI h2 y 17 = nI n := (eo2.f 17 (by decide)).trans u1
          have e18 : hR h2 y 18 = y + 11 := by rw [p3]; exact r18
          have e24 : hR h2 y 24 = y + 15 := by rw [p3]; exact r24
          have e25 : hR h2 y 25 = y + 16 := by rw [p3]; exact r25
          have e26 : hR h2 y 26 = y + 17 := by rw [p3]; exact r26
          have i1 : (50 : Int32) * nI k + nI t = nI (50 * k + t) := idx50 (by omega) (by omega)
          have i2 : (50 : Int32) * nI t + nI k = nI (50 * t + k) := idx50 (by omega) (by omega)
          have c1 : Int32.toNatClampNeg (nI (50 * k + t)) = 50 * k + t := nI_clamp (by omega)
          have c2 : Int32.toNatClampNeg (nI (50 * t + k)) = 50 * t + k := nI_clamp (by omega)
          have ct' : Int32.toNatClampNeg (nI t) = t := nI_clamp (by omega)
          have ck : Int32.toNatClampNeg (nI k) = k := nI_clamp (by omega)
          have w1 : hI h2 (y + 11) (50 * k + t) = b2i (U k t) := (eo2.i 11 rfl _).trans (u3 k t (by omega) (by omega))
          have w2 : hI h2 (y + 11) (50 * t + k) = b2i (U t k) := (eo2.i 11 rfl _).trans (u3 t k (by omega) (by omega))
          have wm := hk2 k hkn
          have vt : vp_in (nI t) 40 := vp_in_nI (by omega) (by decide)
          have v24 : vp_in (nI t) (hL h2 (hR h2 y 24)) := by rw [p2, e24, l24]; exact vt
          have v25 : vp_in (nI t) (hL h2 (hR h2 y 25)) := by rw [p2, e25, l25]; exact vt
          have v26 : vp_in (nI k) (hL h2 (hR h2 y 26)) := by rw [p2, e26, l26]; exact vp_in_nI (by omega) (by decide)
          have v1 : vp_in ((50 * nI k) + nI t) (hL h2 (hR h2 y 18)) := by rw [p2, e18, l18, i1]; exact vp_in_nI (by omega) (by decide)
          have v2 : vp_in ((50 * nI t) + nI k) (hL h2 (hR h2 y 18)) := by rw [p2, e18, l18, i2]; exact vp_in_nI (by omega) (by decide)
          have step : ∀ h3, EO y [15, 16] [] h2 h3 → (∀ x, x ≠ t → hI h3 (y + 15) x = hI h2 (y + 15) x ∧ hI h3 (y + 16) x = hI h2 (y + 16) x) → hI h3 (y + 15) t = b2i (loX M U t (k + 1)) → hI h3 (y + 16) t = b2i (loX M (trU U) t (k + 1)) → RR G (hN h + 0) (hS h + 0) m_X6_ends 40 [some (.ref y), some (.int (nI t)), some (.int (nI k + 1))] [] h3 (fun v h' => RV (fun h1 => EO y [15, 16, 17] [] h h1 ∧ ∀ t, t < n → hI h1 (y + 15) t = b2i (loX M U t n) ∧ hI h1 (y + 16) t = b2i (loX M (trU U) t n)) v h' ∧ hN h' = hN h + 0 ∧ hS h' = hS h + 0) := by
            intro h3 eo3 hs s1 s2
            rw [nI_1]
            refine ih2 (k + 1) h3 (by omega) (eo2.trans (eo3.wide (by decide) (by decide))) (fun x hx => (eo3.i 17 rfl x).trans (hk2 x hx)) (fun x hx ex => ?_) s1 s2
            rw [(hs x ex).1, (hs x ex).2]; exact hb2 x hx ex
          have z15 : EO y [15, 16] [] h2 (sI h2 (y + 15) t 0) := EO.cI (by decide) (by decide) (by decide)
          have z16 : EO y [15, 16] [] h2 (sI h2 (y + 16) t 0) := EO.cI (by decide) (by decide) (by decide)
          have zz : EO y [15, 16] [] h2 (sI (sI h2 (y + 15) t 0) (y + 16) t 0) := z15.trans (EO.cI (by decide) (by decide) (by decide))
          have d1 : y + 15 ≠ y + 16 := by omega
          have d2 : y + 17 ≠ y + 15 := by omega
          have d3 : y + 11 ≠ y + 15 := by omega
          have lowN : ¬ (M k = true ∧ U k t = true) → hI h2 (y + 15) t = b2i (loX M U t (k + 1)) := fun w => by rw [loX_no w]; exact q1
          have highN : ¬ (M k = true ∧ U t k = true) → hI h2 (y + 16) t = b2i (loX M (trU U) t (k + 1)) := fun w => by rw [loX_no (U := trU U) w]; exact q2
          refine s_X6_ends_40 (by rw [p1]; exact hm.1) (fun z => absurd z (by rw [en2]; exact nI_ge hkn (by omega))) (by rw [e26]; omega) (by rw [p1, e26]; exact k26) (fun _ => v26) (fun _ z _ => ?_) (by rw [e18]; omega) (by rw [p1, e18]; exact k18) (fun _ z1 z2 => (z2 z1).elim) (fun _ z1 z2 => (z2 z1).elim) (by rw [e25]; omega) (by rw [p1, e25]; exact k25) (fun _ z1 z2 => (z2 z1).elim) (fun _ z1 z2 => (z2 z1).elim) (fun _ _ => v1) (fun _ z1 _ z2 => (z1 z2).elim) (fun _ _ _ _ => v2) (fun _ z1 z2 _ z3 => ?_) (fun _ _ _ _ _ => v25) (fun _ z1 z2 _ z3 => ?_) (by rw [e24]; omega) (by rw [p1, e24]; exact k24) (fun _ _ _ => v24) (fun _ z1 z2 z3 => ?_) (fun _ _ _ _ => v2) (fun _ z1 z2 _ z3 => ?_) (fun _ _ _ _ _ => v25) (fun _ z1 z2 _ z3 => ?_)
          · rw [e26, ck, wm, b2i_0] at z
            exact step h2 EO.rf (fun _ _ => ⟨rfl, rfl⟩) (lowN (fun w => by rw [z] at w; cases w.1)) (highN (fun w => by rw [z] at w; cases w.1))
          · rw [e18, i1, c1, w1, b2i_0] at z2
            rw [e18, i2, c2, w2, b2i_0] at z3
            exact step h2 EO.rf (fun _ _ => ⟨rfl, rfl⟩) (lowN (fun w => by rw [z2] at w; cases w.2)) (highN (fun w => by rw [z3] at w; cases w.2))
          · rw [e26, ck, wm, b2i_n] at z1
            rw [e18, i1, c1, w1, b2i_0] at z2
            rw [e18, i2, c2, w2, b2i_n] at z3
            rw [e25, ct']
            refine step _ z16 (fun x ex => ⟨sI_ne d1, sI_nk ex⟩) (by rw [sI_ne d1]; exact lowN (fun w => by rw [z2] at w; cases w.2)) ?_
            rw [sI_eq, loX_yes (U := trU U) ⟨z1, z3⟩]; rfl
          · rw [e24, e26, ck, sI_ne d2] at z3
            rw [e26, ck] at z1
            exact (z1 z3).elim
          · rw [e26, ck, wm, b2i_n] at z1
            rw [e18, i1, c1, w1, b2i_n] at z2
            rw [e24, e18, i2, c2, sI_ne d3, w2, b2i_0] at z3
            rw [e24, ct']
            refine step _ z15 (fun x ex => ⟨sI_nk ex, sI_ne d1.symm⟩) ?_ (by rw [sI_ne d1.symm]; exact highN (fun w => by rw [z3] at w; cases w.2))
            rw [sI_eq, loX_yes ⟨z1, z2⟩]; rfl
          · rw [e26, ck, wm, b2i_n] at z1
            rw [e18, i1, c1, w1, b2i_n] at z2
            rw [e24, e18, i2, c2, sI_ne d3, w2, b2i_n] at z3
            rw [e24, e25, ct']
            refine step _ zz (fun x ex => ⟨by rw [sI_ne d1, sI_nk ex], by rw [sI_nk ex, sI_ne d1.symm]⟩) ?_ ?_
            · rw [sI_ne d1, sI_eq, loX_yes ⟨z1, z2⟩]; rfl
            · rw [sI_eq, loX_yes (U := trU U) ⟨z1, z3⟩]; rfl
      refine inner n 0 h1 (by omega) eo hk (fun x hx _ => hb x hx) ?_ ?_
      · have := (hb t ht).1
        rw [if_neg (by omega)] at this
        rw [this, loX_0]
      · have := (hb t ht).2
        rw [if_neg (by omega)] at this
        rw [this, loX_0]
  have first : ∀ d k h1, k + d = n → EO y [15, 16, 17] [] h h1 → (∀ x, x < n → hI h1 (y + 15) x = b2i (M x) ∧ hI h1 (y + 16) x = b2i (M x)) → (∀ x, x < k → hI h1 (y + 17) x = b2i (M x)) → RR G (hN h + 0) (hS h + 0) m_X6_ends 2 [some (.ref y), some (.int (nI k)), none] [] h1 (fun v h' => RV (fun h1 => EO y [15, 16, 17] [] h h1 ∧ ∀ t, t < n → hI h1 (y + 15) t = b2i (loX M U t n) ∧ hI h1 (y + 16) t = b2i (loX M (trU U) t n)) v h' ∧ hN h' = hN h + 0 ∧ hS h' = hS h + 0) := by
    intro d
    induction d with
    | zero =>
      intro k h1 e eo hb hk
      have e : k = n := by omega
      subst e
      obtain ⟨o1, o2, o3, -⟩ := id eo
      have en : hI h1 y 17 = nI k := (eo.f 17 (by decide)).trans u1
      have no : ¬ hI h1 y 17 ≤ nI k → False := fun z => z (by rw [en]; exact nI_le (Nat.le_refl _) (by omega))
      refine s_X6_ends_2 (by rw [o1]; exact hm.1) (fun _ => ?_) (by rw [o3, r26]; omega) (by rw [o3, r24]; omega) (by rw [o1, o3, r24]; exact k24) (fun z => (no z).elim) (by rw [o1, o3, r26]; exact k26) (fun z => (no z).elim) (fun z => (no z).elim) (fun z => (no z).elim)
      rw [← nI_0]
      refine outer k 0 h1 (by omega) eo hk (fun x hx => ?_)
      rw [if_neg (by omega), if_neg (by omega)]; exact hb x hx
    | succ d ih =>
      intro k h1 e eo hb hk
      obtain ⟨o1, o2, o3, -⟩ := id eo
      have en : hI h1 y 17 = nI n := (eo.f 17 (by decide)).trans u1
      have ck : Int32.toNatClampNeg (nI k) = k := nI_clamp (by omega)
      have vk : vp_in (nI k) 40 := vp_in_nI (by omega) (by decide)
      refine s_X6_ends_2 (by rw [o1]; exact hm.1) (fun z => absurd z (by rw [en]; exact nI_ge (by omega) (by omega))) (by rw [o3, r26]; omega) (by rw [o3, r24]; omega) (by rw [o1, o3, r24]; exact k24) (fun _ => by rw [o2, o3, r24, l24]; exact vk) (by rw [o1, o3, r26]; exact k26) (fun _ => by rw [o2, o3, r26, l26]; exact vk) (fun _ => by rw [o3, r24, ck, (hb k (by omega)).1]; exact b2i_01 _) (fun _ => ?_)
      rw [o3, r24, r26, ck, (hb k (by omega)).1, nI_1]
      refine ih (k + 1) _ (by omega) (eo.trans (EO.cI (by decide) (by decide) (by decide))) (fun x hx => by rw [sI_ne (by omega), sI_ne (by omega)]; exact hb x hx) (fun x hx => ?_)
      by_cases q : x = k
      · subst q; exact sI_eq
      · rw [sI_nk q]; exact hk x (by omega)
  rw [← nI_0]
  exact first n 0 h (by omega) EO.rf (fun x hx => ⟨h15 x hx, h16 x hx⟩) (fun x hx => absurd hx (by omega))
