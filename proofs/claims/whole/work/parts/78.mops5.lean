variable {G : GG} {h h' : PH} {y n : Nat} {sz : Nat → Nat} {E U : Nat → Nat → Bool}
theorem MX5.set {h1 : PH} {o i j : Nat} {v : Int32} {A A' : Nat → Nat → Bool} (hc : MX5 h1 (y + o) A) (hi : i < 50) (hj : j < 50) (hv : v = b2i (A' i j)) (he : ∀ x z, x < 50 → z < 50 → ¬ (x = i ∧ z = j) → A x z = A' x z) : MX5 (sI h1 (y + o) (50 * i + j) v) (y + o) A' := by
  intro x z hx hz
  by_cases e : x = i ∧ z = j
  · rw [e.1, e.2, sI_eq]; exact hv
  · rw [sI_nk (by omega), hc x z hx hz, he x z hx hz e]
theorem MX5.congr {h1 : PH} {a : Nat} {A A' : Nat → Nat → Bool} (hc : MX5 h1 a A) (he : ∀ x z, x < 50 → z < 50 → A x z = A' x z) : MX5 h1 a A' := fun x z hx hz => by rw [hc x z hx hz, he x z hx hz]
theorem r_tell (hk : MOK h y sz E n U) (a b : Int32) : Ev G m_X6_tell [.ref y, .int a, .int b] h 0 0 (RI (RM2 h y sz E n (sTell n U a b) (aTell n U a b))) := by
  obtain ⟨hg, hm, ⟨u1, u2, u3, u4, u5⟩, h01, hfr⟩ := id hk
  obtain ⟨r18, k18, l18⟩ := hm.r 18 11 4 2500 (by decide)
  have y0 := hm.2.1
  refine Ev.of pn_X6_tell (Nat.le_of_ble_eq_true rfl) ?_
  have same : ∀ v : Int32, ¬ ((inB a n && inB b n) = true ∧ ¬ (a = b ∨ U (ct b) (ct a) = true) ∧ ¬ U (ct a) (ct b) = true) → v = aTell n U a b → (fun w h' => RI (RM2 h y sz E n (sTell n U a b) (aTell n U a b)) w h' ∧ hN h' = hN h + 0 ∧ hS h' = hS h + 0) (some (.int v)) h := by
    intro v q e
    have es : sTell n U a b = U := if_neg q
    rw [es]
    exact rm_fin e SO.rf hk
  have na : inB a n = false → (fun w h' => RI (RM2 h y sz E n (sTell n U a b) (aTell n U a b)) w h' ∧ hN h' = hN h + 0 ∧ hS h' = hS h + 0) (some (.int (-1))) h := fun z => same _ (fun q => by rw [z] at q; cases q.1) (by unfold aTell; rw [z]; rfl)
  have nb : inB b n = false → (fun w h' => RI (RM2 h y sz E n (sTell n U a b) (aTell n U a b)) w h' ∧ hN h' = hN h + 0 ∧ hS h' = hS h + 0) (some (.int (-1))) h := fun z => same _ (fun q => by rw [z, Bool.and_false] at q; cases q.1) (by unfold aTell; rw [z, Bool.and_false]; rfl)
  have pos : ¬ a < 0 → ¬ hI h y 17 ≤ a → ¬ b < 0 → b < hI h y 17 → ∃ i j, i < n ∧ j < n ∧ a = nI i ∧ b = nI j ∧ ct a = i ∧ ct b = j ∧ (inB a n && inB b n) = true := by
    intro z1 z2 z3 z4
    rw [u1, ge_in (by omega) z1] at z2
    rw [u1, lt_in (by omega) z3] at z4
    have z2 : inB a n = true := by simpa using z2
    obtain ⟨i, j, hi, hj, ea, eb, ca, cb⟩ := in2 u2 z2 z4
    exact ⟨i, j, hi, hj, ea, eb, ca, cb, by rw [z2, z4]; rfl⟩
  refine s_X6_tell_0 (fun z => na (neg_in z)) hm.1 (fun z1 z2 => ?_) (fun _ _ z => nb (neg_in z)) (fun z1 z2 z3 z4 z5 => ?_) (by rw [r18]; omega) (by rw [r18]; exact k18) (fun z1 z2 z3 z4 z5 => ?_) (fun z1 z2 z3 z4 z5 _ => ?_) (fun z1 z2 z3 z4 z5 z6 z7 => ?_) (fun z1 z2 z3 z4 z5 z6 z7 => ?_) (fun z1 z2 z3 z4 z5 z6 => ?_) (fun z1 z2 z3 z4 => ?_)
  · rw [u1, ge_in (by omega) z1] at z2
    exact na z2
  · obtain ⟨i, j, hi, hj, ea, eb, ca, cb, eab⟩ := pos z1 z2 z3 z4
    exact same _ (fun q => q.2.1 (Or.inl z5)) (by unfold aTell; rw [eab, if_pos rfl, if_pos (Or.inl z5)])
  · obtain ⟨i, j, hi, hj, ea, eb, ca, cb, eab⟩ := pos z1 z2 z3 z4
    rw [r18, l18, ea, eb, idx50 (by omega) (by omega)]; exact vp_in_nI (by omega) (by decide)
  · obtain ⟨i, j, hi, hj, ea, eb, ca, cb, eab⟩ := pos z1 z2 z3 z4
    rw [r18, l18, ea, eb, idx50 (by omega) (by omega)]; exact vp_in_nI (by omega) (by decide)
  · obtain ⟨i, j, hi, hj, ea, eb, ca, cb, eab⟩ := pos z1 z2 z3 z4
    rw [r18, ea, eb, idx50 (by omega) (by omega), nI_clamp (by omega), u3 j i (by omega) (by omega), b2i_0] at z6
    rw [r18, ea, eb, idx50 (by omega) (by omega), nI_clamp (by omega), u3 i j (by omega) (by omega), b2i_0] at z7
    have hij : i ≠ j := fun w => z5 (by rw [ea, eb, w])
    have nab : ¬ (a = b ∨ U (ct b) (ct a) = true) := by
      rintro (w | w)
      · exact z5 w
      · rw [ca, cb, z6] at w; cases w
    have nt : ¬ U (ct a) (ct b) = true := by rw [ca, cb, z7]; decide
    have es : sTell n U a b = tel U i j := by
      have : sTell n U a b = tel U (ct a) (ct b) := if_pos ⟨eab, nab, nt⟩
      rw [this, ca, cb]
    have aT : aTell n U a b = 1 := by unfold aTell; rw [eab, if_pos rfl, if_neg nab, if_neg nt]
    -- what is read is never changed
    have colA : ∀ x, tel U i j x i = U x i := by
      intro x
      unfold tel
      rw [z6, decide_eq_false (show ¬ i = j from hij)]; simp
    have rowB : ∀ z, tel U i j j z = U j z := by
      intro z
      unfold tel
      rw [z6, decide_eq_false (show ¬ j = i from fun w => hij w.symm)]; simp
    have rgT : Rg n n (tel U i j) := by
      intro x z e
      rcases tel_iff.1 e with w | ⟨w1, w2⟩
      · exact u4 x z w
      · refine ⟨?_, ?_⟩
        · rcases w1 with w | w
          · exact (u4 _ _ w).1
          · rw [w]; exact hi
        · rcases w2 with w | w
          · exact (u4 _ _ w).2
          · rw [w]; exact hj
    have telF : ∀ x z, ¬ ((U x i = true ∨ x = i) ∧ (U j z = true ∨ z = j)) → tel U i j x z = U x z := by
      intro x z hn
      cases e : U x z
      · cases e2 : tel U i j x z
        · rfl
        · rcases tel_iff.1 e2 with w | w
          · rw [e] at w; cases w
          · exact (hn w).elim
      · exact tel_iff.2 (Or.inl e)
    have outer : ∀ d x h1, x + d = n → EO y [11] [] h h1 → MX5 h1 (y + 11) (fun u v => if u < x then tel U i j u v else U u v) → RR G (hN h + 0) (hS h + 0) m_X6_tell 66 [some (.ref y), some (.int a), some (.int b), some (.int (nI x)), none] [] h1 (fun w h' => RI (RM2 h y sz E n (sTell n U a b) (aTell n U a b)) w h' ∧ hN h' = hN h + 0 ∧ hS h' = hS h + 0) := by
      intro d
      induction d with
      | zero =>
        intro x h1 e eo hx
        have e : x = n := by omega
        subst e
        obtain ⟨o1, o2, o3, -⟩ := id eo
        have en : hI h1 y 17 = nI x := (eo.f 17 (by decide)).trans u1
        refine s_X6_tell_66 (by rw [o1]; exact hm.1) (fun _ => ?_) (fun z => (z (by rw [en]; exact nI_le (Nat.le_refl _) (by omega))).elim)
        have eo2 : EO y [11] [19] h (sI h1 y 19 0) := (eo.wide (by decide) (by decide)).trans (EO.s0 (by decide))
        rw [es]
        refine rm_fin aT.symm eo2.so ⟨hg.eo eo2 (by decide), hm.eo eo2, ⟨(eo2.f 17 (by decide)).trans u1, u2, fun u v hu hv => ?_, rgT, tel_spo u5 hij z6⟩, Or.inl sI_eq, fun w => (w sI_eq).elim⟩
        rw [sI_ne (by omega), hx u v hu hv]
        show b2i (if u < x then tel U i j u v else U u v) = b2i (tel U i j u v)
        by_cases q : u < x
        · rw [if_pos q]
        · rw [if_neg q]
          have a1 : U u v = false := by cases e : U u v; rfl; have := (u4 _ _ e).1; omega
          have a2 : tel U i j u v = false := by cases e : tel U i j u v; rfl; have := (rgT _ _ e).1; omega
          rw [a1, a2]
      | succ d ih =>
        intro x h1 e eo hx
        have hxn : x < n := by omega
        obtain ⟨o1, o2, o3, -⟩ := id eo
        have en : hI h1 y 17 = nI n := (eo.f 17 (by decide)).trans u1
        refine s_X6_tell_66 (by rw [o1]; exact hm.1) (fun z => absurd z (by rw [en]; exact nI_ge hxn (by omega))) (fun _ => ?_)
        rw [← nI_0]
        have inner : ∀ d k h2, k + d = n → EO y [11] [] h h2 → MX5 h2 (y + 11) (fun u v => if u < x ∨ (u = x ∧ v < k) then tel U i j u v else U u v) → RR G (hN h + 0) (hS h + 0) m_X6_tell 77 [some (.ref y), some (.int a), some (.int b), some (.int (nI x)), some (.int (nI k))] [] h2 (fun w h' => RI (RM2 h y sz E n (sTell n U a b) (aTell n U a b)) w h' ∧ hN h' = hN h + 0 ∧ hS h' = hS h + 0) := by
          intro d
          induction d with
          | zero =>
            intro k h2 e2 eo2 hx2
            have e2 : k = n := by omega
            subst e2
            obtain ⟨p1, p2, p3, -⟩ := id eo2
            have en2 : hI h2 y 17 = nI k := (eo2.f 17 (by decide)).trans u1
            have no : ¬ hI h2 y 17 ≤ nI k → False := fun z => z (by rw [en2]; exact nI_le (Nat.le_refl _) (by omega))
            refine s_X6_tell_77 (by rw [p1]; exact hm.1) (fun _ => ?_) (by rw [p3, r18]; omega) (by rw [p1, p3, r18]; exact k18) (fun z => (no z).elim) (fun z => (no z).elim) (fun z => (no z).elim) (fun z => (no z).elim) (fun z => (no z).elim) (fun z => (no z).elim) (fun z => (no z).elim) (fun z => (no z).elim) (fun z => (no z).elim) (fun z => (no z).elim) (fun z => (no z).elim) (fun z => (no z).elim) (fun z => (no z).elim) (fun z => (no z).elim)
            rw [nI_1]
            refine ih (x + 1) h2 (by omega) eo2 (hx2.congr (fun u v _ _ => ?_))
            show (if u < x ∨ (u = x ∧ v < k) then tel U i j u v else U u v) = (if u < x + 1 then tel U i j u v else U u v)
            by_cases q : u < x
            · rw [if_pos (Or.inl q), if_pos (by omega)]
            · by_cases q2 : u = x
              · subst q2
                rw [if_pos (show u < u + 1 by omega)]
                by_cases q3 : v < k
                · rw [if_pos (Or.inr ⟨rfl, q3⟩)]
                · rw [if_neg (by omega)]
                  have a1 : U u v = false := by cases e : U u v; rfl; have := (u4 _ _ e).2; omega
                  have a2 : tel U i j u v = false := by cases e : tel U i j u v; rfl; have := (rgT _ _ e).2; omega
                  rw [a1, a2]
              · rw [if_neg (by omega), if_neg (by omega)]
          | succ d ih2 =>
            intro k h2 e2 eo2 hx2
            have hkn : k < n := by omega
            obtain ⟨p1, p2, p3, -⟩ := id eo2
            have en2 : hI h2 y 17 = nI n := (eo2.f 17 (by decide)).trans u1
            have no : hI h2 y 17 ≤ nI k → False := fun z => absurd z (by rw [en2]; exact nI_ge hkn (by omega))
            have e18 : hR h2 y 18 = y + 11 := by rw [p3]; exact r18
            have i1 : (50 : Int32) * nI x + nI k = nI (50 * x + k) := idx50 (by omega) (by omega)
            have i2 : (50 : Int32) * b + nI k = nI (50 * j + k) := by rw [eb]; exact idx50 (by omega) (by omega)
            have i3 : (50 : Int32) * nI x + a = nI (50 * x + i) := by rw [ea]; exact idx50 (by omega) (by omega)
            have c1 : Int32.toNatClampNeg (nI (50 * x + k)) = 50 * x + k := nI_clamp (by omega)
            have c2 : Int32.toNatClampNeg (nI (50 * j + k)) = 50 * j + k := nI_clamp (by omega)
            have c3 : Int32.toNatClampNeg (nI (50 * x + i)) = 50 * x + i := nI_clamp (by omega)
            have w2 : hI h2 (y + 11) (50 * j + k) = b2i (U j k) := by
              rw [hx2 j k (by omega) (by omega)]
              show b2i (if j < x ∨ (j = x ∧ k < k) then tel U i j j k else U j k) = _
              by_cases q : j < x ∨ (j = x ∧ k < k)
              · rw [if_pos q, rowB]
              · rw [if_neg q]
            have w3 : hI h2 (y + 11) (50 * x + i) = b2i (U x i) := by
              rw [hx2 x i (by omega) (by omega)]
              show b2i (if x < x ∨ (x = x ∧ i < k) then tel U i j x i else U x i) = _
              by_cases q : x < x ∨ (x = x ∧ i < k)
              · rw [if_pos q, colA]
              · rw [if_neg q]
            have xa : nI x = a ↔ x = i := by rw [ea]; exact nI_eq (by omega) (by omega)
            have kb : nI k = b ↔ k = j := by rw [eb]; exact nI_eq (by omega) (by omega)
            have v1 : vp_in ((50 * nI x) + nI k) (hL h2 (hR h2 y 18)) := by rw [p2, e18, l18, i1]; exact vp_in_nI (by omega) (by decide)
            have v2 : vp_in ((50 * b) + nI k) (hL h2 (hR h2 y 18)) := by rw [p2, e18, l18, i2]; exact vp_in_nI (by omega) (by decide)
            have v3 : vp_in ((50 * nI x) + a) (hL h2 (hR h2 y 18)) := by rw [p2, e18, l18, i3]; exact vp_in_nI (by omega) (by decide)
            have set : tel U i j x k = true → RR G (hN h + 0) (hS h + 0) m_X6_tell 77 [some (.ref y), some (.int a), some (.int b), some (.int (nI x)), some (.int (nI k + 1))] [] (sI h2 (hR h2 y 18) (Int32.toNatClampNeg ((50 * nI x) + nI k)) 1) (fun w h' => RI (RM2 h y sz E n (sTell n U a b) (aTell n U a b)) w h' ∧ hN h' = hN h + 0 ∧ hS h' = hS h + 0) := by
              intro ht
              rw [e18, i1, c1, nI_1]
              refine ih2 (k + 1) _ (by omega) (eo2.trans (EO.cI (by decide) (by decide) (by decide))) (hx2.set (by omega) (by omega) ?_ (fun u v _ _ hn => ?_))
              · show (1 : Int32) = b2i (if x < x ∨ (x = x ∧ k < k + 1) then tel U i j x k else U x k)
                rw [if_pos (Or.inr ⟨rfl, by omega⟩), ht]; rfl
              · show (if u < x ∨ (u = x ∧ v < k) then tel U i j u v else U u v) = (if u < x ∨ (u = x ∧ v < k + 1) then tel U i j u v else U u v)
                by_cases q : u < x ∨ (u = x ∧ v < k)
                · rw [if_pos q, if_pos (by omega)]
                · rw [if_neg q, if_neg (by omega)]
            have skip : tel U i j x k = U x k → RR G (hN h + 0) (hS h + 0) m_X6_tell 77 [some (.ref y), some (.int a), some (.int b), some (.int (nI x)), some (.int (nI k + 1))] [] h2 (fun w h' => RI (RM2 h y sz E n (sTell n U a b) (aTell n U a b)) w h' ∧ hN h' = hN h + 0 ∧ hS h' = hS h + 0) := by
              intro ht
              rw [nI_1]
              refine ih2 (k + 1) h2 (by omega) eo2 (hx2.congr (fun u v _ _ => ?_))
              show (if u < x ∨ (u = x ∧ v < k) then tel U i j u v else U u v) = (if u < x ∨ (u = x ∧ v < k + 1) then tel U i j u v else U u v)
              by_cases q : u < x ∨ (u = x ∧ v < k)
              · rw [if_pos q, if_pos (by omega)]
              · rw [if_neg q]
                by_cases q2 : u = x ∧ v = k
                · rw [if_pos (by omega), q2.1, q2.2, ht]
                · rw [if_neg (by omega)]
            refine s_X6_tell_77 (by rw [p1]; exact hm.1) (fun z => (no z).elim) (by rw [e18]; omega) (by rw [p1, e18]; exact k18) (fun _ _ _ => v1) (fun _ q1 q2 => ?_) (fun _ _ _ => v2) (fun _ q1 q2 q3 => ?_) (fun _ _ _ _ => v1) (fun _ q1 q2 q3 => ?_) (fun _ _ => v3) (fun _ q1 q2 => ?_) (fun _ _ _ _ => v1) (fun _ q1 q2 q3 => ?_) (fun _ _ _ _ => v2) (fun _ q1 q2 q3 q4 => ?_) (fun _ _ _ _ _ => v1) (fun _ q1 q2 q3 q4 => ?_)
            · exact set (tel_iff.2 (Or.inr ⟨Or.inr (xa.1 q1), Or.inr (kb.1 q2)⟩))
            · rw [e18, i2, c2, w2, b2i_0] at q3
              exact skip (telF x k (fun w => by
                rcases w.2 with w | w
                · rw [q3] at w; cases w
                · exact q2 (kb.2 w)))
            · rw [e18, i2, c2, w2, b2i_n] at q3
              exact set (tel_iff.2 (Or.inr ⟨Or.inr (xa.1 q1), Or.inl q3⟩))
            · rw [e18, i3, c3, w3, b2i_0] at q2
              rw [nI_1]
              refine ih (x + 1) h2 (by omega) eo2 (hx2.congr (fun u v _ _ => ?_))
              show (if u < x ∨ (u = x ∧ v < k) then tel U i j u v else U u v) = (if u < x + 1 then tel U i j u v else U u v)
              have rowsame : tel U i j x v = U x v := telF x v (fun w => by
                rcases w.1 with w | w
                · rw [q2] at w; cases w
                · exact q1 (xa.2 w))
              by_cases q : u < x
              · rw [if_pos (Or.inl q), if_pos (by omega)]
              · by_cases q3 : u = x
                · subst q3
                  rw [if_pos (show u < u + 1 by omega), rowsame]
                  by_cases q4 : u < u ∨ (u = u ∧ v < k)
                  · rw [if_pos q4]
                  · rw [if_neg q4]
                · rw [if_neg (by omega), if_neg (by omega)]
            · rw [e18, i3, c3, w3, b2i_n] at q2
              exact set (tel_iff.2 (Or.inr ⟨Or.inl q2, Or.inr (kb.1 q3)⟩))
            · rw [e18, i2, c2, w2, b2i_0] at q4
              exact skip (telF x k (fun w => by
                rcases w.2 with w | w
                · rw [q4] at w; cases w
                · exact q3 (kb.2 w)))
            · rw [e18, i3, c3, w3, b2i_n] at q2
              rw [e18, i2, c2, w2, b2i_n] at q4
              exact set (tel_iff.2 (Or.inr ⟨Or.inl q2, Or.inl q4⟩))
        refine inner n 0 h1 (by omega) eo (hx.congr (fun u v _ _ => ?_))
        show (if u < x then tel U i j u v else U u v) = (if u < x ∨ (u = x ∧ v < 0) then tel U i j u v else U u v)
        by_cases q : u < x
        · rw [if_pos q, if_pos (Or.inl q)]
        · rw [if_neg q, if_neg (by omega)]
    refine outer n 0 h (by omega) EO.rf (fun u v hu hv => ?_)
    show _ = b2i (if u < 0 then tel U i j u v else U u v)
    rw [if_neg (by omega)]; exact u3 u v hu hv
  · obtain ⟨i, j, hi, hj, ea, eb, ca, cb, eab⟩ := pos z1 z2 z3 z4
    rw [r18, ea, eb, idx50 (by omega) (by omega), nI_clamp (by omega), u3 j i (by omega) (by omega), b2i_0] at z6
    rw [r18, ea, eb, idx50 (by omega) (by omega), nI_clamp (by omega), u3 i j (by omega) (by omega), b2i_n] at z7
    have nab : ¬ (a = b ∨ U (ct b) (ct a) = true) := by
      rintro (w | w)
      · exact z5 w
      · rw [ca, cb, z6] at w; cases w
    have nt : U (ct a) (ct b) = true := by rw [ca, cb]; exact z7
    exact same _ (fun q => q.2.2 nt) (by unfold aTell; rw [eab, if_pos rfl, if_neg nab, if_pos nt])
  · obtain ⟨i, j, hi, hj, ea, eb, ca, cb, eab⟩ := pos z1 z2 z3 z4
    rw [r18, ea, eb, idx50 (by omega) (by omega), nI_clamp (by omega), u3 j i (by omega) (by omega), b2i_n] at z6
    have nab : a = b ∨ U (ct b) (ct a) = true := Or.inr (by rw [ca, cb]; exact z6)
    exact same _ (fun q => q.2.1 nab) (by unfold aTell; rw [eab, if_pos rfl, if_pos nab])
  · rw [u1, lt_in (by omega) z3] at z4
    exact nb (Bool.eq_false_iff.2 z4)
theorem r_about (hk : MOK h y sz E n U) (t w : Int32) : Ev G m_X6_about [.ref y, .int t, .int w] h 0 0 (RI (RM2 h y sz E n U (aAbout n U t w))) := by
  obtain ⟨hs, hE, hn, hRU, hU⟩ := hk.lt
  have u1 := hk.2.2.1.1
  refine Ev.of pn_X6_about (Nat.le_of_ble_eq_true rfl) ?_
  have nt : inB t n = false → (fun v h' => RI (RM2 h y sz E n U (aAbout n U t w)) v h' ∧ hN h' = hN h + 0 ∧ hS h' = hS h + 0) (some (.int (-1))) h := fun z => rm_fin (by unfold aAbout; rw [z]; rfl) SO.rf hk
  have out : (w < 0 ∨ 4 < w) → aAbout n U t w = -1 := by
    intro q
    unfold aAbout
    have ne : ∀ v : Int32, (0 ≤ v ∧ v ≤ 4) → w ≠ v := by
      intro v hv e
      subst e
      have q2 : w.toInt < 0 ∨ 4 < w.toInt := by
        rcases q with q | q
        · exact Or.inl (Int32.lt_iff_toInt_lt.1 q)
        · exact Or.inr (Int32.lt_iff_toInt_lt.1 q)
      have a1 : 0 ≤ w.toInt := Int32.le_iff_toInt_le.1 hv.1
      have a2 : w.toInt ≤ 4 := Int32.le_iff_toInt_le.1 hv.2
      omega
    rw [if_neg (ne 0 (by decide)), if_neg (ne 1 (by decide)), if_neg (ne 2 (by decide)), if_neg (ne 3 (by decide)), if_neg (ne 4 (by decide))]
    split <;> rfl
  refine s_X6_about_0 (fun z => nt (neg_in z)) hk.1.1.1 (fun z1 z2 => ?_) (fun _ _ z => rm_fin (out (Or.inl z)).symm SO.rf hk) (fun _ _ _ _ => w_workT hk) (fun z1 z2 z3 z4 h1 q _ _ => ?_) (fun _ _ _ z => rm_fin (out (Or.inr (Int32.not_le.1 z))).symm SO.rf hk)
  · rw [u1, ge_in (by omega) z1] at z2
    exact nt z2
  · rw [u1, ge_in (by omega) z1] at z2
    have z2 : inB t n = true := by simpa using z2
    obtain ⟨i, hi, et⟩ := in_ex (by omega) z2
    have ect : ct t = i := by rw [et]; exact ct_nI (by omega)
    have ci : Int32.toNatClampNeg t = i := ect
    have vi : vp_in t 40 := by rw [et]; exact vp_in_nI (by omega) (by decide)
    obtain ⟨so, hk1, mtx⟩ := q
    have hm := hk1.1.1
    have y0 := hm.2.1
    obtain ⟨r21, k21, l21⟩ := hm.r 21 12 2 40 (by decide)
    obtain ⟨r22, k22, l22⟩ := hm.r 22 13 2 40 (by decide)
    obtain ⟨r23, k23, l23⟩ := hm.r 23 14 2 40 (by decide)
    obtain ⟨r24, k24, l24⟩ := hm.r 24 15 4 40 (by decide)
    obtain ⟨r25, k25, l25⟩ := hm.r 25 16 4 40 (by decide)
    obtain ⟨a1, a2, a3, a4, a5⟩ := mtx.2.1 i hi
    have hB := mtx.2.2
    have ans : aAbout n U t w = if w = 0 then nI (chn n U i) else if w = 1 then enc (bst (fun _ => n) U 0 i) else if w = 2 then nI (lev n U i) else if w = 3 then b2i (dc (mis (fun _ => n) U 1 i ∧ ¬ ptA (fun _ => n) U 0 i)) else if w = 4 then b2i (dc (mis (fun _ => n) U 0 i ∧ ¬ ptA (fun _ => n) U 1 i)) else -1 := by
      unfold aAbout
      rw [z2, if_pos rfl, ect]
    have bi : ∀ c : Bool, (b2i c = 0 → (0 : Int32) = b2i c) ∧ (¬ b2i c = 0 → (1 : Int32) = b2i c) := by decide
    have lt : ∀ r, bst (fun _ => n) U 0 i = some r → r < 2 ^ 31 := fun r e => by have := hRU _ _ (hB.1.1.2 _ _ e); omega
    have four : (w < 0 ∨ 3 < w) → w = 4 := by
      intro q
      have b1 : ¬ w.toInt < 0 := fun z => z3 (Int32.lt_iff_toInt_lt.2 z)
      have b2 : w.toInt ≤ 4 := Int32.le_iff_toInt_le.1 z4
      have b3 : w.toInt < 0 ∨ 3 < w.toInt := by
        rcases q with q | q
        · exact Or.inl (Int32.lt_iff_toInt_lt.1 q)
        · exact Or.inr (Int32.lt_iff_toInt_lt.1 q)
      exact Int32.toInt_inj.1 (show w.toInt = (4 : Int32).toInt by rw [show (4 : Int32).toInt = 4 by decide]; omega)
    refine s_X6_about_27 hm.1 (by rw [r25]; omega) (by rw [r25]; exact k25) (fun _ => by rw [r25, l25]; exact vi) (fun q1 q2 => ?_) (fun q1 q2 => ?_) (by rw [r22]; omega) (by rw [r22]; exact k22) (fun _ => by rw [r22, l22]; exact vi) (fun q1 => ?_) (by rw [r21]; omega) (by rw [r21]; exact k21) (fun _ => by rw [r21, l21]; exact vi) (fun q1 q2 => ?_) (fun q1 q2 => ?_) (by rw [r23]; omega) (by rw [r23]; exact k23) (fun _ => by rw [r23, l23]; exact vi) (fun q1 => ?_) (by rw [r24]; omega) (by rw [r24]; exact k24) (fun _ => by rw [r24, l24]; exact vi) (fun q1 q2 => ?_) (fun q1 q2 => ?_)
    · have e := four q1
      subst e
      rw [r25, ci, a5] at q2
      exact rm_fin (((bi _).1 q2).trans ans.symm) so hk1
    · have e := four q1
      subst e
      rw [r25, ci, a5] at q2
      exact rm_fin (((bi _).2 q2).trans ans.symm) so hk1
    · subst q1
      rw [r22, ci, a2]
      exact rm_fin ans.symm so hk1
    · subst q1
      rw [r21, ci, a1] at q2 ⊢
      refine rm_fin ?_ so hk1
      rw [ans]
      show _ = enc (bst (fun _ => n) U 0 i)
      rw [e1_ge lt] at q2
      obtain ⟨r, hr⟩ := isSome_ex q2
      rw [hr]; rfl
    · subst q1
      rw [r21, ci, a1, e1_ge lt] at q2
      refine rm_fin ?_ so hk1
      rw [ans]
      show _ = enc (bst (fun _ => n) U 0 i)
      cases e : bst (fun _ => n) U 0 i with
      | none => rfl
      | some _ => rw [e] at q2; exact (q2 rfl).elim
    · subst q1
      rw [r23, ci, a3]
      exact rm_fin ans.symm so hk1
    · subst q1
      rw [r24, ci, a4] at q2
      exact rm_fin (((bi _).1 q2).trans ans.symm) so hk1
    · subst q1
      rw [r24, ci, a4] at q2
      exact rm_fin (((bi _).2 q2).trans ans.symm) so hk1
theorem r_clearGraph (hk : MOK h y sz E n U) : Ev G m_X6_clearGraph [.ref y] h 0 0 (RI (RM2 h y (fun _ => 0) (fun _ _ => false) n U (nI (sz 0) + nI (sz 1)))) := by
  obtain ⟨⟨hm, ⟨g1, g2, g3, g4, g5, g6⟩, h01, hfr⟩, hu⟩ := id hk
  obtain ⟨r2, k2, l2⟩ := hm.r 2 1 4 2500 (by decide)
  have y0 := hm.2.1
  have e2500 : (2500 : Int32) = nI 2500 := by decide
  refine Ev.of pn_X6_clearGraph (Nat.le_of_ble_eq_true rfl) ?_
  refine s_X6_clearGraph_0 hm.1 ?_
  have loop : ∀ d k h1, k + d = 2500 → EO y [1] [0, 1, 3] h h1 → hI h1 y 0 = 0 → hI h1 y 1 = 0 → hI h1 y 3 = 0 → (∀ i, i < k → hI h1 (y + 1) i = 0) → RR G (hN h + 0) (hS h + 0) m_X6_clearGraph 27 [some (.ref y), some (.int (nI (sz 0) + nI (sz 1))), some (.int (nI k))] [] h1 (fun v h' => RI (RM2 h y (fun _ => 0) (fun _ _ => false) n U (nI (sz 0) + nI (sz 1))) v h' ∧ hN h' = hN h + 0 ∧ hS h' = hS h + 0) := by
    intro d
    induction d with
    | zero =>
      intro k h1 e eo i0 i1 i3 hb
      have e : k = 2500 := by omega
      subst e
      obtain ⟨o1, o2, o3, -⟩ := id eo
      have no : ¬ (2500 : Int32) ≤ nI 2500 → False := fun z => z (by decide)
      exact s_X6_clearGraph_27 (fun _ => rm_fin rfl eo.so ⟨⟨hm.eo eo, ⟨i0, i1, Nat.zero_le _, Nat.zero_le _, fun l r hl hr => hb _ (by omega), fun l r z => (by cases z)⟩, Or.inl i3, fun w => (w i3).elim⟩, hu.eo eo (by decide)⟩) (by rw [o1]; exact hm.1) (by rw [o3, r2]; omega) (by rw [o1, o3, r2]; exact k2) (fun z => (no z).elim) (fun z => (no z).elim)
    | succ d ih =>
      intro k h1 e eo i0 i1 i3 hb
      obtain ⟨o1, o2, o3, -⟩ := id eo
      have ck : Int32.toNatClampNeg (nI k) = k := nI_clamp (by omega)
      refine s_X6_clearGraph_27 (fun z => absurd z (by rw [e2500]; exact nI_ge (by omega) (by decide))) (by rw [o1]; exact hm.1) (by rw [o3, r2]; omega) (by rw [o1, o3, r2]; exact k2) (fun _ => by rw [o2, o3, r2, l2]; exact vp_in_nI (by omega) (by decide)) (fun _ => ?_)
      rw [o3, r2, ck, nI_1]
      refine ih (k + 1) _ (by omega) (eo.trans (EO.cI (by decide) (by decide) (by decide))) (by rw [sI_ne (by omega)]; exact i0) (by rw [sI_ne (by omega)]; exact i1) (by rw [sI_ne (by omega)]; exact i3) (fun i hi => ?_)
      by_cases q : i = k
      · subst q; exact sI_eq
      · rw [sI_nk q]; exact hb i (by omega)
  rw [g1, g2, ← nI_0]
  refine loop 2500 0 _ (by omega) (((EO.s0 (by decide)).trans (EO.s0 (by decide))).trans (EO.s0 (by decide))) ?_ ?_ sI_eq (fun i hi => absurd hi (by omega))
  · rw [sI_nk (by decide), sI_nk (by decide), sI_eq]; rfl
  · rw [sI_nk (by decide), sI_eq]; rfl
theorem r_clearThings (hk : MOK h y sz E n U) : Ev G m_X6_clearThings [.ref y] h 0 0 (RI (RM2 h y sz E 0 (fun _ _ => false) (nI n))) := by
  obtain ⟨hg, hm, ⟨u1, u2, u3, u4, u5⟩, h01, hfr⟩ := id hk
  obtain ⟨r18, k18, l18⟩ := hm.r 18 11 4 2500 (by decide)
  have y0 := hm.2.1
  have e2500 : (2500 : Int32) = nI 2500 := by decide
  refine Ev.of pn_X6_clearThings (Nat.le_of_ble_eq_true rfl) ?_
  refine s_X6_clearThings_0 hm.1 ?_
  have loop : ∀ d k h1, k + d = 2500 → EO y [11] [17, 19] h h1 → hI h1 y 17 = 0 → hI h1 y 19 = 0 → (∀ i, i < k → hI h1 (y + 11) i = 0) → RR G (hN h + 0) (hS h + 0) m_X6_clearThings 17 [some (.ref y), some (.int (nI n)), some (.int (nI k))] [] h1 (fun v h' => RI (RM2 h y sz E 0 (fun _ _ => false) (nI n)) v h' ∧ hN h' = hN h + 0 ∧ hS h' = hS h + 0) := by
    intro d
    induction d with
    | zero =>
      intro k h1 e eo i0 i1 hb
      have e : k = 2500 := by omega
      subst e
      obtain ⟨o1, o2, o3, -⟩ := id eo
      have no : ¬ (2500 : Int32) ≤ nI 2500 → False := fun z => z (by decide)
      exact s_X6_clearThings_17 (fun _ => rm_fin rfl eo.so ⟨hg.eo eo (by decide), hm.eo eo, ⟨i0, by omega, fun l r hl hr => hb _ (by omega), fun l r z => (by cases z), ⟨fun _ => rfl, fun _ _ _ z => (by cases z)⟩⟩, Or.inl i1, fun w => (w i1).elim⟩) (by rw [o1]; exact hm.1) (by rw [o3, r18]; omega) (by rw [o1, o3, r18]; exact k18) (fun z => (no z).elim) (fun z => (no z).elim)
    | succ d ih =>
      intro k h1 e eo i0 i1 hb
      obtain ⟨o1, o2, o3, -⟩ := id eo
      have ck : Int32.toNatClampNeg (nI k) = k := nI_clamp (by omega)
      refine s_X6_clearThings_17 (fun z => absurd z (by rw [e2500]; exact nI_ge (by omega) (by decide))) (by rw [o1]; exact hm.1) (by rw [o3, r18]; omega) (by rw [o1, o3, r18]; exact k18) (fun _ => by rw [o2, o3, r18, l18]; exact vp_in_nI (by omega) (by decide)) (fun _ => ?_)
      rw [o3, r18, ck, nI_1]
      refine ih (k + 1) _ (by omega) (eo.trans (EO.cI (by decide) (by decide) (by decide))) (by rw [sI_ne (by omega)]; exact i0) (by rw [sI_ne (by omega)]; exact i1) (fun i hi => ?_)
      by_cases q : i = k
      · subst q; exact sI_eq
      · rw [sI_nk q]; exact hb i (by omega)
  rw [u1, ← nI_0]
  refine loop 2500 0 _ (by omega) ((EO.s0 (by decide)).trans (EO.s0 (by decide))) ?_ sI_eq (fun i hi => absurd hi (by omega))
  rw [sI_nk (by decide), sI_eq]; rfl
