section GRAPH5
variable {G : GG} {h : PH} {g m : Nat} {sz : Nat → Nat} {E : Nat → Nat → Bool}
theorem bt_off {x : Int64} {k : Nat} (hk : k < 64) (j : Nat) : bt (x &&& ((1 <<< (Int32.toInt64 (nI k) &&& 63)) ^^^ (-1))) j = (bt x j && !decide (j = k)) := by
  rw [bt_and, bt_not, bt_bit hk]
  by_cases h1 : j < 64
  · simp [h1]
  · rw [bt_big (by omega)]; simp
theorem ev_unjoin (hg : GS h g m sz E) {i k : Nat} (hi : i < sz 0) (hk : k < sz 1) : Ev G m_X1_unjoin [.ref g, .int (nI i), .int (nI k)] h 0 0 (RV (fun h' => SO g (g + 5) h h' ∧ chg h h' g ∧ GS h' g m sz (fun l r => E l r && !(decide (l = i) && decide (r = k))))) := by
  have e1 := ev_holds (G := G) hg (nI 0) (nI i)
  have e2 := ev_holds (G := G) hg (nI 1) (nI k)
  have g1 := hg.1
  obtain ⟨⟨k0, k1, l1, k2, l2, kr, r1, r2, im, hm⟩, hs, hb, hE⟩ := hg
  obtain ⟨a1, a2, a3⟩ := kr 0 (by decide)
  obtain ⟨b1, b2, b3⟩ := kr 1 (by decide)
  have m0 := (hs 0 (by decide)).2
  have m1 := (hs 1 (by decide)).2
  rw [holdB_nI (by decide), inB_nI (by omega), decide_eq_true (by omega)] at e1 e2
  have ci : Int32.toNatClampNeg (nI i) = i := nI_clamp (by omega)
  have ck : Int32.toNatClampNeg (nI k) = k := nI_clamp (by omega)
  refine Ev.of pn_X1_unjoin (Nat.le_of_ble_eq_true rfl) ?_
  refine s_X1_unjoin_0 (x1 := b2i true) (x2 := b2i true) e1 k0 (fun q => absurd q (by decide)) (fun _ => e2) (fun _ q => absurd q (by decide)) (by rw [r2]; omega) (Or.inr (by rw [r2]; exact k2)) (fun _ _ => by rw [r2, l2]; exact vp_in_nI (n := 0) (by decide) (by decide)) (by rw [r2, a3]; omega) (by rw [r2, a3]; exact a1) (fun _ _ => by rw [r2, a3, a2]; exact vp_in_nI (by omega) (by omega)) (fun _ _ => by rw [r2, l2]; exact vp_in_nI (n := 1) (by decide) (by decide)) (by rw [r2, b3]; omega) (by rw [r2, b3]; exact b1) (fun _ _ => by rw [r2, b3, b2]; exact vp_in_nI (by omega) (by omega)) (fun _ _ => ?_)
  rw [r2, a3, b3, ci, ck]
  have e0 : hJ (sJ h (g + 3 + 0) i (hJ h (g + 3 + 0) i &&& ((1 <<< (Int32.toInt64 (nI k) &&& 63)) ^^^ (-1)))) (g + 3 + 1) k = hJ h (g + 3 + 1) k := sJ_ne (by omega)
  rw [e0]
  have so : SO g (g + 5) h (sI (sJ (sJ h (g + 3 + 0) i (hJ h (g + 3 + 0) i &&& ((1 <<< (Int32.toInt64 (nI k) &&& 63)) ^^^ (-1)))) (g + 3 + 1) k (hJ h (g + 3 + 1) k &&& ((1 <<< (Int32.toInt64 (nI i) &&& 63)) ^^^ (-1)))) g 3 (hI h g 3 + 1)) := ((SO.sJ (by omega) (by omega)).trans (SO.sJ (by omega) (by omega))).trans (SO.sI (by omega) (by omega))
  refine ⟨⟨rfl, so, fun t => ?_, ?_, fun t ht => ?_, fun t ht a ha j => ?_, fun l r hlr => ?_⟩, rfl, rfl⟩
  · by_cases e : t = 3
    · subst e; rw [sI_eq, if_pos rfl]
    · rw [sI_nk e, if_neg e]; rfl
  · exact g1.so so (by rw [sI_nk (by decide)]; rfl)
  · rw [sI_ne (by omega)]; exact hs t ht
  · rw [hJ_sI]
    match t, ht with
    | 0, _ =>
      rw [sJ_ne (by omega)]
      have e4 := hb 0 (by decide) a ha j
      have e5 : ad (fun l r => E l r && !(decide (l = i) && decide (r = k))) 0 a j = (E a j && !(decide (a = i) && decide (j = k))) := rfl
      have e6 : ad E 0 a j = E a j := rfl
      rw [e5]
      rw [e6] at e4
      by_cases ea : a = i
      · subst ea
        rw [sJ_eq, bt_off (by omega), e4]; simp
      · rw [sJ_nk ea, e4]; simp [ea]
    | 1, _ =>
      have e4 := hb 1 (by decide) a ha j
      have e5 : ad (fun l r => E l r && !(decide (l = i) && decide (r = k))) 1 a j = (E j a && !(decide (j = i) && decide (a = k))) := rfl
      have e6 : ad E 1 a j = E j a := rfl
      rw [e5]
      rw [e6] at e4
      by_cases ea : a = k
      · subst ea
        rw [sJ_eq, bt_off (by omega), e4]; simp
      · rw [sJ_nk ea, sJ_ne (by omega), e4]; simp [ea]
  · rw [Bool.and_eq_true] at hlr
    exact hE l r hlr.1
/-- sides below k are empty -/
def clrd (h : PH) (g m k : Nat) (h' : PH) : Prop := SO g (g + 5) h h' ∧ (∀ j, hI h' g j = hI h g j) ∧ (∀ s, s < k → hI h' (g + 1) s = 0 ∧ ∀ i, i < m → hJ h' (g + 3 + s) i = 0) ∧ ∀ s, k ≤ s → s < 2 → hI h' (g + 1) s = hI h (g + 1) s ∧ ∀ i, hJ h' (g + 3 + s) i = hJ h (g + 3 + s) i
theorem clr_loop {nc ns : Nat} {Z : Option Value → PH → Prop} (hg : GL h g m) (hz : ∀ h1, clrd h g m 2 h1 → Z none (sI h1 g 3 (hI h1 g 3 + 1))) : ∀ d k h1, k + d = 2 → clrd h g m k h1 → RR G nc ns m_X1_clear 2 [some (.ref g), some (.int (nI k))] [] h1 Z := by
  have hg' := hg
  obtain ⟨k0, k1, l1, k2, l2, kr, r1, r2, im, hm⟩ := hg
  intro d
  induction d with
  | zero =>
    intro k h1 e q
    have e : k = 2 := by omega
    subst e
    obtain ⟨o1, o2, o3, o4, o5, o6⟩ := id q.1
    have no : ¬ (1 : Int32) < nI 2 → False := fun z => z (by decide)
    exact s_X1_clear_2 (P1 := fun _ => True) (by rw [o1]; exact k0) (fun _ => hz h1 q) (by rw [o3, r1]; omega) (by rw [o1, o3, r1]; exact k1) (fun z => (no z).elim) (by rw [o3, r2]; omega) (Or.inr (by rw [o1, o3, r2]; exact k2)) (fun z => (no z).elim) (fun z => (no z).elim) (fun z => (no z).elim) (fun z => (no z).elim)
  | succ d ih =>
    intro k h1 e q
    have hk : k < 2 := by omega
    obtain ⟨o1, o2, o3, o4, o5, o6⟩ := id q.1
    obtain ⟨a1, a2, a3⟩ := kr k hk
    have ck : Int32.toNatClampNeg (nI k) = k := nI_clamp (by omega)
    have kk1 : hK h1 (g + 3 + k) = 3 := by rw [o1]; exact a1
    have kk2 : hL h1 (g + 3 + k) = m := by rw [o2]; exact a2
    have kk3 : hR h1 (hR h1 g 2) (Int32.toNatClampNeg (nI k)) = g + 3 + k := by rw [o3, r2, ck]; exact a3
    have rr1 : hR h1 g 1 = g + 1 := by rw [o3]; exact r1
    have ef := ev_fillJ (G := G) (h := sI h1 (g + 1) k 0) (a := g + 3 + k) (n := m) (v := 0) kk1 kk2 (by omega)
    refine s_X1_clear_2 (by rw [o1]; exact k0) (fun z => ?_) (by rw [rr1]; omega) (by rw [o1, rr1]; exact k1) (fun _ => by rw [o2, rr1, l1]; exact vp_in_nI hk (by decide)) (by rw [o3, r2]; omega) (Or.inr (by rw [o1, o3, r2]; exact k2)) (fun _ => by rw [o2, o3, r2, l2]; exact vp_in_nI hk (by decide)) (fun _ => by rw [kk3]; omega) (fun _ => by rw [kk3, rr1, ck]; exact ef) (fun _ h2 p2 _ _ => ?_)
    · match k, hk with
      | 0, _ => exact absurd z (by decide)
      | 1, _ => exact absurd z (by decide)
    · refine s_X1_clear_24 ?_
      rw [nI_1]
      obtain ⟨p21, p22, p23⟩ := p2
      obtain ⟨w1, w2, w3, w4, w5, w6⟩ := id p21
      refine ih (k + 1) h2 (by omega) ⟨(q.1.trans (SO.sI (by omega) (by omega))).trans (p21.wide (by omega) (by omega)), fun j => ?_, fun s hs => ?_, fun s hs hs2 => ?_⟩
      · rw [(w6 g (by omega)).1 j, sI_ne (by omega)]; exact q.2.1 j
      · by_cases es : s = k
        · subst es
          refine ⟨by rw [(w6 (g + 1) (by omega)).1 s, sI_eq], fun i hi => ?_⟩
          rw [p23 i, if_pos hi]
        · obtain ⟨z1, z2⟩ := q.2.2.1 s (by omega)
          refine ⟨by rw [(w6 (g + 1) (by omega)).1 s, sI_nk es]; exact z1, fun i hi => ?_⟩
          rw [(w6 (g + 3 + s) (by omega)).2 i]; exact z2 i hi
      · obtain ⟨z1, z2⟩ := q.2.2.2 s (by omega) hs2
        refine ⟨by rw [(w6 (g + 1) (by omega)).1 s, sI_nk (by omega)]; exact z1, fun i => ?_⟩
        rw [(w6 (g + 3 + s) (by omega)).2 i]; exact z2 i
theorem ev_clear (hg : GL h g m) : Ev G m_X1_clear [.ref g] h 0 0 (RV (fun h' => SO g (g + 5) h h' ∧ chg h h' g ∧ GS h' g m (fun _ => 0) (fun _ _ => false))) := by
  refine Ev.of pn_X1_clear (Nat.le_of_ble_eq_true rfl) ?_
  refine s_X1_clear_0 ?_
  refine clr_loop hg (fun h1 q => ?_) 2 0 h (by omega) ⟨SO.rf, fun _ => rfl, fun s hs => by omega, fun s _ _ => ⟨rfl, fun _ => rfl⟩⟩
  have so : SO g (g + 5) h (sI h1 g 3 (hI h1 g 3 + 1)) := q.1.trans (SO.sI (by omega) (by omega))
  refine ⟨⟨rfl, so, fun t => ?_, hg.so so (by rw [sI_nk (by decide)]; exact q.2.1 0), fun t ht => ?_, fun t ht a ha j => ?_, fun l r hlr => by cases hlr⟩, so.2.2.2.1, so.2.2.2.2.1⟩
  · by_cases e : t = 3
    · subst e; rw [sI_eq, if_pos rfl, q.2.1]
    · rw [sI_nk e, if_neg e, q.2.1]
  · rw [sI_ne (by omega), (q.2.2.1 t ht).1]; exact ⟨nI_0.symm, Nat.zero_le m⟩
  · rw [hJ_sI, (q.2.2.1 t ht).2 a ha, bt_zero]
    unfold ad; simp
end GRAPH5
