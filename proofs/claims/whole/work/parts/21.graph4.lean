section GRAPH4
variable {G : GG} {h : PH} {g m : Nat} {sz : Nat → Nat} {E : Nat → Nat → Bool}
/-- entries of a set's members get more bits -/
def orJ (h : PH) (a k : Nat) (set add : Int64) (h' : PH) : Prop := SO a (a + 1) h h' ∧ (∀ j, hI h' a j = hI h a j) ∧ ∀ j, hJ h' a j = if j < k ∧ bt set j = true then hJ h a j ||| add else hJ h a j
theorem orJ0 {a : Nat} {set add : Int64} : orJ h a 0 set add h := ⟨SO.rf, fun _ => rfl, fun j => by rw [if_neg (by omega)]⟩
theorem orJ_no {a k : Nat} {set add : Int64} {h1 : PH} (q : orJ h a k set add h1) (hb : bt set k = false) : orJ h a (k + 1) set add h1 := by
  refine ⟨q.1, q.2.1, fun j => ?_⟩
  rw [q.2.2 j]
  by_cases e : j = k
  · rw [if_neg (by omega), if_neg (by rw [e, hb]; simp)]
  · by_cases z : j < k ∧ bt set j = true
    · rw [if_pos z, if_pos ⟨by omega, z.2⟩]
    · rw [if_neg z, if_neg (fun z2 => z ⟨by omega, z2.2⟩)]
theorem orJ_yes {a k : Nat} {set add : Int64} {h1 : PH} (q : orJ h a k set add h1) (hb : bt set k = true) : orJ h a (k + 1) set add (sJ h1 a k (hJ h1 a k ||| add)) := by
  refine ⟨q.1.trans (SO.sJ (Nat.le_refl _) (by omega)), q.2.1, fun j => ?_⟩
  by_cases e : j = k
  · subst e
    rw [sJ_eq, if_pos ⟨by omega, hb⟩, q.2.2 j, if_neg (by omega)]
  · rw [sJ_nk e, q.2.2 j]
    by_cases z : j < k ∧ bt set j = true
    · rw [if_pos z, if_pos ⟨by omega, z.2⟩]
    · rw [if_neg z, if_neg (fun z2 => z ⟨by omega, z2.2⟩)]
theorem ja_loop2' {nc ns : Nat} {Z : Option Value → PH → Prop} {Ls Rs : Int64} (hg : GL h g m) (hs : ∀ s, s < 2 → hI h (g + 1) s = nI (sz s) ∧ sz s ≤ m) (hz : ∀ h2, orJ h (g + 4) (sz 1) Rs Ls h2 → Z none (sI h2 g 3 (hI h2 g 3 + 1))) : ∀ d k h1, k + d = sz 1 → orJ h (g + 4) k Rs Ls h1 →
    RR G nc ns m_X1_joinAll 45 [some (.ref g), some (.long Ls), none, some (.long Rs), none, some (.int (nI k))] [] h1 Z := by
  obtain ⟨k0, k1, l1, k2, l2, kr, r1, r2, im, hm⟩ := hg
  obtain ⟨a1, a2, a3⟩ := kr 1 (by decide)
  obtain ⟨i1, hsm⟩ := hs 1 (by decide)
  intro d
  induction d with
  | zero =>
    intro k h1 e q
    have e : k = sz 1 := by omega
    subst e
    obtain ⟨o1, o2, o3, o4, o5, o6⟩ := q.1
    have ii : hI h1 (g + 1) 1 = nI (sz 1) := by rw [(o6 (g + 1) (by omega)).1]; exact i1
    have no : ¬ hI h1 (hR h1 g 1) 1 ≤ nI (sz 1) → False := fun z => z (by rw [o3, r1, ii]; exact nI_le (Nat.le_refl _) (by omega))
    exact s_X1_joinAll_45 (x1 := 0) (by rw [o1]; exact k0) (by rw [o3, r1]; omega) (by rw [o1, o3, r1]; exact k1) (by rw [o2, o3, r1, l1]; exact vp_in_nI (n := 1) (by decide) (by decide)) (fun _ => hz h1 q) (fun z => (no z).elim) (fun z => (no z).elim) (by rw [o3, r2]; omega) (Or.inr (by rw [o1, o3, r2]; exact k2)) (fun z => (no z).elim) (by rw [o3, r2, a3]; omega) (by rw [o1, o3, r2, a3]; exact a1) (fun z => (no z).elim) (fun z => (no z).elim)
  | succ d ih =>
    intro k h1 e q
    obtain ⟨o1, o2, o3, o4, o5, o6⟩ := q.1
    have ii : hI h1 (g + 1) 1 = nI (sz 1) := by rw [(o6 (g + 1) (by omega)).1]; exact i1
    refine s_X1_joinAll_45 (x1 := b2i (bt Rs k)) (by rw [o1]; exact k0) (by rw [o3, r1]; omega) (by rw [o1, o3, r1]; exact k1) (by rw [o2, o3, r1, l1]; exact vp_in_nI (n := 1) (by decide) (by decide)) (fun z => ?_) (fun _ => ev_contains _ (by omega)) (fun _ z => ?_) (by rw [o3, r2]; omega) (Or.inr (by rw [o1, o3, r2]; exact k2)) (fun _ _ => by rw [o2, o3, r2, l2]; exact vp_in_nI (n := 1) (by decide) (by decide)) (by rw [o3, r2, a3]; omega) (by rw [o1, o3, r2, a3]; exact a1) (fun _ _ => by rw [o2, o3, r2, a3, a2]; exact vp_in_nI (by omega) (by omega)) (fun _ z => ?_)
    · rw [o3, r1, ii] at z
      exact absurd z (nI_ge (by omega) (by omega))
    · rw [nI_1]
      exact ih (k + 1) h1 (by omega) (orJ_no q (b2i_0.mp z))
    · rw [nI_1, o3, r2, a3, nI_clamp (by omega)]
      exact ih (k + 1) _ (by omega) (orJ_yes q (b2i_n.mp z))
theorem ja_loop1 {nc ns : Nat} {Z : Option Value → PH → Prop} {Ls Rs : Int64} (hg : GS h g m sz E) (hz : ∀ h1, orJ h (g + 3) (sz 0) Ls Rs h1 → RR G nc ns m_X1_joinAll 45 [some (.ref g), some (.long Ls), none, some (.long Rs), none, some (.int 0)] [] h1 Z) : ∀ d k h1, k + d = sz 0 → orJ h (g + 3) k Ls Rs h1 →
    RR G nc ns m_X1_joinAll 3 [some (.ref g), some (.long Ls), none, some (.long Rs), none, some (.int (nI k))] [] h1 Z := by
  obtain ⟨⟨k0, k1, l1, k2, l2, kr, r1, r2, im, hm⟩, hs, hb, hE⟩ := hg
  obtain ⟨a1, a2, a3⟩ := kr 0 (by decide)
  obtain ⟨i1, hsm⟩ := hs 0 (by decide)
  intro d
  induction d with
  | zero =>
    intro k h1 e q
    have e : k = sz 0 := by omega
    subst e
    obtain ⟨o1, o2, o3, o4, o5, o6⟩ := q.1
    have ii : hI h1 (g + 1) 0 = nI (sz 0) := by rw [(o6 (g + 1) (by omega)).1]; exact i1
    have no : ¬ hI h1 (hR h1 g 1) 0 ≤ nI (sz 0) → False := fun z => z (by rw [o3, r1, ii]; exact nI_le (Nat.le_refl _) (by omega))
    exact s_X1_joinAll_3 (x1 := 0) (by rw [o1]; exact k0) (by rw [o3, r1]; omega) (by rw [o1, o3, r1]; exact k1) (by rw [o2, o3, r1, l1]; exact vp_in_nI (n := 0) (by decide) (by decide)) (fun _ => hz h1 q) (fun z => (no z).elim) (fun z => (no z).elim) (by rw [o3, r2]; omega) (Or.inr (by rw [o1, o3, r2]; exact k2)) (fun z => (no z).elim) (by rw [o3, r2, a3]; omega) (by rw [o1, o3, r2, a3]; exact a1) (fun z => (no z).elim) (fun z => (no z).elim)
  | succ d ih =>
    intro k h1 e q
    obtain ⟨o1, o2, o3, o4, o5, o6⟩ := q.1
    have ii : hI h1 (g + 1) 0 = nI (sz 0) := by rw [(o6 (g + 1) (by omega)).1]; exact i1
    refine s_X1_joinAll_3 (x1 := b2i (bt Ls k)) (by rw [o1]; exact k0) (by rw [o3, r1]; omega) (by rw [o1, o3, r1]; exact k1) (by rw [o2, o3, r1, l1]; exact vp_in_nI (n := 0) (by decide) (by decide)) (fun z => ?_) (fun _ => ev_contains _ (by omega)) (fun _ z => ?_) (by rw [o3, r2]; omega) (Or.inr (by rw [o1, o3, r2]; exact k2)) (fun _ _ => by rw [o2, o3, r2, l2]; exact vp_in_nI (n := 0) (by decide) (by decide)) (by rw [o3, r2, a3]; omega) (by rw [o1, o3, r2, a3]; exact a1) (fun _ _ => by rw [o2, o3, r2, a3, a2]; exact vp_in_nI (by omega) (by omega)) (fun _ z => ?_)
    · rw [o3, r1, ii] at z
      exact absurd z (nI_ge (by omega) (by omega))
    · rw [nI_1]
      exact ih (k + 1) h1 (by omega) (orJ_no q (b2i_0.mp z))
    · rw [nI_1, o3, r2, a3, nI_clamp (by omega)]
      exact ih (k + 1) _ (by omega) (orJ_yes q (b2i_n.mp z))
theorem ev_joinAll {Ls Rs : Int64} (hg : GS h g m sz E) (hLs : ∀ i, bt Ls i = true → i < sz 0) (hRs : ∀ i, bt Rs i = true → i < sz 1) : Ev G m_X1_joinAll [.ref g, .long Ls, .long Rs] h 0 0 (RV (fun h' => SO g (g + 5) h h' ∧ chg h h' g ∧ GS h' g m sz (fun l r => E l r || (bt Ls l && bt Rs r)))) := by
  refine Ev.of pn_X1_joinAll (Nat.le_of_ble_eq_true rfl) ?_
  refine s_X1_joinAll_0 ?_
  refine ja_loop1 (G := G) hg (fun h1 q1 => ?_) (sz 0) 0 h (by omega) orJ0
  have w1 := q1.1
  obtain ⟨g1, g2, g3, g4⟩ := hg
  obtain ⟨o1, o2, o3, o4, o5, o6⟩ := id w1
  have L1 : GL h1 g m := g1.so w1 ((o6 g (by omega)).1 0)
  have hz2 : ∀ h2, orJ h1 (g + 4) (sz 1) Rs Ls h2 → (fun v h' => RV (fun h' => SO g (g + 5) h h' ∧ chg h h' g ∧ GS h' g m sz (fun l r => E l r || (bt Ls l && bt Rs r))) v h' ∧ hN h' = hN h + 0 ∧ hS h' = hS h + 0) none (sI h2 g 3 (hI h2 g 3 + 1)) := by
    intro h2 q2
    obtain ⟨p1, p2, p3, p4, p5, p6⟩ := id q2.1
    have so : SO g (g + 5) h (sI h2 g 3 (hI h2 g 3 + 1)) := ((w1.wide (by omega) (by omega)).trans (q2.1.wide (by omega) (by omega))).trans (SO.sI (by omega) (by omega))
    have gi : ∀ k, hI h2 g k = hI h g k := fun k => by rw [(p6 g (by omega)).1 k, (o6 g (by omega)).1 k]
    refine ⟨⟨rfl, so, fun k => ?_, ?_, fun t ht => ?_, fun t ht i hi j => ?_, fun l r hlr => ?_⟩, so.2.2.2.1, so.2.2.2.2.1⟩
    · by_cases e : k = 3
      · subst e; rw [sI_eq, if_pos rfl, gi]
      · rw [sI_nk e, if_neg e, gi]
    · exact g1.so so (by rw [sI_nk (by decide), gi])
    · rw [sI_ne (by omega), (p6 (g + 1) (by omega)).1 t, (o6 (g + 1) (by omega)).1 t]
      exact g2 t ht
    · rw [hJ_sI]
      match t, ht with
      | 0, _ =>
        have e1 : hJ h2 (g + 3 + 0) i = hJ h1 (g + 3) i := (p6 (g + 3) (by omega)).2 i
        rw [e1, q1.2.2 i]
        have e2 := g3 0 (by decide) i hi j
        simp only [ad, if_true] at e2 ⊢
        by_cases z : i < sz 0 ∧ bt Ls i = true
        · rw [if_pos z, bt_or, show g + 3 = g + 3 + 0 from rfl, e2, z.2]; simp
        · rw [if_neg z, show g + 3 = g + 3 + 0 from rfl, e2]
          have : bt Ls i = false := by
            cases hc : bt Ls i with
            | false => rfl
            | true => exact absurd ⟨hLs i hc, hc⟩ z
          rw [this]; simp
      | 1, _ =>
        have e1 : hJ h2 (g + 3 + 1) i = if i < sz 1 ∧ bt Rs i = true then hJ h1 (g + 4) i ||| Ls else hJ h1 (g + 4) i := q2.2.2 i
        have e3 : hJ h1 (g + 4) i = hJ h (g + 3 + 1) i := (o6 (g + 4) (by omega)).2 i
        rw [e1, e3]
        have e2 := g3 1 (by decide) i hi j
        have e4 : ad (fun l r => E l r || (bt Ls l && bt Rs r)) 1 i j = (E j i || (bt Ls j && bt Rs i)) := rfl
        have e5 : ad E 1 i j = E j i := rfl
        rw [e4]
        rw [e5] at e2
        by_cases z : i < sz 1 ∧ bt Rs i = true
        · rw [if_pos z, bt_or, e2, z.2]; simp
        · rw [if_neg z, e2]
          have : bt Rs i = false := by
            cases hc : bt Rs i with
            | false => rfl
            | true => exact absurd ⟨hRs i hc, hc⟩ z
          rw [this]; simp
    · rw [Bool.or_eq_true, Bool.and_eq_true] at hlr
      rcases hlr with z | z
      · exact g4 l r z
      · exact ⟨hLs l z.1, hRs r z.2⟩
  exact ja_loop2' (h := h1) L1 (fun t ht => by rw [(o6 (g + 1) (by omega)).1 t]; exact g2 t ht) hz2 (sz 1) 0 h1 (by omega) orJ0
end GRAPH4
