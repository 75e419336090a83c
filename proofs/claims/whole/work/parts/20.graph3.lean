section GRAPH3
variable {G : GG} {h : PH} {g m : Nat} {sz : Nat → Nat} {E : Nat → Nat → Bool}
/-- one array of longs filled -/
def filJ (h : PH) (a n : Nat) (v : Int64) (h' : PH) : Prop := SO a (a + 1) h h' ∧ (∀ j, hI h' a j = hI h a j) ∧ ∀ j, hJ h' a j = if j < n then v else hJ h a j
def filI (h : PH) (a n : Nat) (v : Int32) (h' : PH) : Prop := SO a (a + 1) h h' ∧ (∀ j, hJ h' a j = hJ h a j) ∧ ∀ j, hI h' a j = if j < n then v else hI h a j
theorem filJ_step {a k : Nat} {v : Int64} {h1 : PH} (q : filJ h a k v h1) : filJ h a (k + 1) v (sJ h1 a k v) := by
  obtain ⟨q1, q2, q3⟩ := q
  refine ⟨q1.trans (SO.sJ (Nat.le_refl _) (by omega)), q2, fun j => ?_⟩
  rw [hJ_sJ]
  by_cases e : j = k
  · rw [if_pos ⟨rfl, e⟩, if_pos (by omega)]
  · rw [if_neg (fun z => e z.2), q3 j]
    by_cases e2 : j < k
    · rw [if_pos e2, if_pos (by omega)]
    · rw [if_neg e2, if_neg (by omega)]
theorem filI_step {a k : Nat} {v : Int32} {h1 : PH} (q : filI h a k v h1) : filI h a (k + 1) v (sI h1 a k v) := by
  obtain ⟨q1, q2, q3⟩ := q
  refine ⟨q1.trans (SO.sI (Nat.le_refl _) (by omega)), q2, fun j => ?_⟩
  rw [hI_sI]
  by_cases e : j = k
  · rw [if_pos ⟨rfl, e⟩, if_pos (by omega)]
  · rw [if_neg (fun z => e z.2), q3 j]
    by_cases e2 : j < k
    · rw [if_pos e2, if_pos (by omega)]
    · rw [if_neg e2, if_neg (by omega)]
theorem fj_loop {nc ns : Nat} {Z : Option Value → PH → Prop} {a n : Nat} {v : Int64} (hk : hK h a = 3) (hl : hL h a = n) (hn : n < 2 ^ 31) (hz : ∀ h1, filJ h a n v h1 → Z none h1) : ∀ d k h1, k + d = n → filJ h a k v h1 →
    RR G nc ns m_J7_fill_d0a16 6 [some (.ref a), some (.long v), none, some (.int (nI k)), some (.int (nI n))] [] h1 Z := by
  intro d
  induction d with
  | zero =>
    intro k h1 e q
    have e : k = n := by omega
    subst e
    exact s_J7_fill_d0a16_6 (fun _ => hz h1 q) (by rw [q.1.1]; exact hk) (fun z => absurd (nI_le (Nat.le_refl _) hn) z) (fun z => absurd (nI_le (Nat.le_refl _) hn) z)
  | succ d ih =>
    intro k h1 e q
    refine s_J7_fill_d0a16_6 (fun z => absurd z (nI_ge (by omega) hn)) (by rw [q.1.1]; exact hk) (fun _ => by rw [q.1.2.1, hl]; exact vp_in_nI (by omega) hn) (fun _ => ?_)
    rw [nI_1, nI_clamp (by omega)]
    exact ih (k + 1) _ (by omega) (filJ_step q)
theorem fil0 {a : Nat} {v : Int64} : filJ h a 0 v h := ⟨SO.rf, fun _ => rfl, fun j => by rw [if_neg (by omega)]⟩
theorem fil0I {a : Nat} {v : Int32} : filI h a 0 v h := ⟨SO.rf, fun _ => rfl, fun j => by rw [if_neg (by omega)]⟩
theorem ev_fillJ {a n : Nat} {v : Int64} (hk : hK h a = 3) (hl : hL h a = n) (hn : n < 2 ^ 31) : Ev G m_J7_fill_d0a16 [.ref a, .long v] h 0 0 (RV (filJ h a n v)) := by
  refine Ev.of pn_J7_fill_d0a16 (Nat.le_of_ble_eq_true rfl) ?_
  refine s_J7_fill_d0a16_0 (Or.inl (by rw [hk]; rfl)) ?_
  rw [hl]
  exact fj_loop hk hl hn (fun h1 q => ⟨⟨rfl, q⟩, q.1.2.2.2.1, q.1.2.2.2.2.1⟩) n 0 h (by omega) fil0
theorem fi_loop {nc ns : Nat} {Z : Option Value → PH → Prop} {a n : Nat} {v : Int32} (hk : hK h a = 2) (hl : hL h a = n) (hn : n < 2 ^ 31) (hz : ∀ h1, filI h a n v h1 → Z none h1) : ∀ d k h1, k + d = n → filI h a k v h1 →
    RR G nc ns m_J7_fill_53178 5 [some (.ref a), some (.int v), some (.int (nI k)), some (.int (nI n))] [] h1 Z := by
  intro d
  induction d with
  | zero =>
    intro k h1 e q
    have e : k = n := by omega
    subst e
    exact s_J7_fill_53178_5 (fun _ => hz h1 q) (by rw [q.1.1]; exact hk) (fun z => absurd (nI_le (Nat.le_refl _) hn) z) (fun z => absurd (nI_le (Nat.le_refl _) hn) z)
  | succ d ih =>
    intro k h1 e q
    refine s_J7_fill_53178_5 (fun z => absurd z (nI_ge (by omega) hn)) (by rw [q.1.1]; exact hk) (fun _ => by rw [q.1.2.1, hl]; exact vp_in_nI (by omega) hn) (fun _ => ?_)
    rw [nI_1, nI_clamp (by omega)]
    exact ih (k + 1) _ (by omega) (filI_step q)
theorem ev_fillI {a n : Nat} {v : Int32} (hk : hK h a = 2) (hl : hL h a = n) (hn : n < 2 ^ 31) : Ev G m_J7_fill_53178 [.ref a, .int v] h 0 0 (RV (filI h a n v)) := by
  refine Ev.of pn_J7_fill_53178 (Nat.le_of_ble_eq_true rfl) ?_
  refine s_J7_fill_53178_0 (Or.inl (by rw [hk]; rfl)) ?_
  rw [hl]
  exact fi_loop hk hl hn (fun h1 q => ⟨⟨rfl, q⟩, q.1.2.2.2.1, q.1.2.2.2.2.1⟩) n 0 h (by omega) fil0I
/-- the counter of changes has grown by one, the rest of the object stands -/
def chg (h h' : PH) (g : Nat) : Prop := ∀ k, hI h' g k = if k = 3 then hI h g 3 + 1 else hI h g k
def updN (f : Nat → Nat) (k v : Nat) : Nat → Nat := fun j => if j = k then v else f j
theorem ev_add (hg : GS h g m sz E) (sd : Int32) : Ev G m_X1_add [.ref g, .int sd] h 0 0 (RI (fun x h' =>
    (¬ (sd = 0 ∨ sd = 1) ∧ x = -1 ∧ h' = h) ∨ ∃ s, s < 2 ∧ sd = nI s ∧ ((sz s = m ∧ x = -2 ∧ h' = h) ∨ (sz s < m ∧ x = nI (sz s) ∧ SO g (g + 5) h h' ∧ chg h h' g ∧ GS h' g m (updN sz s (sz s + 1)) E)))) := by
  have hg' := hg
  obtain ⟨⟨k0, k1, l1, k2, l2, kr, r1, r2, im, hm⟩, hs, hb, hE⟩ := hg
  refine Ev.of pn_X1_add (Nat.le_of_ble_eq_true rfl) ?_
  by_cases q0 : sd = 0 ∨ sd = 1
  · have e1 := ev_isOneOfTwo (G := G) (h := h) sd
    rw [if_pos q0] at e1
    obtain ⟨s, hs2, rfl⟩ := sd_nI q0
    obtain ⟨i1, hsm⟩ := hs s hs2
    have ei : Int32.toNatClampNeg (nI s) = s := nI_clamp (by omega)
    refine s_X1_add_0 e1 k0 (by rw [r1]; omega) (by rw [r1]; exact k1) (fun _ => by rw [r1, l1]; exact vp_in_nI hs2 (by decide)) (fun _ q => ?_) (fun _ q => ?_) (fun q => absurd q (by decide))
    · rw [r1, ei, i1, im, nI_ltI (by omega) (by omega)] at q
      rw [r1, ei, i1]
      refine ⟨⟨_, rfl, Or.inr ⟨s, hs2, rfl, Or.inr ⟨q, rfl, ?_, ?_, ?_⟩⟩⟩, rfl, rfl⟩
      · exact (SO.sI (by omega) (by omega)).trans (SO.sI (by omega) (by omega))
      · intro k
        by_cases e : k = 3
        · subst e
          rw [sI_eq, if_pos rfl, sI_ne (by omega)]
        · rw [sI_nk e, if_neg e, sI_ne (by omega)]
      · refine ⟨?_, fun t ht => ?_, fun t ht i hi j => ?_, fun l r hlr => ?_⟩
        · refine hg'.1.so ((SO.sI (lo := g) (hi := g + 5) (by omega) (by omega)).trans (SO.sI (by omega) (by omega))) ?_
          rw [sI_nk (by decide), sI_ne (by omega)]
        · rw [sI_ne (by omega)]
          unfold updN
          by_cases e : t = s
          · subst e
            rw [sI_eq, if_pos rfl, nI_1]; exact ⟨rfl, by omega⟩
          · rw [sI_nk e, if_neg e]; exact hs t ht
        · exact hb t ht i hi j
        · have := hE l r hlr
          unfold updN
          constructor
          · split
            · rename_i e; rw [e] at this; omega
            · exact this.1
          · split
            · rename_i e; rw [e] at this; omega
            · exact this.2
    · rw [r1, ei, i1, im, nI_ltI (by omega) (by omega)] at q
      exact ⟨⟨_, rfl, Or.inr ⟨s, hs2, rfl, Or.inl ⟨by omega, rfl, rfl⟩⟩⟩, rfl, rfl⟩
  · have e1 := ev_isOneOfTwo (G := G) (h := h) sd
    rw [if_neg q0] at e1
    exact s_X1_add_0 e1 k0 (by rw [r1]; omega) (by rw [r1]; exact k1) (fun q => absurd rfl q) (fun q => absurd rfl q) (fun q => absurd rfl q) (fun _ => ⟨⟨_, rfl, Or.inl ⟨q0, rfl, rfl⟩⟩, rfl, rfl⟩)
end GRAPH3
