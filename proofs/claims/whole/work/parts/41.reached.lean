section REACHED
/-- layout of the blocks -/
def BL (h : PH) (b p g : Nat) : Prop := hK h b = 10 ∧ hR h b 0 = g ∧ hR h b 1 = p ∧ hR h b 2 = b + 1 ∧ hR h b 3 = b + 2 ∧ hR h b 4 = b + 3 ∧ (hK h (b + 1) = 3 ∧ hL h (b + 1) = 50) ∧ (hK h (b + 2) = 2 ∧ hL h (b + 2) = 50) ∧ (hK h (b + 3) = 3 ∧ hL h (b + 3) = 50) ∧ 0 < p ∧ p + 11 ≤ b ∧ hR h b 5 = b + 4 ∧ hK h (b + 4) = 3 ∧ hL h (b + 4) = 50
theorem BL.so {h h' : PH} {b p g lo hi : Nat} (hb : BL h b p g) (ho : SO lo hi h h') : BL h' b p g := by
  obtain ⟨k0, r0, r1, r2, r3, r4, k1, k2, k3, p0, pb, r5, k4⟩ := hb
  obtain ⟨o1, o2, o3, o4, o5, o6⟩ := ho
  unfold BL
  rw [o1, o2, o3]
  exact ⟨k0, r0, r1, r2, r3, r4, k1, k2, k3, p0, pb, r5, k4⟩
theorem Wk_ends {R : Nat → Nat → Prop} : ∀ (k a b : Nat), Wk R k a b → (∃ y, R a y) ∧ ∃ x, R x b
  | 0, a, b, h => ⟨⟨b, h⟩, ⟨a, h⟩⟩
  | k + 1, a, b, h => by
    rcases h with h | h
    · exact Wk_ends k a b h
    · exact ⟨(Wk_ends k a k h.1).1, (Wk_ends k k b h.2).2⟩
theorem PP.so {h h' : PH} {p : Nat} {sz : Nat → Nat} {E : Nat → Nat → Bool} {lo hi : Nat} (hP : PP h p sz E) (ho : SO lo hi h h') (hd : p + 9 ≤ lo ∨ hi ≤ p + 7) : PP h' p sz E := by
  intro s hs
  have e : ∀ q, hJ h' (p + 7 + s) q = hJ h (p + 7 + s) q := fun q => (ho.2.2.2.2.2 (p + 7 + s) (by omega)).2 q
  rw [e, e, e]
  exact hP s hs
variable {G : GG} {h : PH} {b p g m : Nat} {sz : Nat → Nat} {E : Nat → Nat → Bool} {mt : Nat → Nat → Option Nat}
theorem sti_wk (hE : Rg (sz 0) (sz 1) E) (hf : Great (sz 0) E (mt 0) (mt 1)) (l j : Nat) : Wk (sti sz E (mt 1)) (sz 0) l j ↔ inn sz E 0 l ∧ inn sz E 0 j ∧ Cl (stp E (mt 1)) l j := by
  constructor
  · intro h
    obtain ⟨⟨y, e1⟩, ⟨x, e2⟩⟩ := Wk_ends _ _ _ h
    exact ⟨e1.1, e2.2.1, (cl_inn hE hf e1.1 e2.2.1).mpr (Wk_cl _ _ _ h)⟩
  · rintro ⟨h1, h2, h3⟩
    exact Wk_of (fun x y z => z.2.1.1) (sti_self hE hf h1) ((cl_inn hE hf h1 h2).mp h3)
/-- the bits of row l are those of R l -/
def rowsR (h1 : PH) (b n : Nat) (R : Nat → Nat → Nat → Prop) : Prop := ∀ l, l < n → ∀ j, bt (hJ h1 (b + 1) l) j = true ↔ R l l j
theorem fr1_loop {nc ns : Nat} {Z : Option Value → PH → Prop} (hg : GS h g m sz E) (hl : PL h p g m) (hp : PS h p m mt (opAll sz)) (hP : PP h p sz E) (hG : Great (sz 0) E (mt 0) (mt 1)) (hb : BL h b p g)
    (K : ∀ h1, SO (b + 1) (b + 2) h h1 → (∀ l, l < sz 0 → ∀ j, bt (hJ h1 (b + 1) l) j = true ↔ sti sz E (mt 1) l j) → RR G nc ns m_X0_findReached 77 [some (.ref b), some (.int (nI (sz 0))), some (.long (hJ h (p + 7 + 0) 1)), none, some (.int 0), none] [] h1 Z) : ∀ d k h1, k + d = sz 0 → SO (b + 1) (b + 2) h h1 → (∀ l, l < k → ∀ j, bt (hJ h1 (b + 1) l) j = true ↔ sti sz E (mt 1) l j) →
    RR G nc ns m_X0_findReached 22 [some (.ref b), some (.int (nI (sz 0))), some (.long (hJ h (p + 7 + 0) 1)), none, some (.int (nI k)), none] [] h1 Z := by
  have hE : Rg (sz 0) (sz 1) E := hg.2.2.2
  have hsm := (hg.2.1 0 (by decide)).2
  have hm := hg.1.2.2.2.2.2.2.2.2.2
  have hin : ∀ i, bt (hJ h (p + 7 + 0) 1) i = true ↔ inn sz E 0 i := (hP 0 (by decide)).2.2
  have gp := hl.2.2.2.2.2.2.2.2.2.2.2.2.2.2.2.2.2.2.2
  have hb' := hb
  obtain ⟨k0, r0, r1, r2, r3, r4, k1, k2, k3, p0, pb, r5, k4⟩ := hb
  have g0 := hl.2.2.2.2.2.2.2.2.2.2.2.2.2.2.2.2.2.2.1
  intro d
  induction d with
  | zero =>
    intro k h1 e so q
    have e : k = sz 0 := by omega
    obtain ⟨o1, o2, o3, o4, o5, o6⟩ := id so
    have no : ¬ nI (sz 0) ≤ nI k → False := fun z => z (by rw [e]; exact nI_le (Nat.le_refl _) (by omega))
    exact s_X0_findReached_22 (x1 := 0) (x2 := 0) (x3 := 0) (fun _ => K h1 so (by rw [e] at q; exact q)) (by rw [o1]; exact k0) (by rw [o3, r2]; omega) (fun z => (no z).elim) (by rw [o1, o3, r2]; exact k1.1) (fun z => (no z).elim) (fun z => (no z).elim) (by rw [o3, r1]; omega) (by rw [o3, r0]; omega) (fun z => (no z).elim) (by rw [o1, o3, r0]; exact hg.1.1) (fun z => (no z).elim) (by rw [o1, o3, r1]; exact hl.1) (fun z => (no z).elim) (fun z => (no z).elim)
  | succ d ih =>
    intro k h1 e so q
    have hk : k < sz 0 := by omega
    obtain ⟨o1, o2, o3, o4, o5, o6⟩ := id so
    have hg1 := hg.so so (Or.inl (by omega))
    have hl1 := hl.so so
    have hp1 := hp.so so (Or.inl (by omega))
    have ck : Int32.toNatClampNeg (nI k) = k := nI_clamp (by omega)
    have rr : hR h1 b 2 = b + 1 := by rw [o3]; exact r2
    refine s_X0_findReached_22 (x1 := b2i (bt (hJ h (p + 7 + 0) 1) k)) (x2 := hJ h1 (g + 3 + 0) k) (x3 := ofP (mSet sz mt 1 (hJ h1 (g + 3 + 0) k))) (fun z => absurd z (nI_ge (by omega) (by omega))) (by rw [o1]; exact k0) (by rw [rr]; omega) (fun _ => ev_contains _ (by omega)) (by rw [o1, rr]; exact k1.1) (fun _ _ => by rw [o2, rr, k1.2]; exact vp_in_nI (by omega) (by decide)) (fun _ z => ?_) (by rw [o3, r1]; omega) (by rw [o3, r0]; omega) (fun _ _ => by rw [o3, r0]; exact ev_across hg1 (s := 0) (by decide) hk) (by rw [o1, o3, r0]; exact hg.1.1) (fun _ _ => by rw [o3, r1]; exact ev_matesOf hg1 hl1 hp1 (s := 1) (by decide) _) (by rw [o1, o3, r1]; exact hl.1) (fun _ _ => by rw [o2, rr, k1.2]; exact vp_in_nI (by omega) (by decide)) (fun _ z => ?_)
    · rw [nI_1, rr, ck]
      refine ih (k + 1) _ (by omega) (so.trans (SO.sJ (by omega) (by omega))) (fun l hl2 j => ?_)
      by_cases el : l = k
      · subst el
        rw [sJ_eq, bt_zero]
        constructor
        · intro w; cases w
        · intro w
          have := (hin l).mpr w.1
          rw [b2i_0.mp z] at this; cases this
      · rw [sJ_nk el]; exact q l (by omega) j
    · rw [nI_1, rr, ck]
      have hik : inn sz E 0 k := (hin k).mp (b2i_n.mp z)
      refine ih (k + 1) _ (by omega) (so.trans (SO.sJ (by omega) (by omega))) (fun l hl2 j => ?_)
      by_cases el : l = k
      · subst el
        rw [sJ_eq, bt_and, Bool.and_eq_true, hin, bt_ofP]
        have hrow : ∀ r, bt (hJ h1 (g + 3 + 0) l) r = E l r := fun r => hg1.2.2.1 0 (by decide) l (by omega) r
        constructor
        · rintro ⟨⟨w1, r, w2, w3, w4⟩, w5⟩
          rw [hrow] at w3
          exact ⟨hik, w5, r, w3, w4⟩
        · rintro ⟨w1, w2, r, w3, w4⟩
          exact ⟨⟨by have := w2.1; omega, r, (hE l r w3).2, by rw [hrow]; exact w3, w4⟩, w2⟩
      · rw [sJ_nk el]; exact q l (by omega) j
theorem fr3_loop {nc ns : Nat} {Z : Option Value → PH → Prop} {n v : Nat} {inr : Int64} {R : Nat → Nat → Prop} (hn : n ≤ 50) (hv : v < n) (hb : BL h b p g)
    (K : ∀ h1, SO (b + 1) (b + 2) h h1 → (∀ l, l < n → ∀ j, bt (hJ h1 (b + 1) l) j = true ↔ Wk R (v + 1) l j) → RR G nc ns m_X0_findReached 77 [some (.ref b), some (.int (nI n)), some (.long inr), none, some (.int (nI (v + 1))), none] [] h1 Z) : ∀ d a h1, a + d = n → SO (b + 1) (b + 2) h h1 → (∀ l, l < n → ∀ j, bt (hJ h1 (b + 1) l) j = true ↔ if l < a then Wk R (v + 1) l j else Wk R v l j) →
    RR G nc ns m_X0_findReached 86 [some (.ref b), some (.int (nI n)), some (.long inr), none, some (.int (nI v)), some (.int (nI a))] [] h1 Z := by
  obtain ⟨k0, r0, r1, r2, r3, r4, k1, k2, k3, p0, pb, r5, k4⟩ := hb
  intro d
  induction d with
  | zero =>
    intro a h1 e so q
    have e : a = n := by omega
    subst e
    obtain ⟨o1, o2, o3, o4, o5, o6⟩ := id so
    have no : ¬ nI a ≤ nI a → False := fun z => z (nI_le (Nat.le_refl _) (by omega))
    refine s_X0_findReached_86 (x1 := 0) (fun _ => ?_) (by rw [o1]; exact k0) (by rw [o3, r2]; omega) (by rw [o1, o3, r2]; exact k1.1) (fun z => (no z).elim) (fun z => (no z).elim) (fun z => (no z).elim) (fun z => (no z).elim) (fun z => (no z).elim)
    rw [nI_1]
    exact K h1 so (fun l hl j => by rw [q l hl j, if_pos hl])
  | succ d ih =>
    intro a h1 e so q
    have ha : a < n := by omega
    obtain ⟨o1, o2, o3, o4, o5, o6⟩ := id so
    have ca : Int32.toNatClampNeg (nI a) = a := nI_clamp (by omega)
    have cv : Int32.toNatClampNeg (nI v) = v := nI_clamp (by omega)
    have rr : hR h1 b 2 = b + 1 := by rw [o3]; exact r2
    have hav : bt (hJ h1 (b + 1) a) v = true ↔ Wk R v a v := by rw [q a ha v, if_neg (by omega)]
    have haj : ∀ j, bt (hJ h1 (b + 1) a) j = true ↔ Wk R v a j := fun j => by rw [q a ha j, if_neg (by omega)]
    have hvj : ∀ j, bt (hJ h1 (b + 1) v) j = true ↔ Wk R v v j := fun j => by
      rw [q v hv j]
      split
      · exact Wk_row
      · exact Iff.rfl
    refine s_X0_findReached_86 (x1 := b2i (bt (hJ h1 (b + 1) a) v)) (fun z => absurd z (nI_ge (by omega) (by omega))) (by rw [o1]; exact k0) (by rw [rr]; omega) (by rw [o1, rr]; exact k1.1) (fun _ => by rw [o2, rr, k1.2]; exact vp_in_nI (by omega) (by decide)) (fun _ => by rw [rr, ca]; exact ev_contains _ (by omega)) (fun _ z => ?_) (fun _ _ => by rw [o2, rr, k1.2]; exact vp_in_nI (by omega) (by decide)) (fun _ z => ?_)
    · rw [nI_1]
      refine ih (a + 1) h1 (by omega) so (fun l hl j => ?_)
      rw [q l hl j]
      by_cases el : l = a
      · subst el
        rw [if_neg (by omega), if_pos (by omega)]
        constructor
        · exact Or.inl
        · intro w
          rcases w with w | w
          · exact w
          · have := hav.mpr w.1
            rw [b2i_0.mp z] at this; cases this
      · by_cases h2 : l < a
        · rw [if_pos h2, if_pos (by omega)]
        · rw [if_neg h2, if_neg (by omega)]
    · rw [nI_1, rr, ca, cv]
      refine ih (a + 1) _ (by omega) (so.trans (SO.sJ (by omega) (by omega))) (fun l hl j => ?_)
      by_cases el : l = a
      · subst el
        rw [sJ_eq, if_pos (by omega), bt_or, Bool.or_eq_true, haj, hvj]
        have := hav.mp (b2i_n.mp z)
        constructor
        · rintro (w | w)
          · exact Or.inl w
          · exact Or.inr ⟨this, w⟩
        · rintro (w | w)
          · exact Or.inl w
          · exact Or.inr w.2
      · rw [sJ_nk el, q l hl j]
        by_cases h2 : l < a
        · rw [if_pos h2, if_pos (by omega)]
        · rw [if_neg h2, if_neg (by omega)]
theorem fr2_loop {nc ns : Nat} {Z : Option Value → PH → Prop} {n : Nat} {inr : Int64} {R : Nat → Nat → Prop} (hn : n ≤ 50) (hb : BL h b p g)
    (hz : ∀ h1, SO (b + 1) (b + 2) h h1 → (∀ l, l < n → ∀ j, bt (hJ h1 (b + 1) l) j = true ↔ Wk R n l j) → Z none h1) : ∀ d v h1, v + d = n → SO (b + 1) (b + 2) h h1 → (∀ l, l < n → ∀ j, bt (hJ h1 (b + 1) l) j = true ↔ Wk R v l j) →
    RR G nc ns m_X0_findReached 77 [some (.ref b), some (.int (nI n)), some (.long inr), none, some (.int (nI v)), none] [] h1 Z := by
  intro d
  induction d with
  | zero =>
    intro v h1 e so q
    have e : v = n := by omega
    subst e
    exact s_X0_findReached_77 (fun _ => hz h1 so q) (fun z => absurd (nI_le (Nat.le_refl _) (by omega)) z)
  | succ d ih =>
    intro v h1 e so q
    refine s_X0_findReached_77 (fun z => absurd z (nI_ge (by omega) (by omega))) (fun _ => ?_)
    refine fr3_loop (h := h1) (R := R) hn (by omega) (hb.so so) (fun h2 so2 q2 => ih (v + 1) h2 (by omega) (so.trans so2) q2) n 0 h1 (by omega) SO.rf (fun l hl j => ?_)
    rw [if_neg (by omega)]; exact q l hl j
theorem ev_findReached (hg : GS h g m sz E) (hl : PL h p g m) (hp : PS h p m mt (opAll sz)) (hP : PP h p sz E) (hG : Great (sz 0) E (mt 0) (mt 1)) (hb : BL h b p g) :
    Ev G m_X0_findReached [.ref b] h 0 0 (RV (fun h' => SO (b + 1) (b + 2) h h' ∧ ∀ l, l < sz 0 → ∀ j, bt (hJ h' (b + 1) l) j = true ↔ inn sz E 0 l ∧ inn sz E 0 j ∧ Cl (stp E (mt 1)) l j)) := by
  have hE : Rg (sz 0) (sz 1) E := hg.2.2.2
  have hsm := (hg.2.1 0 (by decide)).2
  have hm := hg.1.2.2.2.2.2.2.2.2.2
  have hb' := hb
  obtain ⟨k0, r0, r1, r2, r3, r4, k1, k2, k3, p0, pb, r5, k4⟩ := hb
  have g0 := hl.2.2.2.2.2.2.2.2.2.2.2.2.2.2.2.2.2.2.1
  refine Ev.of pn_X0_findReached (Nat.le_of_ble_eq_true rfl) ?_
  refine s_X0_findReached_0 (x1 := nI (sz 0)) (x2 := hJ h (p + 7 + 0) 1) k0 (by rw [r0]; omega) (by rw [r0]; exact ev_sizeOf hg (s := 0) (by decide)) (by rw [r0]; exact hg.1.1) (by rw [r1]; omega) (by rw [r1]; exact ev_nodesOfPart hl (s := 0) (q := 1) (by decide) (by decide)) (by rw [r1]; exact hl.1) ?_
  refine fr1_loop hg hl hp hP hG hb' (fun h1 so q => ?_) (sz 0) 0 h (by omega) SO.rf (fun l hl => absurd hl (by omega))
  refine fr2_loop (h := h1) (R := sti sz E (mt 1)) (by omega) (hb'.so so) (fun h2 so2 q2 => ?_) (sz 0) 0 h1 (by omega) SO.rf q
  have so3 := so.trans so2
  exact ⟨⟨rfl, so3, fun l hl j => by rw [q2 l hl j]; exact sti_wk hE hG l j⟩, so3.2.2.2.1, so3.2.2.2.2.1⟩
end REACHED
