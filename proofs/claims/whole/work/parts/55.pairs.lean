variable {G : GG} {h : PH} {t b g p m B L : Nat} {sz : Nat → Nat} {E : Nat → Nat → Bool} {f f' : Nat → Option Nat}
theorem sh_sym {l l' : Nat} (h : sh sz E l l') : sh sz E l' l := by
  obtain ⟨r, h1, h2⟩ := h; exact ⟨r, h2, h1⟩
noncomputable def pcs (sz : Nat → Nat) (E : Nat → Nat → Bool) (F l : Nat) : Bool := dc (Cl (sh sz E) F l)
noncomputable def prs (sz : Nat → Nat) (E : Nat → Nat → Bool) (F r : Nat) : Bool := dc (∃ l, Cl (sh sz E) F l ∧ Use sz E l r)
theorem pcs_cls {F : Nat} : Cls sz E (pcs sz E F) := fun i i' r h h1 h2 => dc_iff.2 ((dc_iff.1 h).step ⟨r, h1, h2⟩)
theorem pcs_mis (hE : Rg (sz 0) (sz 1) E) {F : Nat} : (∀ l, pcs sz E F l = true → mis sz E 0 l) ∨ (∀ l, pcs sz E F l = true → ¬ mis sz E 0 l) := by
  by_cases q : mis sz E 0 F
  · left
    intro l hl
    refine dc_iff.1 hl (fun x => mis sz E 0 x) q ?_
    rintro x y hx ⟨r, h1, h2⟩
    exact mis_share hE hx h1 h2
  · right
    intro l hl
    refine dc_iff.1 hl (fun x => ¬ mis sz E 0 x) q ?_
    rintro x y hx ⟨r, h1, h2⟩ hy
    exact hx (mis_share hE hy h2 h1)
/-- the cards of a piece, counted by its rows -/
theorem piece_card (hE : Rg (sz 0) (sz 1) E) (hf : Great (sz 0) E f f') {F : Nat} (hF : F < sz 0) (h0 : sz 0 ≤ 16) (h1 : sz 1 ≤ 16) {tu : Bool} (ht : tu = decide (cnt (sz 1) (prs sz E F) < cnt (sz 0) (pcs sz E F))) {h2 : PH} {V : Nat → Nat → Prop} (hV : ∀ l, l < sz 0 → ∀ r, V l r ↔ Use sz E l r) (hc : CS h2 t (pcs sz E F) (prs sz E F) V tu (fun l r => r < 16 ∧ l < sz 0)) :
    HasCard (MS (UQ sz E (pcs sz E F)) (sz 0) (siz (sz 0) (res (pcs sz E F) f))) (Tk (fun i c => (t3 (hI h2 (t + 2) i)).testBit c) (if tu then cnt (sz 0) (pcs sz E F) else cnt (sz 1) (prs sz E F)) (if tu then cnt (sz 1) (prs sz E F) else cnt (sz 0) (pcs sz E F)) (if tu then cnt (sz 1) (prs sz E F) else cnt (sz 0) (pcs sz E F)) 0 (fun _ => false) 0) := by
  have hP : ∀ i, pcs sz E F i = true → i < sz 0 := fun i h => cl_sh_lt hE hF (dc_iff.1 h)
  have hPR : ∀ r, prs sz E F r = true ↔ ∃ l, pcs sz E F l = true ∧ Use sz E l r := fun r => by
    unfold prs pcs
    rw [dc_iff]
    simp only [dc_iff]
  have hRr : ∀ r, prs sz E F r = true → r < sz 1 := fun r h => by
    obtain ⟨l, _, z⟩ := (hPR r).1 h
    exact (use_lt hE z).2
  have hVV : ∀ i j, UQ sz E (pcs sz E F) i j → pcs sz E F i = true ∧ prs sz E F j = true := fun i j z => ⟨z.1, (hPR j).2 ⟨i, z.1, z.2⟩⟩
  obtain ⟨s1, s2, s3⟩ := piece_siz hE hf hP hPR pcs_cls (pcs_mis hE)
  generalize pcs sz E F = P at *
  generalize prs sz E F = R at *
  have n0 : cnt (sz 0) P ≤ sz 0 := cnt_le _ _
  have n1 : cnt (sz 1) R ≤ sz 1 := cnt_le _ _
  have bits : ∀ row col, row < 16 → ((t3 (hI h2 (t + 2) row)).testBit col = true ↔ ∃ l r, P l = true ∧ R r = true ∧ Use sz E l r ∧ row = (if tu then cnt r R else cnt l P) ∧ col = (if tu then cnt l P else cnt r R)) := by
    intro row col hr
    rw [hc row col hr]
    constructor
    · rintro ⟨l, r, z1, z2, z3, z4, z5⟩
      exact ⟨l, r, z2, z3, (hV l z1.2 r).1 z4, z5⟩
    · rintro ⟨l, r, z2, z3, z4, z5⟩
      exact ⟨l, r, ⟨by have := hRr r z3; omega, hP l z2⟩, z2, z3, (hV l (hP l z2) r).2 z4, z5⟩
  cases tu
  · have ht : ¬ cnt (sz 1) R < cnt (sz 0) P := of_decide_eq_false ht.symm
    have es : siz (sz 0) (res P f) = cnt (sz 0) P := by omega
    rw [es]
    simp only [Bool.false_eq_true, if_false] at bits ⊢
    refine MS_cmp hP hRr hVV (MS_Tk (fun i j => ?_))
    constructor
    · rintro ⟨l, r, z1, z2, z3, z4, z5⟩
      have q1 := cnt_strict (hP l z1) z1
      have q2 := cnt_strict (hRr r z3) z3
      exact ⟨by omega, by omega, (bits i j (by omega)).2 ⟨l, r, z1, z3, z5.2, z2.symm, z4.symm⟩⟩
    · rintro ⟨z1, z2, z3⟩
      obtain ⟨l, r, w1, w2, w3, w4, w5⟩ := (bits i j (by omega)).1 z3
      exact ⟨l, r, w1, w4.symm, w2, w5.symm, w1, w3⟩
  · have ht : cnt (sz 1) R < cnt (sz 0) P := of_decide_eq_true ht.symm
    have es : siz (sz 0) (res P f) = cnt (sz 1) R := by omega
    rw [es]
    simp only [if_true] at bits ⊢
    have h3 : HasCard (MS (fun r l => UQ sz E P l r) (sz 1) (cnt (sz 1) R)) (Tk (fun i c => (t3 (hI h2 (t + 2) i)).testBit c) (cnt (sz 0) P) (cnt (sz 1) R) (cnt (sz 1) R) 0 (fun _ => false) 0) := by
      refine MS_cmp hRr hP (fun r l z => (hVV l r z).symm) (MS_Tk (fun i j => ?_))
      constructor
      · rintro ⟨r, l, z1, z2, z3, z4, z5⟩
        have q1 := cnt_strict (hP l z3) z3
        have q2 := cnt_strict (hRr r z1) z1
        exact ⟨by omega, by omega, (bits i j (by omega)).2 ⟨l, r, z3, z1, z5.2, z2.symm, z4.symm⟩⟩
      · rintro ⟨z1, z2, z3⟩
        obtain ⟨l, r, w1, w2, w3, w4, w5⟩ := (bits i j (by omega)).1 z3
        exact ⟨r, l, w2, w4.symm, w1, w5.symm, w1, w3⟩
    exact MS_tr (fun r l z => ⟨hRr r (hVV l r z).2, hP l (hVV l r z).1⟩) h3
noncomputable def pcC (sz : Nat → Nat) (E : Nat → Nat → Bool) (F : Nat) : Nat := if cnt (sz 1) (prs sz E F) < cnt (sz 0) (pcs sz E F) then cnt (sz 0) (pcs sz E F) else cnt (sz 1) (prs sz E F)
def WPost (t B : Nat) (sz : Nat → Nat) (E : Nat → Nat → Bool) (f : Nat → Option Nat) (F L' : Nat) (h : PH) (x : Int64) (h' : PH) : Prop :=
  TO t B h h' ∧ (∀ j, hI h' t j = hI h t j) ∧ (∀ j, hJ h' t j = hJ h t j) ∧ (∀ j, hJ h' (t + 1) j = hJ h (t + 1) j) ∧ TW h' t B L' ∧ ∃ a, HasCard (MS (UQ sz E (pcs sz E F)) (sz 0) (siz (sz 0) (res (pcs sz E F) f))) a ∧ x = c64 a
theorem wp_loop {nc ns : Nat} {Z : Option Value → PH → Prop} {F : Nat} (hT : TL h t b g B) (hW : TW h t B L) (hg : GS h g m sz E) (h0 : sz 0 ≤ 16) (h1 : sz 1 ≤ 16) (hU : TU h t sz E) (hf : Great (sz 0) E f f') (hF : F < sz 0) (hnc : hN h + mcW L (pcC sz E F) ≤ nc) (hns : hS h + msW L (pcC sz E F) ≤ ns)
    (hz : ∀ x h', WPost t B sz E f F (lW L (pcC sz E F)) h x h' → hN h' = hN h + mcW L (pcC sz E F) → hS h' = hS h + msW L (pcC sz E F) → Z (some (.long x)) h') : ∀ d k (y : Int64), k + d = sz 0 → (∀ r, bt y r = true ↔ ∃ l, l < k ∧ Cl (sh sz E) F l ∧ Use sz E l r) →
    RR G nc ns m_X4_waysToPair 5 [some (.ref t), some (.long (ofP (Cl (sh sz E) F))), none, some (.long y), none, some (.int (nI k)), none, none] [] h Z := by
  have hE : Rg (sz 0) (sz 1) E := hg.2.2.2
  obtain ⟨a1, a2, a3, a4, a5, a6, a7, a8, a9, a10, a11, a12, a13⟩ := id hT
  have bx : ∀ l, l < 64 → bt (ofP (Cl (sh sz E) F)) l = pcs sz E F l := fun l hl => dc_eq (by rw [bt_ofP]; exact ⟨fun z => z.2, fun z => ⟨hl, z⟩⟩)
  have uk : ∀ l, l < sz 0 → ∀ r, bt (hJ h (t + 1) l) r = true ↔ Use sz E l r := by
    intro l hl r
    rw [hU l hl, bt_ofP]
    exact ⟨fun z => z.2, fun z => ⟨by have := (use_lt hE z).2; omega, z⟩⟩
  intro d
  induction d with
  | zero =>
    intro k y e hy
    have e : k = sz 0 := by omega
    subst e
    have no : ¬ nI (sz 0) ≤ nI (sz 0) → False := fun z => z (nI_le (Nat.le_refl _) (by omega))
    have by' : ∀ r, bt y r = prs sz E F r := fun r => dc_eq (by
      rw [hy r]
      constructor
      · rintro ⟨l, _, z⟩; exact ⟨l, z⟩
      · rintro ⟨l, z1, z2⟩; exact ⟨l, (use_lt hE z2).1, z1, z2⟩)
    have cx : cnt 64 (bt (ofP (Cl (sh sz E) F))) = cnt (sz 0) (pcs sz E F) := by
      rw [cnt_congr bx]
      exact cnt_cut (by omega) (fun i hi _ => dc_no.2 (fun z => by have := cl_sh_lt hE hF z; omega))
    have cy : cnt 64 (bt y) = cnt (sz 1) (prs sz E F) := by
      rw [cnt_congr (fun i _ => by' i)]
      exact cnt_cut (by omega) (fun i hi _ => dc_no.2 (fun ⟨l, _, z⟩ => by have := (use_lt hE z).2; omega))
    have nP : cnt (sz 0) (pcs sz E F) ≤ sz 0 := cnt_le _ _
    have nR : cnt (sz 1) (prs sz E F) ≤ sz 1 := cnt_le _ _
    have fin : ∀ (tu : Bool), tu = decide (cnt (sz 1) (prs sz E F) < cnt (sz 0) (pcs sz E F)) → ∀ h4, SO (t + 2) (t + 3) h h4 → CS h4 t (pcs sz E F) (prs sz E F) (fun l r => bt (hJ h (t + 1) l) r = true) tu (fun l r => r < 16 ∧ l < sz 0) → hN h4 = hN h → hS h4 = hS h →
        RR G nc ns m_X4_waysToPair 73 [some (.ref t), some (.long (ofP (Cl (sh sz E) F))), none, some (.long y), none, some (.int (nI (cnt (sz 0) (pcs sz E F)))), some (.int (nI (cnt (sz 1) (prs sz E F)))), some (.int (b2i tu))] [] h4 Z := by
      intro tu etu h4 so hc n4 s4
      obtain ⟨o1, o2, o3, o4, o5, o6⟩ := id so
      have card := piece_card hE hf hF h0 h1 etu uk hc
      have post : ∀ x h', TO t B h4 h' → TK t h4 h' → TW h' t B (lW L (pcC sz E F)) → (∃ a, HasCard (MS (UQ sz E (pcs sz E F)) (sz 0) (siz (sz 0) (res (pcs sz E F) f))) a ∧ x = c64 a) → WPost t B sz E f F (lW L (pcC sz E F)) h x h' := by
        intro x h' to tk tw hx
        refine ⟨(so.to (by omega)).trans to, fun j => ?_, fun j => ?_, fun j => ?_, tw, hx⟩
        · rw [tk.1 j, (o6 t (by omega)).1]
        · rw [tk.2.1 j, (o6 t (by omega)).2]
        · rw [tk.2.2.1 j, (o6 (t + 1) (by omega)).2]
      cases tu
      · have eC : pcC sz E F = cnt (sz 1) (prs sz E F) := if_neg (of_decide_eq_false etu.symm)
        rw [eC] at hnc hns post hz
        have ec := ev_waysToChoose (G := G) (C := cnt (sz 1) (prs sz E F)) (R := cnt (sz 0) (pcs sz E F)) (hT.so so) (hW.so so) (by omega) (by omega)
        refine s_X4_waysToPair_73 (mc1 := mcW L (cnt (sz 1) (prs sz E F))) (ms1 := msW L (cnt (sz 1) (prs sz E F))) (mc2 := 0) (ms2 := 0) (P2 := fun _ _ => True) (by omega) (by omega) (fun _ => ec) (by rw [o1]; exact a1) (fun _ x h5 q n5 s5 => ?_) (by omega) (by omega) (fun z => (z rfl).elim) (fun z => (z rfl).elim)
        refine s_X4_waysToPair_97 (hz x h5 (post x h5 q.1 q.2.1 q.2.2.1 ⟨_, card, q.2.2.2⟩) (by omega) (by omega))
      · have eC : pcC sz E F = cnt (sz 0) (pcs sz E F) := if_pos (of_decide_eq_true etu.symm)
        rw [eC] at hnc hns post hz
        have ec := ev_waysToChoose (G := G) (C := cnt (sz 0) (pcs sz E F)) (R := cnt (sz 1) (prs sz E F)) (hT.so so) (hW.so so) (by omega) (by omega)
        have n1 : b2i true ≠ 0 := by decide
        refine s_X4_waysToPair_73 (mc2 := mcW L (cnt (sz 0) (pcs sz E F))) (ms2 := msW L (cnt (sz 0) (pcs sz E F))) (mc1 := 0) (ms1 := 0) (P1 := fun _ _ => True) (by omega) (by omega) (fun z => (n1 z).elim) (by rw [o1]; exact a1) (fun z => (n1 z).elim) (by omega) (by omega) (fun _ => ec) (fun _ x h5 q n5 s5 => ?_)
        refine s_X4_waysToPair_86 (s_X4_waysToPair_97 (hz x h5 (post x h5 q.1 q.2.1 q.2.2.1 ⟨_, card, q.2.2.2⟩) (by omega) (by omega)))
    refine s_X4_waysToPair_5 (x1 := nI (sz 0)) (x2 := nI (cnt (sz 0) (pcs sz E F))) (x3 := nI (cnt (sz 1) (prs sz E F))) (x6 := 0) (P4 := fun h1 => SO (t + 2) (t + 3) h h1 ∧ CS h1 t (pcs sz E F) (prs sz E F) (fun l r => bt (hJ h (t + 1) l) r = true) false (fun l r => r < 16 ∧ l < sz 0)) (P5 := fun h1 => SO (t + 2) (t + 3) h h1 ∧ CS h1 t (pcs sz E F) (prs sz E F) (fun l r => bt (hJ h (t + 1) l) r = true) true (fun l r => r < 16 ∧ l < sz 0)) (ev_lefts hT hg h0) a1 (fun _ => by rw [← cx]; exact ev_bc64 _) (fun _ => by rw [← cy]; exact ev_bc64 _) (fun _ _ => ev_setChoices (tu := false) hT hg h0 (fun l hl => (bx l (by omega)).symm) (fun r _ => (by' r).symm)) (fun _ z h4 q n4 s4 => ?_) (fun _ _ => ev_setChoices (tu := true) hT hg h0 (fun l hl => (bx l (by omega)).symm) (fun r _ => (by' r).symm)) (fun _ z h5 q n5 s5 => ?_) (fun z => (no z).elim) (fun z => (no z).elim) (by rw [a4]; omega) (by rw [a4]; exact a6.1) (fun z => (no z).elim) (fun z => (no z).elim)
    · refine fin false ?_ h4 q.1 q.2 n4 s4
      have := (nI_leI (by omega) (by omega)).1 z
      exact (decide_eq_false (by omega)).symm
    · refine fin true ?_ h5 q.1 q.2 n5 s5
      have : ¬ cnt (sz 0) (pcs sz E F) ≤ cnt (sz 1) (prs sz E F) := fun w => z ((nI_leI (by omega) (by omega)).2 w)
      exact (decide_eq_true (by omega)).symm
  | succ d ih =>
    intro k y e hy
    have hk : k < sz 0 := by omega
    have ck : Int32.toNatClampNeg (nI k) = k := nI_clamp (by omega)
    have no : nI (sz 0) ≤ nI k → False := nI_ge hk (by omega)
    have b0 : ∀ {c : Bool}, (if c then (1 : Int32) else 0) = 0 → c = false := fun {c} q => by cases c; rfl; cases q
    have b1 : ∀ {c : Bool}, ¬ (if c then (1 : Int32) else 0) = 0 → c = true := fun {c} q => by cases c; exact (q rfl).elim; rfl
    refine s_X4_waysToPair_5 (x1 := nI (sz 0)) (x2 := 0) (x3 := 0) (x6 := if bt (ofP (Cl (sh sz E) F)) k then 1 else 0) (P4 := fun _ => True) (P5 := fun _ => True) (ev_lefts hT hg h0) a1 (fun z => (no z).elim) (fun z => (no z).elim) (fun z => (no z).elim) (fun z => (no z).elim) (fun z => (no z).elim) (fun z => (no z).elim) (fun _ => ev_contains _ (by omega)) (fun _ z => ?_) (by rw [a4]; omega) (by rw [a4]; exact a6.1) (fun _ _ => by rw [a4, a6.2]; exact vp_in_nI (by omega) (by decide)) (fun _ z => ?_)
    · have q := b0 z
      rw [bx k (by omega)] at q
      have q := dc_no.1 q
      rw [nI_1]
      refine ih (k + 1) y (by omega) (fun r => ?_)
      rw [hy r]
      constructor
      · rintro ⟨l, z1, z2⟩; exact ⟨l, by omega, z2⟩
      · rintro ⟨l, z1, z2⟩
        refine ⟨l, ?_, z2⟩
        by_cases el : l = k
        · subst el; exact (q z2.1).elim
        · omega
    · have q := b1 z
      rw [bx k (by omega)] at q
      have q := dc_iff.1 q
      rw [nI_1, a4, ck]
      refine ih (k + 1) _ (by omega) (fun r => ?_)
      rw [bt_or, Bool.or_eq_true, hy r, uk k hk]
      constructor
      · rintro (⟨l, z1, z2⟩ | z)
        · exact ⟨l, by omega, z2⟩
        · exact ⟨k, by omega, q, z⟩
      · rintro ⟨l, z1, z2⟩
        by_cases el : l = k
        · subst el; exact Or.inr z2.2
        · exact Or.inl ⟨l, by omega, z2⟩
theorem ev_waysToPair {F : Nat} (hT : TL h t b g B) (hW : TW h t B L) (hg : GS h g m sz E) (h0 : sz 0 ≤ 16) (h1 : sz 1 ≤ 16) (hU : TU h t sz E) (hf : Great (sz 0) E f f') (hF : F < sz 0) :
    Ev G m_X4_waysToPair [.ref t, .long (ofP (Cl (sh sz E) F))] h (mcW L (pcC sz E F)) (msW L (pcC sz E F)) (RJ (WPost t B sz E f F (lW L (pcC sz E F)) h)) := by
  refine Ev.of pn_X4_waysToPair (Nat.le_of_ble_eq_true rfl) ?_
  refine s_X4_waysToPair_0 ?_
  rw [← nI_0]
  refine wp_loop hT hW hg h0 h1 hU hf hF (Nat.le_refl _) (Nat.le_refl _) (fun x h' q n s => ⟨⟨x, rfl, q⟩, n, s⟩) (sz 0) 0 0 (by omega) (fun r => ?_)
  rw [bt_zero]
  exact ⟨fun z => (by cases z), fun ⟨l, z, _⟩ => absurd z (by omega)⟩
