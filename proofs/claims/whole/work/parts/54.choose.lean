variable {G : GG} {h : PH} {t b g p m B L : Nat} {sz : Nat → Nat} {E : Nat → Nat → Bool} {f f' : Nat → Option Nat}
/-- what the rows of choices say, of the pairs that came before -/
def CS (h1 : PH) (t : Nat) (P R : Nat → Bool) (V : Nat → Nat → Prop) (tu : Bool) (C : Nat → Nat → Prop) : Prop := ∀ row col, row < 16 → ((t3 (hI h1 (t + 2) row)).testBit col = true ↔ ∃ l r, C l r ∧ P l = true ∧ R r = true ∧ V l r ∧ row = (if tu then cnt r R else cnt l P) ∧ col = (if tu then cnt l P else cnt r R))
theorem CS.congr {h1 : PH} {P R : Nat → Bool} {V : Nat → Nat → Prop} {tu : Bool} {C D : Nat → Nat → Prop} (hc : CS h1 t P R V tu C) (hd : ∀ l r, P l = true → R r = true → V l r → (C l r ↔ D l r)) : CS h1 t P R V tu D := by
  intro row col hr
  rw [hc row col hr]
  constructor
  · rintro ⟨l, r, z1, z2, z3, z4, z5⟩; exact ⟨l, r, (hd l r z2 z3 z4).1 z1, z2, z3, z4, z5⟩
  · rintro ⟨l, r, z1, z2, z3, z4, z5⟩; exact ⟨l, r, (hd l r z2 z3 z4).2 z1, z2, z3, z4, z5⟩
theorem t3_set {v : Int32} {c : Nat} (hc : c < 16) (j : Nat) : (t3 (v ||| (1 <<< (nI c &&& 31)))).testBit j = true ↔ (t3 v).testBit j = true ∨ j = c := by
  rw [shl_1 c (by omega), t3_or, t3_nI (by have := pow_lt31 (c := c) (by omega); omega), Nat.testBit_or, nat_bit, Bool.or_eq_true, decide_eq_true_iff]
theorem CS.set {h1 : PH} {P R : Nat → Bool} {V : Nat → Nat → Prop} {tu : Bool} {C : Nat → Nat → Prop} {k r : Nat} (hc : CS h1 t P R V tu C) (hP : P k = true) (hRr : R r = true) (hV : V k r) {row col : Nat} (er : row = (if tu then cnt r R else cnt k P)) (ec : col = (if tu then cnt k P else cnt r R)) (h16 : col < 16) :
    CS (sI h1 (t + 2) row (hI h1 (t + 2) row ||| (1 <<< (nI col &&& 31)))) t P R V tu (fun x y => C x y ∨ (x = k ∧ y = r)) := by
  intro row' col' hr
  rw [hI_sI]
  by_cases q : row' = row
  · subst q
    rw [if_pos ⟨rfl, rfl⟩, t3_set h16, hc row' col' hr]
    constructor
    · rintro (⟨l, r', z1, z2⟩ | z)
      · exact ⟨l, r', Or.inl z1, z2⟩
      · exact ⟨k, r, Or.inr ⟨rfl, rfl⟩, hP, hRr, hV, er, z.trans ec⟩
    · rintro ⟨l, r', z1 | ⟨z1, z2⟩, z3⟩
      · exact Or.inl ⟨l, r', z1, z3⟩
      · subst z1 z2
        exact Or.inr (z3.2.2.2.2.trans ec.symm)
  · rw [if_neg (fun z => q z.2), hc row' col' hr]
    constructor
    · rintro ⟨l, r', z1, z2⟩; exact ⟨l, r', Or.inl z1, z2⟩
    · rintro ⟨l, r', z1 | ⟨z1, z2⟩, z3⟩
      · exact ⟨l, r', z1, z3⟩
      · subst z1 z2
        exact absurd (z3.2.2.2.1.trans er.symm) q
theorem sc_inner {nc ns : Nat} {Z : Option Value → PH → Prop} {x y : Int64} {k i : Nat} {P R : Nat → Bool} {tu : Bool} (hT : TL h t b g B) (hk : k < 16) (hP : P k = true) (hi : cnt k P = i) (hR : ∀ r, r < 16 → R r = bt y r)
    (K : ∀ h1, SO (t + 2) (t + 3) h h1 → CS h1 t P R (fun l r => bt (hJ h (t + 1) l) r = true) tu (fun l r => r < 16 ∧ l < k + 1) → RR G nc ns m_X4_setChoices 14 [some (.ref t), some (.long x), none, some (.long y), none, some (.int (b2i tu)), some (.int (nI i + 1)), some (.int (nI k + 1)), none, none, none, none] [] h1 Z) : ∀ d r h1, r + d = 16 → SO (t + 2) (t + 3) h h1 → CS h1 t P R (fun l r => bt (hJ h (t + 1) l) r = true) tu (fun l r' => r' < 16 ∧ (l < k ∨ (l = k ∧ r' < r))) →
    RR G nc ns m_X4_setChoices 41 [some (.ref t), some (.long x), none, some (.long y), none, some (.int (b2i tu)), some (.int (nI i)), some (.int (nI k)), some (.int (nI (cnt r R))), some (.int (nI r)), none, none] [] h1 Z := by
  obtain ⟨a1, a2, a3, a4, a5, a6, a7, a8, a9, a10, a11, a12, a13⟩ := id hT
  have hik : i ≤ k := by rw [← hi]; exact cnt_le _ _
  have e16 : (16 : Int32) = nI 16 := by decide
  have ck : Int32.toNatClampNeg (nI k) = k := nI_clamp (by omega)
  have ci : Int32.toNatClampNeg (nI i) = i := nI_clamp (by omega)
  intro d
  induction d with
  | zero =>
    intro r h1 e so hc
    have e : r = 16 := by omega
    subst e
    obtain ⟨o1, o2, o3, o4, o5, o6⟩ := id so
    have no : ¬ (16 : Int32) ≤ nI 16 → False := fun z => z (by rw [e16]; exact nI_le (Nat.le_refl _) (by decide))
    refine s_X4_setChoices_41 (x1 := 0) (x2 := 0) (fun _ => K h1 so (hc.congr (fun l r _ _ _ => ?_))) (fun z => (no z).elim) (by rw [o1]; exact a1) (by rw [o3, a4]; omega) (by rw [o1, o3, a4]; exact a6.1) (fun z => (no z).elim) (fun z => (no z).elim) (fun z => (no z).elim) (by rw [o3, a5]; omega) (by rw [o1, o3, a5]; exact a7.1) (fun z => (no z).elim) (fun z => (no z).elim) (fun z => (no z).elim) (fun z => (no z).elim) (fun z => (no z).elim) (fun z => (no z).elim) (fun z => (no z).elim) (fun z => (no z).elim) (fun z => (no z).elim) (fun z => (no z).elim) (fun z => (no z).elim)
    constructor
    · rintro ⟨z1, z2 | z2⟩ <;> exact ⟨z1, by omega⟩
    · rintro ⟨z1, z2⟩; exact ⟨z1, by omega⟩
  | succ d ih =>
    intro r h1 e so hc
    have hr : r < 16 := by omega
    obtain ⟨o1, o2, o3, o4, o5, o6⟩ := id so
    have hcr : cnt r R ≤ r := cnt_le _ _
    have cc : Int32.toNatClampNeg (nI (cnt r R)) = cnt r R := nI_clamp (by omega)
    have uJ : hJ h1 (t + 1) k = hJ h (t + 1) k := (o6 (t + 1) (by omega)).2 k
    have stay : ¬ (R r = true ∧ bt (hJ h (t + 1) k) r = true) → CS h1 t P R (fun l r => bt (hJ h (t + 1) l) r = true) tu (fun l r' => r' < 16 ∧ (l < k ∨ (l = k ∧ r' < r + 1))) := fun hn => hc.congr (fun l r' _ z2 z3 => by
      constructor
      · rintro ⟨w1, w2 | w2⟩
        · exact ⟨w1, Or.inl w2⟩
        · exact ⟨w1, Or.inr ⟨w2.1, by omega⟩⟩
      · rintro ⟨w1, w2 | ⟨w2, w3⟩⟩
        · exact ⟨w1, Or.inl w2⟩
        · refine ⟨w1, Or.inr ⟨w2, ?_⟩⟩
          by_cases er : r' = r
          · subst er w2; exact (hn ⟨z2, z3⟩).elim
          · omega)
    have cs1 : R r = true → cnt (r + 1) R = cnt r R + 1 := fun q => by rw [cnt_s, q]; rfl
    have cs0 : R r = false → cnt (r + 1) R = cnt r R := fun q => by rw [cnt_s, q]; rfl
    have fin : R r = true → bt (hJ h (t + 1) k) r = true → ∀ row col, row = (if tu then cnt r R else cnt k P) → col = (if tu then cnt k P else cnt r R) → col < 16 → RR G nc ns m_X4_setChoices 41 [some (.ref t), some (.long x), none, some (.long y), none, some (.int (b2i tu)), some (.int (nI i)), some (.int (nI k)), some (.int (nI (cnt r R) + 1)), some (.int (nI r + 1)), none, none] [] (sI h1 (t + 2) row (hI h1 (t + 2) row ||| (1 <<< (nI col &&& 31)))) Z := by
      intro q1 q2 row col er ec h16
      rw [nI_1, nI_1, ← cs1 q1]
      refine ih (r + 1) _ (by omega) (so.trans (SO.sI (by omega) (by omega))) ((hc.set hP q1 q2 er ec h16).congr (fun l r' _ _ _ => ?_))
      constructor
      · rintro (⟨w1, w2 | w2⟩ | ⟨w1, w2⟩)
        · exact ⟨w1, Or.inl w2⟩
        · exact ⟨w1, Or.inr ⟨w2.1, by omega⟩⟩
        · exact ⟨by omega, Or.inr ⟨w1, by omega⟩⟩
      · rintro ⟨w1, w2 | ⟨w2, w3⟩⟩
        · exact Or.inl ⟨w1, Or.inl w2⟩
        · by_cases er : r' = r
          · exact Or.inr ⟨w2, er⟩
          · exact Or.inl ⟨w1, Or.inr ⟨w2, by omega⟩⟩
    have b0 : ∀ {c : Bool}, (if c then (1 : Int32) else 0) = 0 → c = false := fun {c} q => by cases c; rfl; cases q
    have b1 : ∀ {c : Bool}, ¬ (if c then (1 : Int32) else 0) = 0 → c = true := fun {c} q => by cases c; exact (q rfl).elim; rfl
    refine s_X4_setChoices_41 (x1 := if bt y r then 1 else 0) (x2 := if bt (hJ h (t + 1) k) r then 1 else 0) (fun z => ?_) (fun _ => ev_contains _ (by omega)) (by rw [o1]; exact a1) (by rw [o3, a4]; omega) (by rw [o1, o3, a4]; exact a6.1) (fun _ _ => by rw [o2, o3, a4, a6.2]; exact vp_in_nI hk (by decide)) (fun _ _ => by rw [o3, a4, ck, uJ]; exact ev_contains _ (by omega)) (fun _ z1 z2 => ?_) (by rw [o3, a5]; omega) (by rw [o1, o3, a5]; exact a7.1) (fun _ _ _ _ _ => by rw [o2, o3, a5, a7.2]; exact vp_in_nI (by omega) (by decide)) (fun _ z1 z2 z3 _ => ?_) (fun _ _ _ z3 z4 => (z4 z3).elim) (fun _ _ _ z3 z4 => (z4 z3).elim) (fun _ _ _ z3 z4 => (z4 z3).elim) (fun _ _ _ z3 z4 => (z3 z4).elim) (fun _ _ _ z3 z4 => (z3 z4).elim) (fun _ _ _ _ _ => by rw [o2, o3, a5, a7.2]; exact vp_in_nI (by omega) (by decide)) (fun _ _ _ _ _ => by rw [o2, o3, a5, a7.2]; exact vp_in_nI (by omega) (by decide)) (fun _ z1 z2 z3 _ => ?_) (fun _ z1 => ?_)
    · rw [e16] at z
      exact absurd z (nI_ge hr (by decide))
    · have q1 : R r = true := by rw [hR r hr]; exact b1 z1
      rw [nI_1, nI_1, ← cs1 q1]
      exact ih (r + 1) h1 (by omega) so (stay (fun w => by rw [b0 z2] at w; cases w.2))
    · rw [o3, a5, ci]
      have et : tu = false := by cases tu; rfl; cases z3
      exact fin (by rw [hR r hr]; exact b1 z1) (b1 z2) i (cnt r R) (by rw [et]; exact hi.symm) (by rw [et]; rfl) (by omega)
    · rw [o3, a5, cc]
      have et : tu = true := by cases tu; exact (z3 rfl).elim; rfl
      exact fin (by rw [hR r hr]; exact b1 z1) (b1 z2) (cnt r R) i (by rw [et]; rfl) (by rw [et]; exact hi.symm) (by omega)
    · have q1 : R r = false := by rw [hR r hr]; exact b0 z1
      rw [nI_1, ← cs0 q1]
      exact ih (r + 1) h1 (by omega) so (stay (fun w => by rw [q1] at w; cases w.1))
theorem sc_outer {nc ns : Nat} {Z : Option Value → PH → Prop} {x y : Int64} {P R : Nat → Bool} {tu : Bool} (hT : TL h t b g B) (hg : GS h g m sz E) (hn : sz 0 ≤ 16) (hP : ∀ l, l < sz 0 → P l = bt x l) (hR : ∀ r, r < 16 → R r = bt y r)
    (hz : ∀ h1, SO (t + 2) (t + 3) h h1 → CS h1 t P R (fun l r => bt (hJ h (t + 1) l) r = true) tu (fun l r => r < 16 ∧ l < sz 0) → Z none h1) : ∀ d k h1, k + d = sz 0 → SO (t + 2) (t + 3) h h1 → CS h1 t P R (fun l r => bt (hJ h (t + 1) l) r = true) tu (fun l r => r < 16 ∧ l < k) →
    RR G nc ns m_X4_setChoices 14 [some (.ref t), some (.long x), none, some (.long y), none, some (.int (b2i tu)), some (.int (nI (cnt k P))), some (.int (nI k)), none, none, none, none] [] h1 Z := by
  obtain ⟨a1, a2, a3, a4, a5, a6, a7, a8, a9, a10, a11, a12, a13⟩ := id hT
  intro d
  induction d with
  | zero =>
    intro k h1 e so hc
    have e : k = sz 0 := by omega
    subst e
    obtain ⟨o1, o2, o3, o4, o5, o6⟩ := id so
    have no : ¬ nI (sz 0) ≤ nI (sz 0) → False := fun z => z (nI_le (Nat.le_refl _) (by omega))
    exact s_X4_setChoices_14 (x1 := nI (sz 0)) (x2 := 0) (ev_lefts (hT.so so) (hg.so so (Or.inl (by omega))) hn) (by rw [o1]; exact a1) (fun _ => hz h1 so hc) (fun z => (no z).elim) (fun z => (no z).elim) (fun z => (no z).elim)
  | succ d ih =>
    intro k h1 e so hc
    have hk : k < sz 0 := by omega
    obtain ⟨o1, o2, o3, o4, o5, o6⟩ := id so
    have b0 : ∀ {c : Bool}, (if c then (1 : Int32) else 0) = 0 → c = false := fun {c} q => by cases c; rfl; cases q
    have b1 : ∀ {c : Bool}, ¬ (if c then (1 : Int32) else 0) = 0 → c = true := fun {c} q => by cases c; exact (q rfl).elim; rfl
    refine s_X4_setChoices_14 (x1 := nI (sz 0)) (x2 := if bt x k then 1 else 0) (ev_lefts (hT.so so) (hg.so so (Or.inl (by omega))) hn) (by rw [o1]; exact a1) (fun z => absurd z (nI_ge hk (by omega))) (fun _ => ev_contains _ (by omega)) (fun _ z => ?_) (fun _ z => ?_)
    · have hPk : P k = true := by rw [hP k hk]; exact b1 z
      have uJ : ∀ l, hJ h1 (t + 1) l = hJ h (t + 1) l := (o6 (t + 1) (by omega)).2
      have cc : ∀ h2 C, CS h2 t P R (fun l r => bt (hJ h1 (t + 1) l) r = true) tu C ↔ CS h2 t P R (fun l r => bt (hJ h (t + 1) l) r = true) tu C := by
        intro h2 C
        simp only [uJ]
      have key := sc_inner (G := G) (nc := nc) (ns := ns) (Z := Z) (x := x) (y := y) (tu := tu) (h := h1) (i := cnt k P) (hT.so so) (by omega) hPk rfl hR (fun h2 so2 q => ?_) 16 0 h1 (by omega) SO.rf ((cc _ _).2 (hc.congr (fun l r _ _ _ => ?_)))
      · exact key
      · rw [nI_1, nI_1]
        have : cnt (k + 1) P = cnt k P + 1 := by rw [cnt_s, hPk]; rfl
        rw [← this]
        exact ih (k + 1) h2 (by omega) (so.trans so2) ((cc _ _).1 q)
      · exact ⟨fun z => ⟨z.1, Or.inl z.2⟩, fun z => ⟨z.1, by omega⟩⟩
    · have hPk : P k = false := by rw [hP k hk]; exact b0 z
      rw [nI_1]
      have : cnt (k + 1) P = cnt k P := by rw [cnt_s, hPk]; rfl
      rw [← this]
      refine ih (k + 1) h1 (by omega) so (hc.congr (fun l r z1 _ _ => ?_))
      constructor
      · rintro ⟨w1, w2⟩; exact ⟨w1, by omega⟩
      · rintro ⟨w1, w2⟩
        refine ⟨w1, ?_⟩
        by_cases el : l = k
        · subst el; rw [hPk] at z1; cases z1
        · omega
theorem ev_setChoices {x y : Int64} {P R : Nat → Bool} {tu : Bool} (hT : TL h t b g B) (hg : GS h g m sz E) (hn : sz 0 ≤ 16) (hP : ∀ l, l < sz 0 → P l = bt x l) (hR : ∀ r, r < 16 → R r = bt y r) :
    Ev G m_X4_setChoices [.ref t, .long x, .long y, .int (b2i tu)] h 0 0 (RV (fun h1 => SO (t + 2) (t + 3) h h1 ∧ CS h1 t P R (fun l r => bt (hJ h (t + 1) l) r = true) tu (fun l r => r < 16 ∧ l < sz 0))) := by
  obtain ⟨a1, a2, a3, a4, a5, a6, a7, a8, a9, a10, a11, a12, a13⟩ := id hT
  refine Ev.of pn_X4_setChoices (Nat.le_of_ble_eq_true rfl) ?_
  refine s_X4_setChoices_0 a1 (by rw [a5]; omega) (by rw [a5]; exact ev_fillI a7.1 a7.2 (by decide)) (fun h1 q _ _ => ?_)
  obtain ⟨so, qz⟩ : SO (t + 2) (t + 3) h h1 ∧ ∀ i, i < 16 → hI h1 (t + 2) i = 0 :=
    ⟨q.1, fun i hi => by rw [q.2.2 i, if_pos hi]⟩
  obtain ⟨o1, o2, o3, o4, o5, o6⟩ := id so
  refine s_X4_setChoices_8 ?_
  have uJ : ∀ l, hJ h1 (t + 1) l = hJ h (t + 1) l := (o6 (t + 1) (by omega)).2
  have cc : ∀ h2 C, CS h2 t P R (fun l r => bt (hJ h1 (t + 1) l) r = true) tu C ↔ CS h2 t P R (fun l r => bt (hJ h (t + 1) l) r = true) tu C := by
    intro h2 C
    simp only [uJ]
  have := sc_outer (h := h1) (G := G) (nc := hN h + 0) (ns := hS h + 0) (x := x) (y := y) (tu := tu) (hT.so so) (hg.so so (Or.inl (by omega))) hn hP hR (Z := fun v h' => RV (fun h1 => SO (t + 2) (t + 3) h h1 ∧ CS h1 t P R (fun l r => bt (hJ h (t + 1) l) r = true) tu (fun l r => r < 16 ∧ l < sz 0)) v h' ∧ hN h' = hN h + 0 ∧ hS h' = hS h + 0) (fun h2 so2 q => ⟨⟨rfl, so.trans so2, (cc _ _).1 q⟩, by rw [so2.2.2.2.1, o4]; rfl, by rw [so2.2.2.2.2.1, o5]; rfl⟩) (sz 0) 0 h1 (by omega) SO.rf (fun row col hr => ?_)
  · exact this
  · rw [qz row hr]
    constructor
    · intro z; rw [show t3 0 = 0 from rfl, Nat.zero_testBit] at z; cases z
    · rintro ⟨l, r, ⟨_, z⟩, _⟩; omega
