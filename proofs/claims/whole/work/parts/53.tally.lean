variable {G : GG} {h : PH} {t b g p m B L : Nat} {sz : Nat → Nat} {E : Nat → Nat → Bool} {f f' : Nat → Option Nat}
theorem ev_lefts (hT : TL h t b g B) (hg : GS h g m sz E) (hn : sz 0 ≤ 16) : Ev G m_X4_lefts [.ref t] h 0 0 (Ret (some (.int (nI (sz 0)))) h) := by
  refine Ev.of pn_X4_lefts (Nat.le_of_ble_eq_true rfl) ?_
  refine s_X4_lefts_0 (x1 := nI (sz 0)) hT.1 (by rw [hT.2.1]; have := hT.2.2.2.2.2.2.2.2.2.1; omega) (by rw [hT.2.1]; exact ev_sizeOf hg (s := 0) (by decide)) (by rw [hT.2.1]; exact hg.1.1) ?_
  rw [min16 hn]
  exact Zok
/-- the useful edges of each left node -/
def TU (h : PH) (t : Nat) (sz : Nat → Nat) (E : Nat → Nat → Bool) : Prop := ∀ l, l < sz 0 → hJ h (t + 1) l = ofP (Use sz E l)
def sh (sz : Nat → Nat) (E : Nat → Nat → Bool) (l l' : Nat) : Prop := ∃ r, Use sz E l r ∧ Use sz E l' r
theorem use_lt (hE : Rg (sz 0) (sz 1) E) {l r : Nat} (h : Use sz E l r) : l < sz 0 ∧ r < sz 1 := hE _ _ (use_E h)
theorem cl_sh_lt (hE : Rg (sz 0) (sz 1) E) {F l : Nat} (hF : F < sz 0) (h : Cl (sh sz E) F l) : l < sz 0 := by
  refine h (fun x => x < sz 0) hF ?_
  rintro x y _ ⟨r, h1, h2⟩
  exact (use_lt hE h2).1
theorem po_sweep {nc ns : Nat} {Z : Option Value → PH → Prop} {F ro : Nat} {e1 : Int32} (hT : TL h t b g B) (hg : GS h g m sz E) (hn : sz 0 ≤ 16) (hU : TU h t sz E) (hF : F < sz 0) {x0 q0 : Int64} (hq0 : ∀ r, bt q0 r = true ↔ ∃ l, bt x0 l = true ∧ Use sz E l r)
    (K : ∀ x q : Int64, (∀ l, bt x l = true → Cl (sh sz E) F l) → (∀ l, bt x0 l = true → bt x l = true) → (∀ r, bt q r = true ↔ ∃ l, bt x l = true ∧ Use sz E l r) → (∀ l r, Use sz E l r → bt q0 r = true → bt x l = true) → RR G nc ns m_X4_pieceOf 15 [some (.ref t), some (.int e1), some (.long x), none, some (.long q), none, some (.int (nI ro + 1)), none] [] h Z) : ∀ d k (x q : Int64), k + d = sz 0 → (∀ l, bt x l = true → Cl (sh sz E) F l) → (∀ l, bt x0 l = true → bt x l = true) → (∀ r, bt q r = true ↔ ∃ l, bt x l = true ∧ Use sz E l r) → (∀ l r, l < k → Use sz E l r → bt q0 r = true → bt x l = true) →
    RR G nc ns m_X4_pieceOf 27 [some (.ref t), some (.int e1), some (.long x), none, some (.long q), none, some (.int (nI ro)), some (.int (nI k))] [] h Z := by
  have hE : Rg (sz 0) (sz 1) E := hg.2.2.2
  have hs1 := (hg.2.1 1 (by decide)).2
  have hm := hg.1.2.2.2.2.2.2.2.2.2
  obtain ⟨a1, a2, a3, a4, a5, a6, a7, a8, a9, a10, a11, a12, a13⟩ := id hT
  intro d
  induction d with
  | zero =>
    intro k x q e h1 h2 h3 h4
    have e : k = sz 0 := by omega
    subst e
    have no : ¬ nI (sz 0) ≤ nI (sz 0) → False := fun z => z (nI_le (Nat.le_refl _) (by omega))
    exact s_X4_pieceOf_27 (x1 := nI (sz 0)) (ev_lefts hT hg hn) a1 (fun _ => K x q h1 h2 h3 (fun l r hu hq => h4 l r (use_lt hE hu).1 hu hq)) (by rw [a4]; omega) (by rw [a4]; exact a6.1) (fun z => (no z).elim) (fun z => (no z).elim) (fun z => (no z).elim)
  | succ d ih =>
    intro k x q e h1 h2 h3 h4
    have hk : k < sz 0 := by omega
    have ck : Int32.toNatClampNeg (nI k) = k := nI_clamp (by omega)
    have uk : ∀ r, bt (hJ h (t + 1) k) r = true ↔ Use sz E k r := by
      intro r
      rw [hU k hk, bt_ofP]
      exact ⟨fun z => z.2, fun z => ⟨by have := (use_lt hE z).2; omega, z⟩⟩
    have nz : (hJ h (t + 1) k &&& q) = 0 ↔ ¬ ∃ r, Use sz E k r ∧ bt q r = true := by
      constructor
      · rintro z ⟨r, z1, z2⟩
        have : bt (hJ h (t + 1) k &&& q) r = true := by rw [bt_and, (uk r).2 z1, z2]; rfl
        rw [z, bt_zero] at this; cases this
      · intro z
        refine bt_ext (fun r _ => ?_)
        rw [bt_zero]
        cases e : bt (hJ h (t + 1) k &&& q) r
        · rfl
        · rw [bt_and, Bool.and_eq_true, uk] at e
          exact (z ⟨r, e⟩).elim
    refine s_X4_pieceOf_27 (x1 := nI (sz 0)) (ev_lefts hT hg hn) a1 (fun z => absurd z (nI_ge hk (by omega))) (by rw [a4]; omega) (by rw [a4]; exact a6.1) (fun _ => by rw [a4, a6.2]; exact vp_in_nI (by omega) (by decide)) (fun _ z => ?_) (fun _ z => ?_)
    · rw [a4, ck, lg0, nz] at z
      rw [nI_1]
      refine ih (k + 1) x q (by omega) h1 h2 h3 (fun l r hl hu hq => ?_)
      by_cases el : l = k
      · subst el
        refine (z ⟨r, hu, ?_⟩).elim
        obtain ⟨l', z1, z2⟩ := (hq0 r).1 hq
        exact (h3 r).2 ⟨l', h2 l' z1, z2⟩
      · exact h4 l r (by omega) hu hq
    · rw [a4, ck, lg0, nz] at z
      have z := Classical.not_not.1 z
      rw [nI_1, a4, ck]
      have bx : ∀ l, bt (x ||| 1 <<< (Int32.toInt64 (nI k) &&& 63)) l = true ↔ bt x l = true ∨ l = k := fun l => by
        rw [bt_or, bt_bit (by omega), Bool.or_eq_true, decide_eq_true_iff]
      refine ih (k + 1) _ _ (by omega) (fun l hl => ?_) (fun l hl => (bx l).2 (Or.inl (h2 l hl))) (fun r => ?_) (fun l r hl hu hq => ?_)
      · rcases (bx l).1 hl with w | w
        · exact h1 l w
        · subst w
          obtain ⟨r, z1, z2⟩ := z
          obtain ⟨l', z3, z4⟩ := (h3 r).1 z2
          exact (h1 l' z3).step ⟨r, z4, z1⟩
      · rw [bt_or, Bool.or_eq_true, h3 r, uk]
        constructor
        · rintro (⟨l, w1, w2⟩ | w)
          · exact ⟨l, (bx l).2 (Or.inl w1), w2⟩
          · exact ⟨k, (bx k).2 (Or.inr rfl), w⟩
        · rintro ⟨l, w1, w2⟩
          rcases (bx l).1 w1 with w | w
          · exact Or.inl ⟨l, w, w2⟩
          · subst w; exact Or.inr w2
      · by_cases el : l = k
        · exact (bx l).2 (Or.inr el)
        · exact (bx l).2 (Or.inl (h4 l r (by omega) hu hq))
theorem po_rounds {nc ns : Nat} {Z : Option Value → PH → Prop} {F : Nat} {e1 : Int32} (hT : TL h t b g B) (hg : GS h g m sz E) (hn : sz 0 ≤ 16) (hU : TU h t sz E) (hF : F < sz 0) (hz : Z (some (.long (ofP (Cl (sh sz E) F)))) h) : ∀ d ro (x q : Int64), ro + d = sz 0 → (∀ l, bt x l = true → Cl (sh sz E) F l) → bt x F = true → (∀ r, bt q r = true ↔ ∃ l, bt x l = true ∧ Use sz E l r) → ((∀ l, Cl (sh sz E) F l → bt x l = true) ∨ ro ≤ cnt (sz 0) (bt x)) →
    RR G nc ns m_X4_pieceOf 15 [some (.ref t), some (.int e1), some (.long x), none, some (.long q), none, some (.int (nI ro)), none] [] h Z := by
  have hE : Rg (sz 0) (sz 1) E := hg.2.2.2
  obtain ⟨a1, a2, a3, a4, a5, a6, a7, a8, a9, a10, a11, a12, a13⟩ := id hT
  intro d
  induction d with
  | zero =>
    intro ro x q e h1 h2 h3 h4
    have e : ro = sz 0 := by omega
    subst e
    refine s_X4_pieceOf_15 (x1 := nI (sz 0)) (ev_lefts hT hg hn) a1 (fun _ => ?_) (fun z => (z (nI_le (Nat.le_refl _) (by omega))).elim)
    have ex : x = ofP (Cl (sh sz E) F) := eq_ofP (fun l _ => by
      constructor
      · exact h1 l
      · intro hc
        rcases h4 with h4 | h4
        · exact h4 l hc
        · have hl := cl_sh_lt hE hF hc
          cases e : bt x l
          · have s1 := cnt_split (n := sz 0) (fun _ => true) (bt x)
            rw [cnt_true, cnt_congr (q := bt x) (fun _ _ => Bool.true_and _), cnt_congr (n := sz 0) (p := fun i => true && !bt x i) (q := fun i => !bt x i) (fun _ _ => Bool.true_and _)] at s1
            have : 0 < cnt (sz 0) (fun i => !bt x i) := cnt_pos.2 ⟨l, hl, by rw [e]; rfl⟩
            omega
          · rfl)
    rw [ex]; exact hz
  | succ d ih =>
    intro ro x q e h1 h2 h3 h4
    refine s_X4_pieceOf_15 (x1 := nI (sz 0)) (ev_lefts hT hg hn) a1 (fun z => absurd z (nI_ge (by omega) (by omega))) (fun _ => ?_)
    rw [← nI_0]
    refine po_sweep hT hg hn hU hF h3 (fun x' q' w1 w2 w3 w4 => ?_) (sz 0) 0 x q (by omega) h1 (fun _ w => w) h3 (fun l r hl => absurd hl (by omega))
    rw [nI_1]
    refine ih (ro + 1) x' q' (by omega) w1 (w2 F h2) w3 ?_
    by_cases hc : ∀ l, bt x' l = true → bt x l = true
    · left
      intro l hl
      refine hl (fun y => bt x' y = true) (w2 F h2) ?_
      rintro y z hy ⟨r, u1, u2⟩
      exact w4 z r u2 ((h3 r).2 ⟨y, hc y hy, u1⟩)
    · rcases h4 with h4 | h4
      · left
        intro l hl
        exact w2 l (h4 l hl)
      · right
        obtain ⟨l, hl⟩ := Classical.not_forall.1 hc
        obtain ⟨l1, l2⟩ := Classical.not_imp.1 hl
        have := cnt_sub_strict (n := sz 0) (p := bt x) (q := bt x') (x := l) (cl_sh_lt hE hF (w1 l l1)) w2 l1 (Bool.eq_false_iff.2 l2)
        omega
theorem ev_pieceOf {F : Nat} (hT : TL h t b g B) (hg : GS h g m sz E) (hn : sz 0 ≤ 16) (hU : TU h t sz E) (hF : F < sz 0) : Ev G m_X4_pieceOf [.ref t, .int (nI F)] h 0 0 (Ret (some (.long (ofP (Cl (sh sz E) F)))) h) := by
  have hE : Rg (sz 0) (sz 1) E := hg.2.2.2
  have hs1 := (hg.2.1 1 (by decide)).2
  have hm := hg.1.2.2.2.2.2.2.2.2.2
  obtain ⟨a1, a2, a3, a4, a5, a6, a7, a8, a9, a10, a11, a12, a13⟩ := id hT
  have cF : Int32.toNatClampNeg (nI F) = F := nI_clamp (by omega)
  refine Ev.of pn_X4_pieceOf (Nat.le_of_ble_eq_true rfl) ?_
  refine s_X4_pieceOf_0 a1 (by rw [a4]; omega) (by rw [a4]; exact a6.1) (by rw [a4, a6.2]; exact vp_in_nI (by omega) (by decide)) ?_
  rw [a4, cF, show (1 : Int32) = nI 1 by decide]
  have bx : ∀ l, bt (1 <<< (Int32.toInt64 (nI F) &&& 63)) l = true ↔ l = F := fun l => by rw [bt_bit (by omega), decide_eq_true_iff]
  refine po_rounds hT hg hn hU hF Zok (sz 0 - 1) 1 _ _ (by omega) (fun l hl => ?_) ((bx F).2 rfl) (fun r => ?_) (Or.inr ?_)
  · rw [(bx l).1 hl]; exact Cl.rf
  · rw [hU F hF, bt_ofP]
    constructor
    · rintro ⟨_, z⟩; exact ⟨F, (bx F).2 rfl, z⟩
    · rintro ⟨l, z1, z2⟩
      rw [(bx l).1 z1] at z2
      exact ⟨by have := (use_lt hE z2).2; omega, z2⟩
  · exact cnt_pos.2 ⟨F, hF, (bx F).2 rfl⟩
