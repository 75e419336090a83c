variable {G : GG} {h h' : PH} {y : Nat} {sz : Nat → Nat} {E : Nat → Nat → Bool} {f f' : Nat → Option Nat}
def CM (h1 : PH) (y : Nat) (T : Nat → Nat → Prop) : Prop := ∀ a b, a < 50 → b < 50 → hI h1 (y + 9) (50 * a + b) = b2i (dc (T a b))
theorem CM.congr {h1 : PH} {T T' : Nat → Nat → Prop} (hc : CM h1 y T) (e : ∀ a b, a < 50 → b < 50 → (T a b ↔ T' a b)) : CM h1 y T' := fun a b ha hb => by rw [hc a b ha hb, dc_congr (e a b ha hb)]
theorem CM.set {h1 : PH} {T T' : Nat → Nat → Prop} {a b : Nat} {v : Int32} (hc : CM h1 y T) (ha : a < 50) (hb : b < 50) (hv : v = b2i (dc (T' a b))) (he : ∀ x z, x < 50 → z < 50 → ¬ (x = a ∧ z = b) → (T x z ↔ T' x z)) : CM (sI h1 (y + 9) (50 * a + b) v) y T' := by
  intro x z hx hz
  by_cases e : x = a ∧ z = b
  · rw [e.1, e.2, sI_eq]; exact hv
  · rw [sI_nk (by omega), hc x z hx hz, dc_congr (he x z hx hz e)]
def R0 (n : Nat) (E : Nat → Nat → Bool) (f' : Nat → Option Nat) (a b : Nat) : Prop := a < n ∧ (b = a ∨ stp E f' a b)
theorem R0_lt (hE : Rg (sz 0) (sz 1) E) (hM : IsM E f f') {a b : Nat} (h : R0 (sz 0) E f' a b) : a < sz 0 ∧ b < sz 0 := by
  refine ⟨h.1, ?_⟩
  rcases h.2 with e | ⟨r, h1, h2⟩
  · rw [e]; exact h.1
  · exact (hE _ _ (hM.2 _ _ ((hM.1 _ _).2 h2))).1
theorem cl_R0 (hE : Rg (sz 0) (sz 1) E) (hM : IsM E f f') {a b : Nat} (ha : a < sz 0) : Cl (R0 (sz 0) E f') a b ↔ Cl (stp E f') a b := by
  constructor
  · intro h
    refine h (fun x => Cl (stp E f') a x) Cl.rf ?_
    rintro x z hx ⟨_, e | e⟩
    · rw [e]; exact hx
    · exact hx.step e
  · intro h
    refine (h (fun x => x < sz 0 ∧ Cl (R0 (sz 0) E f') a x) ⟨ha, Cl.rf⟩ ?_).2
    rintro x z ⟨h1, h2⟩ h3
    exact ⟨(R0_lt hE hM ⟨h1, Or.inr h3⟩).2, h2.step ⟨h1, Or.inr h3⟩⟩
theorem wk_R0 (hE : Rg (sz 0) (sz 1) E) (hM : IsM E f f') {a b : Nat} (ha : a < sz 0) : Wk (R0 (sz 0) E f') (sz 0) a b ↔ Cl (stp E f') a b := by
  rw [← cl_R0 hE hM ha]
  exact ⟨Wk_cl _ a b, Wk_of (fun x z hxz => (R0_lt hE hM hxz).2) ⟨ha, Or.inl rfl⟩⟩
theorem wk_lt (hE : Rg (sz 0) (sz 1) E) (hM : IsM E f f') {k a b : Nat} (h : Wk (R0 (sz 0) E f') k a b) : a < sz 0 ∧ b < sz 0 := by
  obtain ⟨⟨u, h1⟩, ⟨v, h2⟩⟩ := Wk_ends _ _ _ h
  exact ⟨(R0_lt hE hM h1).1, (R0_lt hE hM h2).2⟩
theorem wk_col {R : Nat → Nat → Prop} {k a : Nat} : Wk R (k + 1) a k ↔ Wk R k a k := ⟨fun h => by rcases h with h | h; exact h; exact h.1, fun h => Or.inl h⟩
/-- blocks and what comes to what -/
def W3 (h : PH) (y : Nat) (sz : Nat → Nat) (E : Nat → Nat → Bool) (f' : Nat → Option Nat) : Prop := (∀ a b, a < sz 0 → b < sz 0 → hI h (y + 9) (50 * a + b) = b2i (dc (Cl (stp E f') a b))) ∧ hI h y 13 = nI (nbs (eqb sz E f') (sz 0)) ∧ ∀ l, l < sz 0 → hI h (y + 8) l = if dc (inn sz E 0 l) then nI (bn (eqb sz E f') l) else -1
theorem mb_number {nc ns : Nat} {Z : Option Value → PH → Prop} (hm : ML h y) (hg : MG h y sz E) (hw : W2 h y sz E) (hc : ∀ a b, a < sz 0 → b < sz 0 → hI h (y + 9) (50 * a + b) = b2i (dc (Cl (stp E f') a b))) (hz : ∀ h1, EO y [8] [13] h h1 → W3 h1 y sz E f' → Z none h1) :
    ∀ d l h1, l + d = sz 0 → EO y [8] [13] h h1 → hI h1 y 13 = nI (nbs (eqb sz E f') l) → (∀ l', l' < l → hI h1 (y + 8) l' = if dc (inn sz E 0 l') then nI (bn (eqb sz E f') l') else -1) →
    RR G nc ns m_X6_blocks 219 [some (.ref y), some (.int (nI l)), none, none] [] h1 Z := by
  obtain ⟨r9, k9, l9⟩ := hm.r 9 6 2 50 (by decide)
  obtain ⟨r11, k11, l11⟩ := hm.r 11 8 2 50 (by decide)
  obtain ⟨r12, k12, l12⟩ := hm.r 12 9 4 2500 (by decide)
  have y0 := hm.2.1
  obtain ⟨g1, g2, g3, g4, g5, g6⟩ := id hg
  have per := eqb_per (sz := sz) (E := E) (f' := f')
  have part1 : ∀ l, l < sz 0 → (hI h (y + 6) l = 1 ↔ inn sz E 0 l) := by
    intro l hl
    rw [hw.1 l hl, inn_prt (by decide) hl]
    have hp : prt sz E 0 l ≤ 2 := by rcases prt_cases sz E 0 l with q | q | q <;> omega
    rw [show (1 : Int32) = nI 1 by decide, nI_eq (by omega) (by decide)]
  have nbs_s : ∀ l, nbs (eqb sz E f') (l + 1) = nbs (eqb sz E f') l + (dc (fs (eqb sz E f') l)).toNat := fun l => cnt_s l _
  intro d
  induction d with
  | zero =>
    intro l h1 e eo h13 hb
    have e : l = sz 0 := by omega
    subst e
    obtain ⟨o1, o2, o3, -⟩ := id eo
    have en : hI h1 y 0 = nI (sz 0) := (eo.f 0 (by decide)).trans g1
    have no : ¬ hI h1 y 0 ≤ nI (sz 0) → False := fun z => z (by rw [en]; exact nI_le (Nat.le_refl _) (by omega))
    exact s_X6_blocks_219 (by rw [o1]; exact hm.1) (fun _ => hz h1 eo ⟨fun a b ha hb' => (eo.i 9 rfl _).trans (hc a b ha hb'), h13, hb⟩) (by rw [o3, r11]; omega) (by rw [o1, o3, r11]; exact k11) (fun z => (no z).elim) (fun z => (no z).elim)
  | succ d ih =>
    intro l h1 e eo h13 hb
    have hl : l < sz 0 := by omega
    obtain ⟨o1, o2, o3, -⟩ := id eo
    have en : hI h1 y 0 = nI (sz 0) := (eo.f 0 (by decide)).trans g1
    have cL : Int32.toNatClampNeg (nI l) = l := nI_clamp (by omega)
    refine s_X6_blocks_219 (by rw [o1]; exact hm.1) (fun z => absurd z (by rw [en]; exact nI_ge hl (by omega))) (by rw [o3, r11]; omega) (by rw [o1, o3, r11]; exact k11) (fun _ => by rw [o2, o3, r11, l11]; exact vp_in_nI (by omega) (by decide)) (fun _ => ?_)
    rw [o3, r11, cL, ← nI_0]
    -- the earlier nodes one by one
    have inner : ∀ d k h2, k + d = l → EO y [8] [13] h h2 → hI h2 y 13 = nI (nbs (eqb sz E f') l) → (∀ l', l' < l → hI h2 (y + 8) l' = if dc (inn sz E 0 l') then nI (bn (eqb sz E f') l') else -1) → (hI h2 (y + 8) l = if dc (∃ k', k' < k ∧ eqb sz E f' k' l) then nI (bn (eqb sz E f') l) else -1) → RR G nc ns m_X6_blocks 236 [some (.ref y), some (.int (nI l)), some (.int (nI k)), none] [] h2 Z := by
      intro d
      induction d with
      | zero =>
        intro k h2 e2 eo2 q13 qb ql
        have e2 : k = l := by omega
        subst e2
        obtain ⟨p1, p2, p3, -⟩ := id eo2
        have e9 : hR h2 y 9 = y + 6 := by rw [p3]; exact r9
        have e11 : hR h2 y 11 = y + 8 := by rw [p3]; exact r11
        have v6 : hI h2 (y + 6) k = 1 ↔ inn sz E 0 k := by rw [eo2.i 6 rfl]; exact part1 k hl
        have le : nI k ≤ nI k := nI_le (Nat.le_refl _) (by omega)
        have no : ¬ nI k ≤ nI k → False := fun z => z le
        have vpl : vp_in (nI k) 50 := vp_in_nI (by omega) (by decide)
        have vp9 : vp_in (nI k) (hL h2 (hR h2 y 9)) := by rw [p2, e9, l9]; exact vpl
        have vp11 : vp_in (nI k) (hL h2 (hR h2 y 11)) := by rw [p2, e11, l11]; exact vpl
        have done : ∀ h3, EO y [8] [13] h h3 → hI h3 y 13 = nI (nbs (eqb sz E f') (k + 1)) → (∀ l', l' < k → hI h3 (y + 8) l' = if dc (inn sz E 0 l') then nI (bn (eqb sz E f') l') else -1) → (hI h3 (y + 8) k = if dc (inn sz E 0 k) then nI (bn (eqb sz E f') k) else -1) → RR G nc ns m_X6_blocks 219 [some (.ref y), some (.int (nI k + 1)), none, none] [] h3 Z := by
          intro h3 eo3 t13 tb tl
          rw [nI_1]
          refine ih (k + 1) h3 (by omega) eo3 t13 (fun l' hl' => ?_)
          by_cases el : l' = k
          · rw [el]; exact tl
          · exact tb l' (by omega)
        have bnlt : bn (eqb sz E f') k < 2 ^ 31 := by have := bn_le (Q := eqb sz E f') k; omega
        refine s_X6_blocks_236 (by rw [p1]; exact hm.1) (by rw [e9]; omega) (by rw [p1, e9]; exact k9) (fun _ => vp9) (fun _ z => ?_) (by rw [e11]; omega) (by rw [p1, e11]; exact k11) (fun _ _ => vp11) (fun _ z1 z2 => ?_) (fun _ z1 z2 => ?_) (fun z => (no z).elim) (fun z => (no z).elim) (fun z => (no z).elim) (fun z => (no z).elim) (fun z => (no z).elim) (fun z => (no z).elim) (fun z => (no z).elim) (fun z => (no z).elim) (fun z => (no z).elim) (fun z => (no z).elim) (fun z => (no z).elim) (fun z => (no z).elim) (fun z => (no z).elim) (fun z => (no z).elim) (fun z => (no z).elim) (fun z => (no z).elim) (by rw [p3, r12]; omega) (by rw [p1, p3, r12]; exact k12) (fun z => (no z).elim) (fun z => (no z).elim) (fun z => (no z).elim) (fun z => (no z).elim) (fun z => (no z).elim) (fun z => (no z).elim) (fun z => (no z).elim)
        · rw [e9, cL, v6] at z
          refine done h2 eo2 ?_ qb ?_
          · rw [q13, nbs_s, dc_no.2 (fun w => z w.1.1)]; rfl
          · rw [ql, dc_no.2 (fun ⟨_, _, w⟩ => z w.2.1), dc_no.2 z]
        · rw [e9, cL, v6] at z1
          rw [e11, cL, ql] at z2
          by_cases w : ∃ k', k' < k ∧ eqb sz E f' k' k
          · refine done h2 eo2 ?_ qb ?_
            · obtain ⟨k', w1, w2⟩ := w
              rw [q13, nbs_s, dc_no.2 (fun v => v.2 k' w1 w2)]; rfl
            · rw [ql, dc_iff.2 w, dc_iff.2 z1]
          · rw [dc_no.2 w, if_neg (by decide)] at z2; exact absurd z2 (by decide)
        · rw [e9, cL, v6] at z1
          rw [e11, cL, ql] at z2
          by_cases w : ∃ k', k' < k ∧ eqb sz E f' k' k
          · rw [dc_iff.2 w] at z2; exact (z2 (nI_pos' bnlt)).elim
          · have hfs : fs (eqb sz E f') k := ⟨eqb_rf z1, fun k' h1 h2 => w ⟨k', h1, h2⟩⟩
            rw [e11, cL, q13, sI_ne (show y ≠ y + 8 by omega), q13, nI_1 (nbs (eqb sz E f') k)]
            refine done _ ((eo2.trans (EO.cI (by decide) (by decide) (by decide))).trans (EO.s0 (by decide))) ?_ (fun l' hl' => ?_) ?_
            · rw [sI_eq, nbs_s, dc_iff.2 hfs]; rfl
            · rw [sI_ne (by omega), sI_nk (by omega)]; exact qb l' hl'
            · rw [sI_ne (by omega), sI_eq, dc_iff.2 z1, bn_fs hfs]; rfl
      | succ d ih2 =>
        intro k h2 e2 eo2 q13 qb ql
        have hk : k < l := by omega
        obtain ⟨p1, p2, p3, -⟩ := id eo2
        have e9 : hR h2 y 9 = y + 6 := by rw [p3]; exact r9
        have e11 : hR h2 y 11 = y + 8 := by rw [p3]; exact r11
        have e12 : hR h2 y 12 = y + 9 := by rw [p3]; exact r12
        have cK : Int32.toNatClampNeg (nI k) = k := nI_clamp (by omega)
        have v6 : hI h2 (y + 6) l = 1 ↔ inn sz E 0 l := by rw [eo2.i 6 rfl]; exact part1 l hl
        have v6k : hI h2 (y + 6) k = 1 ↔ inn sz E 0 k := by rw [eo2.i 6 rfl]; exact part1 k (by omega)
        have no : nI l ≤ nI k → False := nI_ge hk (by omega)
        have vpl : vp_in (nI l) 50 := vp_in_nI (by omega) (by decide)
        have vpk : vp_in (nI k) 50 := vp_in_nI (by omega) (by decide)
        have vp9 : vp_in (nI l) (hL h2 (hR h2 y 9)) := by rw [p2, e9, l9]; exact vpl
        have vp11 : vp_in (nI l) (hL h2 (hR h2 y 11)) := by rw [p2, e11, l11]; exact vpl
        have vp9k : vp_in (nI k) (hL h2 (hR h2 y 9)) := by rw [p2, e9, l9]; exact vpk
        have vp11k : vp_in (nI k) (hL h2 (hR h2 y 11)) := by rw [p2, e11, l11]; exact vpk
        have ix1 : (50 : Int32) * nI k + nI l = nI (50 * k + l) := idx50 (by omega) (by omega)
        have ix2 : (50 : Int32) * nI l + nI k = nI (50 * l + k) := idx50 (by omega) (by omega)
        have c1 : Int32.toNatClampNeg (nI (50 * k + l)) = 50 * k + l := nI_clamp (by omega)
        have c2 : Int32.toNatClampNeg (nI (50 * l + k)) = 50 * l + k := nI_clamp (by omega)
        have w1 : hI h2 (y + 9) (50 * k + l) = b2i (dc (Cl (stp E f') k l)) := (eo2.i 9 rfl _).trans (hc k l (by omega) hl)
        have w2 : hI h2 (y + 9) (50 * l + k) = b2i (dc (Cl (stp E f') l k)) := (eo2.i 9 rfl _).trans (hc l k hl (by omega))
        have bnlt : bn (eqb sz E f') l < 2 ^ 31 := by have := bn_le (Q := eqb sz E f') l; omega
        have done : hI h2 y 13 = nI (nbs (eqb sz E f') (l + 1)) → (hI h2 (y + 8) l = if dc (inn sz E 0 l) then nI (bn (eqb sz E f') l) else -1) → RR G nc ns m_X6_blocks 219 [some (.ref y), some (.int (nI l + 1)), none, none] [] h2 Z := by
          intro t13 tl
          rw [nI_1]
          refine ih (l + 1) h2 (by omega) eo2 t13 (fun l' hl' => ?_)
          by_cases el : l' = l
          · rw [el]; exact tl
          · exact qb l' (by omega)
        have skip : ¬ eqb sz E f' k l → RR G nc ns m_X6_blocks 236 [some (.ref y), some (.int (nI l)), some (.int (nI k + 1)), none] [] h2 Z := by
          intro hn
          rw [nI_1]
          refine ih2 (k + 1) h2 (by omega) eo2 q13 qb ?_
          rw [ql, dc_congr (P := ∃ k', k' < k ∧ eqb sz E f' k' l) (Q := ∃ k', k' < k + 1 ∧ eqb sz E f' k' l)]
          constructor
          · rintro ⟨k', u1, u2⟩; exact ⟨k', by omega, u2⟩
          · rintro ⟨k', u1, u2⟩
            refine ⟨k', ?_, u2⟩
            by_cases ek : k' = k
            · subst ek; exact (hn u2).elim
            · omega
        refine s_X6_blocks_236 (by rw [p1]; exact hm.1) (by rw [e9]; omega) (by rw [p1, e9]; exact k9) (fun z => (no z).elim) (fun z => (no z).elim) (by rw [e11]; omega) (by rw [p1, e11]; exact k11) (fun z => (no z).elim) (fun z => (no z).elim) (fun z => (no z).elim) (fun _ => vp9) (fun _ _ => vp9) (fun _ z _ => ?_) (fun _ z1 z2 => (z1 z2).elim) (fun _ z1 z2 => (z1 z2).elim) (fun _ z1 z2 => (z1 z2).elim) (fun _ z1 z2 => (z1 z2).elim) (fun _ _ => vp11) (fun _ _ _ => vp9) (fun _ z1 _ z2 => (z2 z1).elim) (fun _ _ _ _ => vp11) (fun _ z1 z2 _ _ => ?_) (fun _ _ z2 _ z3 => (z3 z2).elim) (fun _ _ z2 _ z3 => (z3 z2).elim) (fun _ _ _ => vp9k) (fun _ _ _ z => ?_) (by rw [e12]; omega) (by rw [p1, e12]; exact k12) (fun _ _ _ _ => by rw [p2, e12, l12, ix1]; exact vp_in_nI (by omega) (by decide)) (fun _ _ _ _ z => ?_) (fun _ _ _ _ _ => by rw [p2, e12, l12, ix2]; exact vp_in_nI (by omega) (by decide)) (fun _ _ _ _ _ z => ?_) (fun _ _ _ _ _ _ => vp11k) (fun _ _ _ _ _ _ => vp11) (fun _ z1 z2 z3 z4 z5 => ?_)
        · rw [e9, cL, v6] at z
          refine done ?_ ?_
          · rw [q13, nbs_s, dc_no.2 (fun w => z w.1.1)]; rfl
          · rw [ql, dc_no.2 (fun ⟨_, _, w⟩ => z w.2.1), dc_no.2 z]
        · rw [e9, cL, v6] at z1
          rw [e11, cL, ql] at z2
          by_cases w : ∃ k', k' < k ∧ eqb sz E f' k' l
          · refine done ?_ ?_
            · obtain ⟨k', w1, w2⟩ := w
              rw [q13, nbs_s, dc_no.2 (fun v => v.2 k' (by omega) w2)]; rfl
            · rw [ql, dc_iff.2 w, dc_iff.2 z1]
          · rw [dc_no.2 w, if_neg (by decide)] at z2; exact absurd z2 (by decide)
        · rw [e9, cK, v6k] at z
          exact skip (fun w => z w.1)
        · rw [e12, ix1, c1, w1, b2i_0, dc_no] at z
          exact skip (fun w => z w.2.2.1)
        · rw [e12, ix2, c2, w2, b2i_0, dc_no] at z
          exact skip (fun w => z w.2.2.2)
        · rw [e9, cL, v6] at z1
          rw [e9, cK, v6k] at z3
          rw [e12, ix1, c1, w1, b2i_n, dc_iff] at z4
          rw [e12, ix2, c2, w2, b2i_n, dc_iff] at z5
          have hq : eqb sz E f' k l := ⟨z3, z1, z4, z5⟩
          rw [e11, cL, cK, qb k hk, dc_iff.2 z3, if_pos rfl, bn_eq per hq, nI_1]
          refine ih2 (k + 1) _ (by omega) (eo2.trans (EO.cI (by decide) (by decide) (by decide))) (by rw [sI_ne (by omega)]; exact q13) (fun l' hl' => by rw [sI_nk (by omega)]; exact qb l' hl') ?_
          rw [sI_eq, dc_iff.2 ⟨k, by omega, hq⟩]; rfl
    refine inner l 0 _ (by omega) (eo.trans (EO.cI (by decide) (by decide) (by decide))) (by rw [sI_ne (by omega)]; exact h13) (fun l' hl' => by rw [sI_nk (by omega)]; exact hb l' hl') ?_
    rw [sI_eq, dc_no.2 (fun ⟨_, w, _⟩ => absurd w (by omega))]; rfl
theorem mb_war {nc ns : Nat} {Z : Option Value → PH → Prop} (hm : ML h y) (hg : MG h y sz E) (hM : IsM E f f') (hz : ∀ h1, EO y [9] [] h h1 → CM h1 y (Wk (R0 (sz 0) E f') (sz 0)) → RR G nc ns m_X6_blocks 219 [some (.ref y), some (.int 0), none, none] [] (sI h1 y 13 0) Z) :
    ∀ d k h1, k + d = sz 0 → EO y [9] [] h h1 → CM h1 y (Wk (R0 (sz 0) E f') k) → RR G nc ns m_X6_blocks 108 [some (.ref y), some (.int (nI k)), none, none] [] h1 Z := by
  obtain ⟨r12, k12, l12⟩ := hm.r 12 9 4 2500 (by decide)
  have y0 := hm.2.1
  obtain ⟨g1, g2, g3, g4, g5, g6⟩ := id hg
  intro d
  induction d with
  | zero =>
    intro k h1 e eo hc
    have e : k = sz 0 := by omega
    subst e
    obtain ⟨o1, o2, o3, -⟩ := id eo
    have en : hI h1 y 0 = nI (sz 0) := (eo.f 0 (by decide)).trans g1
    exact s_X6_blocks_108 (by rw [o1]; exact hm.1) (fun _ => hz h1 eo hc) (fun z => (z (by rw [en]; exact nI_le (Nat.le_refl _) (by omega))).elim)
  | succ d ih =>
    intro k h1 e eo hc
    have hk : k < sz 0 := by omega
    obtain ⟨o1, o2, o3, -⟩ := id eo
    have en : hI h1 y 0 = nI (sz 0) := (eo.f 0 (by decide)).trans g1
    refine s_X6_blocks_108 (by rw [o1]; exact hm.1) (fun z => absurd z (by rw [en]; exact nI_ge hk (by omega))) (fun _ => ?_)
    rw [← nI_0]
    have rows : ∀ d a h2, a + d = sz 0 → EO y [9] [] h h2 → CM h2 y (fun x z => if x < a then Wk (R0 (sz 0) E f') (k + 1) x z else Wk (R0 (sz 0) E f') k x z) → RR G nc ns m_X6_blocks 118 [some (.ref y), some (.int (nI k)), some (.int (nI a)), none] [] h2 Z := by
      intro d
      induction d with
      | zero =>
        intro a h2 e2 eo2 hc2
        have e2 : a = sz 0 := by omega
        subst e2
        obtain ⟨p1, p2, p3, -⟩ := id eo2
        have en2 : hI h2 y 0 = nI (sz 0) := (eo2.f 0 (by decide)).trans g1
        refine s_X6_blocks_118 (by rw [p1]; exact hm.1) (fun _ => ?_) (fun z => (z (by rw [en2]; exact nI_le (Nat.le_refl _) (by omega))).elim)
        rw [nI_1]
        refine ih (k + 1) h2 (by omega) eo2 (hc2.congr (fun x z _ _ => ?_))
        by_cases q : x < sz 0
        · rw [if_pos q]
        · rw [if_neg q]
          exact ⟨fun w => (q (wk_lt g6 hM w).1).elim, fun w => (q (wk_lt g6 hM w).1).elim⟩
      | succ d ih2 =>
        intro a h2 e2 eo2 hc2
        have ha : a < sz 0 := by omega
        obtain ⟨p1, p2, p3, -⟩ := id eo2
        have en2 : hI h2 y 0 = nI (sz 0) := (eo2.f 0 (by decide)).trans g1
        refine s_X6_blocks_118 (by rw [p1]; exact hm.1) (fun z => absurd z (by rw [en2]; exact nI_ge ha (by omega))) (fun _ => ?_)
        rw [← nI_0]
        have cols : ∀ d b h3, b + d = sz 0 → EO y [9] [] h h3 → CM h3 y (fun x z => if x < a ∨ (x = a ∧ z < b) then Wk (R0 (sz 0) E f') (k + 1) x z else Wk (R0 (sz 0) E f') k x z) → RR G nc ns m_X6_blocks 128 [some (.ref y), some (.int (nI k)), some (.int (nI a)), some (.int (nI b))] [] h3 Z := by
          intro d
          induction d with
          | zero =>
            intro b h3 e3 eo3 hc3
            have e3 : b = sz 0 := by omega
            subst e3
            obtain ⟨t1, t2, t3, -⟩ := id eo3
            have en3 : hI h3 y 0 = nI (sz 0) := (eo3.f 0 (by decide)).trans g1
            have no : ¬ hI h3 y 0 ≤ nI (sz 0) → False := fun z => z (by rw [en3]; exact nI_le (Nat.le_refl _) (by omega))
            refine s_X6_blocks_128 (by rw [t1]; exact hm.1) (fun _ => ?_) (by rw [t3, r12]; omega) (by rw [t1, t3, r12]; exact k12) (fun z => (no z).elim) (fun z => (no z).elim) (fun z => (no z).elim) (fun z => (no z).elim) (fun z => (no z).elim) (fun z => (no z).elim) (fun z => (no z).elim)
            rw [nI_1]
            refine ih2 (a + 1) h3 (by omega) eo3 (hc3.congr (fun x z _ _ => ?_))
            by_cases q : x < a
            · rw [if_pos (Or.inl q), if_pos (by omega)]
            · by_cases q2 : x = a
              · subst q2
                rw [if_pos (show x < x + 1 by omega)]
                by_cases q3 : z < sz 0
                · rw [if_pos (Or.inr ⟨rfl, q3⟩)]
                · rw [if_neg (by omega)]
                  exact ⟨fun w => (q3 (wk_lt g6 hM w).2).elim, fun w => (q3 (wk_lt g6 hM w).2).elim⟩
              · rw [if_neg (by omega), if_neg (by omega)]
          | succ d ih3 =>
            intro b h3 e3 eo3 hc3
            have hb : b < sz 0 := by omega
            obtain ⟨t1, t2, t3, -⟩ := id eo3
            have en3 : hI h3 y 0 = nI (sz 0) := (eo3.f 0 (by decide)).trans g1
            have e12 : hR h3 y 12 = y + 9 := by rw [t3]; exact r12
            have i1 : (50 : Int32) * nI a + nI k = nI (50 * a + k) := idx50 (by omega) (by omega)
            have i2 : (50 : Int32) * nI a + nI b = nI (50 * a + b) := idx50 (by omega) (by omega)
            have i3 : (50 : Int32) * nI k + nI b = nI (50 * k + b) := idx50 (by omega) (by omega)
            have c1 : Int32.toNatClampNeg (nI (50 * a + k)) = 50 * a + k := nI_clamp (by omega)
            have c2 : Int32.toNatClampNeg (nI (50 * a + b)) = 50 * a + b := nI_clamp (by omega)
            have c3 : Int32.toNatClampNeg (nI (50 * k + b)) = 50 * k + b := nI_clamp (by omega)
            have v1 : hI h3 (y + 9) (50 * a + k) = b2i (dc (Wk (R0 (sz 0) E f') k a k)) := by
              rw [hc3 a k (by omega) (by omega)]
              congr 1
              refine dc_congr ?_
              show (if a < a ∨ (a = a ∧ k < b) then Wk (R0 (sz 0) E f') (k + 1) a k else Wk (R0 (sz 0) E f') k a k) ↔ _
              by_cases q : a < a ∨ (a = a ∧ k < b)
              · rw [if_pos q]; exact wk_col
              · rw [if_neg q]
            have v2 : hI h3 (y + 9) (50 * a + b) = b2i (dc (Wk (R0 (sz 0) E f') k a b)) := by
              rw [hc3 a b (by omega) (by omega)]
              congr 1
              refine dc_congr ?_
              show (if a < a ∨ (a = a ∧ b < b) then Wk (R0 (sz 0) E f') (k + 1) a b else Wk (R0 (sz 0) E f') k a b) ↔ _
              rw [if_neg (by omega)]
            have v3 : hI h3 (y + 9) (50 * k + b) = b2i (dc (Wk (R0 (sz 0) E f') k k b)) := by
              rw [hc3 k b (by omega) (by omega)]
              congr 1
              refine dc_congr ?_
              show (if k < a ∨ (k = a ∧ b < b) then Wk (R0 (sz 0) E f') (k + 1) k b else Wk (R0 (sz 0) E f') k k b) ↔ _
              by_cases q : k < a ∨ (k = a ∧ b < b)
              · rw [if_pos q]; exact Wk_row
              · rw [if_neg q]
            have go : ∀ v, v = b2i (dc (Wk (R0 (sz 0) E f') (k + 1) a b)) → RR G nc ns m_X6_blocks 128 [some (.ref y), some (.int (nI k)), some (.int (nI a)), some (.int (nI b + 1))] [] (sI h3 (y + 9) (50 * a + b) v) Z := by
              intro v ev
              rw [nI_1]
              refine ih3 (b + 1) _ (by omega) (eo3.trans (EO.cI (by decide) (by decide) (by decide))) (hc3.set (by omega) (by omega) ?_ (fun x z _ _ hn => ?_))
              · rw [ev]
                congr 1
                refine dc_congr ?_
                show _ ↔ (if a < a ∨ (a = a ∧ b < b + 1) then Wk (R0 (sz 0) E f') (k + 1) a b else Wk (R0 (sz 0) E f') k a b)
                rw [if_pos (Or.inr ⟨rfl, by omega⟩)]
              · by_cases q : x < a ∨ (x = a ∧ z < b)
                · rw [if_pos q, if_pos (by omega)]
                · rw [if_neg q, if_neg (by omega)]
            refine s_X6_blocks_128 (by rw [t1]; exact hm.1) (fun z => absurd z (by rw [en3]; exact nI_ge hb (by omega))) (by rw [e12]; omega) (by rw [t1, e12]; exact k12) (fun _ => by rw [t2, e12, l12, i1]; exact vp_in_nI (by omega) (by decide)) (fun _ z => ?_) (fun _ _ => by rw [t2, e12, l12, i2]; exact vp_in_nI (by omega) (by decide)) (fun _ z1 z2 => ?_) (fun _ _ _ => by rw [t2, e12, l12, i3]; exact vp_in_nI (by omega) (by decide)) (fun _ z1 z2 z3 => ?_) (fun _ z1 z2 z3 => ?_)
            · rw [e12, i1, c1, v1, b2i_0, dc_no] at z
              rw [nI_1]
              refine ih2 (a + 1) h3 (by omega) eo3 (hc3.congr (fun x w _ _ => ?_))
              have same : ∀ w, Wk (R0 (sz 0) E f') (k + 1) a w ↔ Wk (R0 (sz 0) E f') k a w := fun w => ⟨fun u => by rcases u with u | u; exact u; exact (z u.1).elim, fun u => Or.inl u⟩
              by_cases q : x < a
              · rw [if_pos (Or.inl q), if_pos (by omega)]
              · by_cases q2 : x = a
                · subst q2
                  rw [if_pos (show x < x + 1 by omega), same]
                  by_cases q3 : x < x ∨ (x = x ∧ w < b)
                  · rw [if_pos q3]
                  · rw [if_neg q3]
                · rw [if_neg (by omega), if_neg (by omega)]
            · rw [e12, i2, c2, v2, b2i_n, dc_iff] at z2
              rw [e12, i2, c2]
              exact go 1 (by rw [dc_iff.2 (show Wk (R0 (sz 0) E f') (k + 1) a b from Or.inl z2)]; rfl)
            · rw [e12, i1, c1, v1, b2i_n, dc_iff] at z1
              rw [e12, i2, c2, v2, b2i_0, dc_no] at z2
              rw [e12, i3, c3, v3, b2i_0, dc_no] at z3
              rw [e12, i2, c2]
              exact go 0 (by rw [dc_no.2 (show ¬ Wk (R0 (sz 0) E f') (k + 1) a b from fun u => by rcases u with u | u; exact z2 u; exact z3 u.2)]; rfl)
            · rw [e12, i1, c1, v1, b2i_n, dc_iff] at z1
              rw [e12, i3, c3, v3, b2i_n, dc_iff] at z3
              rw [e12, i2, c2]
              exact go 1 (by rw [dc_iff.2 (show Wk (R0 (sz 0) E f') (k + 1) a b from Or.inr ⟨z1, z3⟩)]; rfl)
        refine cols (sz 0) 0 h2 (by omega) eo2 (hc2.congr (fun x z _ _ => ?_))
        by_cases q : x < a
        · rw [if_pos q, if_pos (Or.inl q)]
        · rw [if_neg q, if_neg (by omega)]
    refine rows (sz 0) 0 h1 (by omega) eo (hc.congr (fun x z _ _ => ?_))
    rw [if_neg (by omega)]
theorem mb_seed {nc ns : Nat} {Z : Option Value → PH → Prop} (hm : ML h y) (hg : MG h y sz E) (hM : IsM E f f') (hbr : ∀ r, r < 50 → hI h (y + 3) r = e1 (f' r)) (hz : ∀ h1, EO y [9] [] h h1 → CM h1 y (R0 (sz 0) E f') → RR G nc ns m_X6_blocks 108 [some (.ref y), some (.int 0), none, none] [] h1 Z) :
    ∀ d l h1, l + d = sz 0 → EO y [9] [] h h1 → CM h1 y (fun a b => a < l ∧ R0 (sz 0) E f' a b) → RR G nc ns m_X6_blocks 24 [some (.ref y), some (.int (nI l)), none, none] [] h1 Z := by
  obtain ⟨r12, k12, l12⟩ := hm.r 12 9 4 2500 (by decide)
  obtain ⟨r2, k2, l2⟩ := hm.r 2 1 4 2500 (by decide)
  obtain ⟨r6, k6, l6⟩ := hm.r 6 3 2 50 (by decide)
  have y0 := hm.2.1
  obtain ⟨g1, g2, g3, g4, g5, g6⟩ := id hg
  have fl : ∀ r l, f' r = some l → l < sz 0 ∧ r < sz 1 := fun r l e => g6 _ _ (hM.2 _ _ ((hM.1 _ _).2 e))
  intro d
  induction d with
  | zero =>
    intro l h1 e eo hc
    have e : l = sz 0 := by omega
    subst e
    obtain ⟨o1, o2, o3, -⟩ := id eo
    have en : hI h1 y 0 = nI (sz 0) := (eo.f 0 (by decide)).trans g1
    have no : ¬ hI h1 y 0 ≤ nI (sz 0) → False := fun z => z (by rw [en]; exact nI_le (Nat.le_refl _) (by omega))
    refine s_X6_blocks_24 (by rw [o1]; exact hm.1) (fun _ => hz h1 eo (hc.congr (fun a b _ _ => ⟨fun w => w.2, fun w => ⟨w.1, w⟩⟩))) (by rw [o3, r12]; omega) (by rw [o1, o3, r12]; exact k12) (fun z => (no z).elim) (fun z => (no z).elim)
  | succ d ih =>
    intro l h1 e eo hc
    have hl : l < sz 0 := by omega
    obtain ⟨o1, o2, o3, -⟩ := id eo
    have en : hI h1 y 0 = nI (sz 0) := (eo.f 0 (by decide)).trans g1
    have i0 : (50 : Int32) * nI l + nI l = nI (50 * l + l) := idx50 (by omega) (by omega)
    have c0 : Int32.toNatClampNeg (nI (50 * l + l)) = 50 * l + l := nI_clamp (by omega)
    refine s_X6_blocks_24 (by rw [o1]; exact hm.1) (fun z => absurd z (by rw [en]; exact nI_ge hl (by omega))) (by rw [o3, r12]; omega) (by rw [o1, o3, r12]; exact k12) (fun _ => by rw [o2, o3, r12, l12, i0]; exact vp_in_nI (by omega) (by decide)) (fun _ => ?_)
    rw [o3, r12, i0, c0, ← nI_0]
    have inner : ∀ d r h2, r + d = sz 1 → EO y [9] [] h h2 → CM h2 y (fun a b => (a < l ∧ R0 (sz 0) E f' a b) ∨ (a = l ∧ (b = l ∨ ∃ r', r' < r ∧ E l r' = true ∧ f' r' = some b))) → RR G nc ns m_X6_blocks 46 [some (.ref y), some (.int (nI l)), some (.int (nI r)), none] [] h2 Z := by
      intro d
      induction d with
      | zero =>
        intro r h2 e2 eo2 hc2
        have e2 : r = sz 1 := by omega
        subst e2
        obtain ⟨p1, p2, p3, -⟩ := id eo2
        have en2 : hI h2 y 1 = nI (sz 1) := (eo2.f 1 (by decide)).trans g2
        have no : ¬ hI h2 y 1 ≤ nI (sz 1) → False := fun z => z (by rw [en2]; exact nI_le (Nat.le_refl _) (by omega))
        refine s_X6_blocks_46 (by rw [p1]; exact hm.1) (fun _ => ?_) (by rw [p3, r2]; omega) (by rw [p1, p3, r2]; exact k2) (fun z => (no z).elim) (fun z => (no z).elim) (by rw [p3, r6]; omega) (by rw [p1, p3, r6]; exact k6) (fun z => (no z).elim) (fun z => (no z).elim) (by rw [p3, r12]; omega) (by rw [p1, p3, r12]; exact k12) (fun z => (no z).elim) (fun z => (no z).elim)
        rw [nI_1]
        refine ih (l + 1) h2 (by omega) eo2 (hc2.congr (fun a b _ _ => ?_))
        constructor
        · rintro (w | ⟨w1, w2 | ⟨r', w3, w4, w5⟩⟩)
          · exact ⟨by omega, w.2⟩
          · exact ⟨by omega, by rw [w1]; exact hl, Or.inl (by rw [w1, w2])⟩
          · exact ⟨by omega, by rw [w1]; exact hl, Or.inr ⟨r', by rw [w1]; exact w4, w5⟩⟩
        · rintro ⟨w1, w2⟩
          by_cases q : a < l
          · exact Or.inl ⟨q, w2⟩
          · have ea : a = l := by omega
            refine Or.inr ⟨ea, ?_⟩
            rcases w2.2 with w3 | ⟨r', w3, w4⟩
            · exact Or.inl (by rw [w3, ea])
            · exact Or.inr ⟨r', (fl r' b w4).2, by rw [← ea]; exact w3, w4⟩
      | succ d ih2 =>
        intro r h2 e2 eo2 hc2
        have hr : r < sz 1 := by omega
        obtain ⟨p1, p2, p3, -⟩ := id eo2
        have en2 : hI h2 y 1 = nI (sz 1) := (eo2.f 1 (by decide)).trans g2
        have e12 : hR h2 y 12 = y + 9 := by rw [p3]; exact r12
        have e2' : hR h2 y 2 = y + 1 := by rw [p3]; exact r2
        have e6 : hR h2 y 6 = y + 3 := by rw [p3]; exact r6
        have i1 : (50 : Int32) * nI l + nI r = nI (50 * l + r) := idx50 (by omega) (by omega)
        have c1 : Int32.toNatClampNeg (nI (50 * l + r)) = 50 * l + r := nI_clamp (by omega)
        have cr : Int32.toNatClampNeg (nI r) = r := nI_clamp (by omega)
        have vE : hI h2 (y + 1) (50 * l + r) = b2i (E l r) := (eo2.i 1 rfl _).trans (g5 l r (by omega) (by omega))
        have vB : hI h2 (y + 3) r = e1 (f' r) := (eo2.i 3 rfl _).trans (hbr r (by omega))
        have vB0 : e1 (f' r) < 0 ↔ f' r = none := e1_lt (fun l' e' => by have := (fl r l' e').1; omega)
        have skip : (∀ b, E l r = true → f' r = some b → False) → RR G nc ns m_X6_blocks 46 [some (.ref y), some (.int (nI l)), some (.int (nI r + 1)), none] [] h2 Z := by
          intro hn
          rw [nI_1]
          refine ih2 (r + 1) h2 (by omega) eo2 (hc2.congr (fun a b _ _ => ?_))
          constructor
          · rintro (w | ⟨w1, w2 | ⟨r', w3, w4⟩⟩)
            · exact Or.inl w
            · exact Or.inr ⟨w1, Or.inl w2⟩
            · exact Or.inr ⟨w1, Or.inr ⟨r', by omega, w4⟩⟩
          · rintro (w | ⟨w1, w2 | ⟨r', w3, w4, w5⟩⟩)
            · exact Or.inl w
            · exact Or.inr ⟨w1, Or.inl w2⟩
            · refine Or.inr ⟨w1, Or.inr ⟨r', ?_, w4, w5⟩⟩
              by_cases er : r' = r
              · subst er; exact (hn b w4 w5).elim
              · omega
        refine s_X6_blocks_46 (by rw [p1]; exact hm.1) (fun z => absurd z (by rw [en2]; exact nI_ge hr (by omega))) (by rw [e2']; omega) (by rw [p1, e2']; exact k2) (fun _ => by rw [p2, e2', l2, i1]; exact vp_in_nI (by omega) (by decide)) (fun _ z => ?_) (by rw [e6]; omega) (by rw [p1, e6]; exact k6) (fun _ _ => by rw [p2, e6, l6]; exact vp_in_nI (by omega) (by decide)) (fun _ _ z => ?_) (by rw [e12]; omega) (by rw [p1, e12]; exact k12) (fun _ z1 z2 => ?_) (fun _ z1 z2 => ?_)
        · rw [e2', i1, c1, vE, b2i_0] at z
          exact skip (fun b w _ => by rw [z] at w; cases w)
        · rw [e6, cr, vB, vB0] at z
          exact skip (fun b _ w => by rw [z] at w; cases w)
        · rw [e6, cr, vB, vB0] at z2
          obtain ⟨b, hb⟩ := Option.ne_none_iff_exists'.1 z2
          have := fl r b hb
          rw [e6, cr, vB, hb, show e1 (some b) = nI b from rfl, idx50 (by omega) (by omega), p2, e12, l12]; exact vp_in_nI (by omega) (by decide)
        · rw [e2', i1, c1, vE, b2i_n] at z1
          rw [e6, cr, vB, vB0] at z2
          obtain ⟨b, hb⟩ := Option.ne_none_iff_exists'.1 z2
          have := fl r b hb
          rw [e6, e12, cr, vB, hb, show e1 (some b) = nI b from rfl, idx50 (by omega) (by omega), nI_clamp (show 50 * l + b < 2 ^ 31 by omega), nI_1]
          refine ih2 (r + 1) _ (by omega) (eo2.trans (EO.cI (by decide) (by decide) (by decide))) (hc2.set (by omega) (by omega) ?_ (fun a b' _ _ hn => ?_))
          · rw [dc_iff.2 (Or.inr ⟨rfl, Or.inr ⟨r, by omega, z1, hb⟩⟩)]; rfl
          · constructor
            · rintro (w | ⟨w1, w2 | ⟨r', w3, w4⟩⟩)
              · exact Or.inl w
              · exact Or.inr ⟨w1, Or.inl w2⟩
              · exact Or.inr ⟨w1, Or.inr ⟨r', by omega, w4⟩⟩
            · rintro (w | ⟨w1, w2 | ⟨r', w3, w4, w5⟩⟩)
              · exact Or.inl w
              · exact Or.inr ⟨w1, Or.inl w2⟩
              · refine Or.inr ⟨w1, Or.inr ⟨r', ?_, w4, w5⟩⟩
                by_cases er : r' = r
                · subst er
                  rw [hb] at w5
                  exact (hn ⟨w1, (Option.some.inj w5).symm⟩).elim
                · omega
    refine inner (sz 1) 0 _ (by omega) (eo.trans (EO.cI (by decide) (by decide) (by decide))) (hc.set (by omega) (by omega) ?_ (fun a b _ _ hn => ?_))
    · rw [dc_iff.2 (Or.inr ⟨rfl, Or.inl rfl⟩)]; rfl
    · constructor
      · intro w; exact Or.inl w
      · rintro (w | ⟨w1, w2 | ⟨r', w3, _⟩⟩)
        · exact w
        · exact (hn ⟨w1, w2⟩).elim
        · omega
theorem m_blocks (hm : ML h y) (hg : MG h y sz E) (hw : W2 h y sz E) (hM : IsM E f f') (hbr : ∀ r, r < 50 → hI h (y + 3) r = e1 (f' r)) : Ev G m_X6_blocks [.ref y] h 0 0 (RV (fun h1 => EO y [8, 9] [13] h h1 ∧ W3 h1 y sz E f')) := by
  obtain ⟨r12, k12, l12⟩ := hm.r 12 9 4 2500 (by decide)
  have y0 := hm.2.1
  obtain ⟨g1, g2, g3, g4, g5, g6⟩ := id hg
  have e2500 : (2500 : Int32) = nI 2500 := by decide
  refine Ev.of pn_X6_blocks (Nat.le_of_ble_eq_true rfl) ?_
  refine s_X6_blocks_0 ?_
  have zero : ∀ d k h1, k + d = 2500 → EO y [9] [] h h1 → (∀ i, i < k → hI h1 (y + 9) i = 0) → RR G (hN h + 0) (hS h + 0) m_X6_blocks 2 [some (.ref y), some (.int (nI k)), none, none] [] h1 (fun v h' => RV (fun h1 => EO y [8, 9] [13] h h1 ∧ W3 h1 y sz E f') v h' ∧ hN h' = hN h + 0 ∧ hS h' = hS h + 0) := by
    intro d
    induction d with
    | zero =>
      intro k h1 e eo hb
      have e : k = 2500 := by omega
      subst e
      obtain ⟨o1, o2, o3, -⟩ := id eo
      have no : ¬ (2500 : Int32) ≤ nI 2500 → False := fun z => z (by decide)
      refine s_X6_blocks_2 (fun _ => ?_) (by rw [o1]; exact hm.1) (by rw [o3, r12]; omega) (by rw [o1, o3, r12]; exact k12) (fun z => (no z).elim) (fun z => (no z).elim)
      rw [← nI_0]
      refine mb_seed (h := h1) (f := f) (hm.eo eo) (hg.eo eo (by decide) (by decide) (by decide)) hM (fun r hr => (eo.i 3 rfl r).trans (hbr r hr)) (fun h2 eo2 hc2 => ?_) (sz 0) 0 h1 (by omega) EO.rf (fun a b ha hb' => ?_)
      · rw [← nI_0]
        have eoA := eo.trans eo2
        refine mb_war (h := h2) (f := f) (hm.eo eoA) (hg.eo eoA (by decide) (by decide) (by decide)) hM (fun h3 eo3 hc3 => ?_) (sz 0) 0 h2 (by omega) EO.rf hc2
        have eoB := eoA.trans eo3
        have eoC : EO y [8, 9] [13] h (sI h3 y 13 0) := (eoB.wide (by decide) (by decide)).trans (EO.s0 (by decide))
        rw [← nI_0]
        refine mb_number (h := sI h3 y 13 (nI 0)) (f' := f') (hm.eo eoC) (hg.eo eoC (by decide) (by decide) (by decide)) (hw.eo eoC (by decide) (by decide)) (fun a b ha hb' => ?_) (fun h4 eo4 w3 => ?_) (sz 0) 0 _ (by omega) EO.rf sI_eq (fun l' hl' => absurd hl' (by omega))
        · rw [sI_ne (by omega), hc3 a b (by omega) (by omega), dc_congr (wk_R0 g6 hM ha)]
        · have eoD : EO y [8, 9] [13] h h4 := eoC.trans (eo4.wide (by decide) (by decide))
          exact ⟨⟨rfl, eoD, w3⟩, eoD.2.2.2.1, eoD.2.2.2.2.1⟩
      · rw [hb (50 * a + b) (by omega), dc_no.2 (fun w => absurd w.1 (by omega))]; rfl
    | succ d ih =>
      intro k h1 e eo hb
      obtain ⟨o1, o2, o3, -⟩ := id eo
      have ck : Int32.toNatClampNeg (nI k) = k := nI_clamp (by omega)
      refine s_X6_blocks_2 (fun z => absurd z (by rw [e2500]; exact nI_ge (by omega) (by decide))) (by rw [o1]; exact hm.1) (by rw [o3, r12]; omega) (by rw [o1, o3, r12]; exact k12) (fun _ => by rw [o2, o3, r12, l12]; exact vp_in_nI (by omega) (by decide)) (fun _ => ?_)
      rw [o3, r12, ck, nI_1]
      refine ih (k + 1) _ (by omega) (eo.trans (EO.cI (by decide) (by decide) (by decide))) (fun i hi => ?_)
      by_cases ei : i = k
      · subst ei; exact sI_eq
      · rw [sI_nk ei]; exact hb i (by omega)
  exact zero 2500 0 h (by omega) EO.rf (fun i hi => absurd hi (by omega))
