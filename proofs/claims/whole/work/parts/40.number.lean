section NUMBER
theorem cnt_mono_n {p : Nat → Bool} {a b : Nat} (h : a ≤ b) : cnt a p ≤ cnt b p := by
  induction b with
  | zero => have : a = 0 := by omega
            subst this; exact Nat.le_refl _
  | succ b ih =>
    rcases Nat.lt_or_ge a (b + 1) with q | q
    · have := ih (by omega)
      rw [cnt]; omega
    · have : a = b + 1 := by omega
      subst this; exact Nat.le_refl _
theorem cnt_strict {p : Nat → Bool} {a b : Nat} (h : a < b) (hp : p a = true) : cnt a p < cnt b p := by
  have h1 : cnt (a + 1) p = cnt a p + 1 := by rw [cnt, hp]; rfl
  have := cnt_mono_n (p := p) (show a + 1 ≤ b by omega)
  omega
theorem cnt_onto {p : Nat → Bool} {n q : Nat} (h : q < cnt n p) : ∃ j, j < n ∧ p j = true ∧ cnt j p = q := by
  induction n with
  | zero => exact absurd h (by simp [cnt])
  | succ n ih =>
    rw [cnt] at h
    rcases Nat.lt_or_ge q (cnt n p) with z | z
    · obtain ⟨j, h1, h2⟩ := ih z
      exact ⟨j, by omega, h2⟩
    · cases e : p n with
      | false => rw [e] at h; simp at h; omega
      | true => rw [e] at h; simp at h; exact ⟨n, by omega, e, by omega⟩
/-- first of its class -/
def fs (Q : Nat → Nat → Prop) (j : Nat) : Prop := Q j j ∧ ∀ k, k < j → ¬ Q k j
/-- the number of a class: how many classes begin before it -/
noncomputable def bn (Q : Nat → Nat → Prop) (l : Nat) : Nat := cnt l (fun j => dc (fs Q j ∧ ∀ k, k ≤ j → ¬ Q k l))
noncomputable def nbs (Q : Nat → Nat → Prop) (n : Nat) : Nat := cnt n (fun j => dc (fs Q j))
def PER (Q : Nat → Nat → Prop) : Prop := (∀ a b, Q a b → Q b a) ∧ ∀ a b c, Q a b → Q b c → Q a c
theorem PER.sy {Q : Nat → Nat → Prop} (h : PER Q) {a b : Nat} (q : Q a b) : Q b a := h.1 a b q
theorem PER.tr {Q : Nat → Nat → Prop} (h : PER Q) {a b c : Nat} (q : Q a b) (r : Q b c) : Q a c := h.2 a b c q r
variable {Q : Nat → Nat → Prop}
theorem fs_ex (hQ : PER Q) : ∀ l, Q l l → ∃ j, j ≤ l ∧ fs Q j ∧ Q j l := by
  have : ∀ d l, l ≤ d → Q l l → ∃ j, j ≤ l ∧ fs Q j ∧ Q j l := by
    intro d
    induction d with
    | zero => intro l hl h; exact ⟨l, Nat.le_refl _, ⟨h, fun k hk => absurd hk (by omega)⟩, h⟩
    | succ d ih =>
      intro l hl h
      by_cases e : ∃ k, k < l ∧ Q k l
      · obtain ⟨k, h1, h2⟩ := e
        obtain ⟨j, y1, y2, y3⟩ := ih k (by omega) (hQ.tr h2 (hQ.sy h2))
        exact ⟨j, by omega, y2, hQ.tr y3 h2⟩
      · exact ⟨l, Nat.le_refl _, ⟨h, fun k hk hk2 => e ⟨k, hk, hk2⟩⟩, h⟩
  exact fun l => this l l (Nat.le_refl _)
theorem bn_fs {l : Nat} (h : fs Q l) : bn Q l = nbs Q l := by
  refine cnt_congr (fun j hj => dc_congr ⟨fun z => z.1, fun z => ⟨z, fun k hk => h.2 k (by omega)⟩⟩)
theorem bn_eq (hQ : PER Q) {a b : Nat} (h : Q a b) : bn Q a = bn Q b := by
  have key : ∀ a b, a ≤ b → Q a b → bn Q a = bn Q b := fun a b hab h => by
    unfold bn
    rw [cnt_cut (n := b) (m := a) hab (fun i h1 h2 => dc_no.mpr (fun z => z.2 a h1 h))]
    refine cnt_congr (fun j hj => dc_congr ?_)
    constructor
    · rintro ⟨z1, z2⟩; exact ⟨z1, fun k hk w => z2 k hk (hQ.tr w (hQ.sy h))⟩
    · rintro ⟨z1, z2⟩; exact ⟨z1, fun k hk w => z2 k hk (hQ.tr w h)⟩
  rcases Nat.le_total a b with q | q
  · exact key a b q h
  · exact (key b a q (hQ.sy h)).symm
theorem fs_inj {a b : Nat} (ha : fs Q a) (hb : fs Q b) (h : nbs Q a = nbs Q b) : a = b := by
  rcases Nat.lt_trichotomy a b with q | q | q
  · have := cnt_strict (p := fun j => dc (fs Q j)) q (dc_iff.mpr ha)
    unfold nbs at h; omega
  · exact q
  · have := cnt_strict (p := fun j => dc (fs Q j)) q (dc_iff.mpr hb)
    unfold nbs at h; omega
theorem bn_inj (hQ : PER Q) {a b : Nat} (ha : Q a a) (hb : Q b b) (h : bn Q a = bn Q b) : Q a b := by
  obtain ⟨j, -, j1, j2⟩ := fs_ex hQ a ha
  obtain ⟨k, -, k1, k2⟩ := fs_ex hQ b hb
  rw [← bn_eq hQ j2, ← bn_eq hQ k2, bn_fs j1, bn_fs k1] at h
  have := fs_inj j1 k1 h
  subst this
  exact hQ.tr (hQ.sy j2) k2
theorem bn_lt (hQ : PER Q) {l n : Nat} (hl : l < n) (h : Q l l) : bn Q l < nbs Q n := by
  obtain ⟨j, h1, j1, j2⟩ := fs_ex hQ l h
  rw [← bn_eq hQ j2, bn_fs j1]
  exact cnt_strict (p := fun j => dc (fs Q j)) (show j < n by omega) (dc_iff.mpr j1)
theorem bn_onto {n q : Nat} (h : q < nbs Q n) : ∃ l, l < n ∧ fs Q l ∧ bn Q l = q := by
  obtain ⟨j, h1, h2, h3⟩ := cnt_onto h
  exact ⟨j, h1, dc_iff.mp h2, by rw [bn_fs (dc_iff.mp h2)]; exact h3⟩
variable {sz : Nat → Nat} {E : Nat → Nat → Bool} {f f' g g' : Nat → Option Nat}
/-- of one block -/
def eqb (sz : Nat → Nat) (E : Nat → Nat → Bool) (f' : Nat → Option Nat) (a b : Nat) : Prop := inn sz E 0 a ∧ inn sz E 0 b ∧ Cl (stp E f') a b ∧ Cl (stp E f') b a
theorem eqb_per : PER (eqb sz E f') := ⟨fun _ _ h => ⟨h.2.1, h.1, h.2.2.2, h.2.2.1⟩, fun _ _ _ h k => ⟨h.1, k.2.1, h.2.2.1.trans k.2.2.1, k.2.2.2.trans h.2.2.2⟩⟩
theorem eqb_rf {a : Nat} (h : inn sz E 0 a) : eqb sz E f' a a := ⟨h, h, Cl.rf, Cl.rf⟩
theorem use_inn' (hE : Rg (sz 0) (sz 1) E) (hf : Great (sz 0) E f f') {l r : Nat} (hl : inn sz E 0 l) (hlr : E l r = true) : Use sz E l r ↔ ∃ l2, f l2 = some r ∧ eqb sz E f' l l2 := by
  rw [use_inn hE hf hl hlr]
  constructor
  · rintro ⟨l2, z1, z2⟩
    exact ⟨l2, (hf.1.1 l2 r).mpr z1, hl, use_inn_mate hE hf hl hlr z1 z2, Cl.one ⟨r, hlr, z1⟩, z2⟩
  · rintro ⟨l2, z1, z2⟩
    exact ⟨l2, (hf.1.1 l2 r).mp z1, z2.2.2.2⟩
theorem cl_first {R : Nat → Nat → Prop} {a b : Nat} (h : Cl R a b) : b = a ∨ ∃ y, y ≠ a ∧ R a y ∧ Cl R y b := by
  refine h (fun b => b = a ∨ ∃ y, y ≠ a ∧ R a y ∧ Cl R y b) (Or.inl rfl) (fun x y q r => ?_)
  rcases q with q | ⟨w, q1, q2, q3⟩
  · subst q
    by_cases e : y = x
    · exact Or.inl e
    · exact Or.inr ⟨y, e, r, Cl.rf⟩
  · exact Or.inr ⟨w, q1, q2, q3.step r⟩
/-- a block of one pair: that pair is in all greatest pairings -/
theorem lone_all (hE : Rg (sz 0) (sz 1) E) (hf : Great (sz 0) E f f') {l r : Nat} (hl : inn sz E 0 l) (hu : Use sz E l r) : (∀ l2, eqb sz E f' l l2 → l2 = l) ↔ ∀ g g', Great (sz 0) E g g' → g l = some r := by
  have hlr : ∀ r, Use sz E l r → E l r = true := fun r ⟨q, q', h1, h2⟩ => h1.1.2 l r h2
  constructor
  · intro h q q' hq
    have only : ∀ r, Use sz E l r → f l = some r := fun r hu => by
      obtain ⟨l2, z1, z2⟩ := (use_inn' hE hf hl (hlr r hu)).mp hu
      rw [h l2 z2] at z1; exact z1
    cases e : q l with
    | none => exact absurd ⟨hl.1, q, q', hq, e⟩ hl.2.1
    | some r2 =>
      have h1 := only r2 ⟨q, q', hq, e⟩
      have h2 := only r hu
      rw [h1] at h2; exact h2
  · intro h l2 h2
    have hfr := h f f' hf
    rcases cl_first h2.2.2.1 with e | ⟨y, y1, ⟨b, y2, y3⟩, y4⟩
    · exact e
    · exfalso
      have hu2 : Use sz E l b := (use_inn hE hf hl y2).mpr ⟨y, y3, y4.trans h2.2.2.2⟩
      obtain ⟨q, q', q1, q2⟩ := hu2
      rw [h q q' q1] at q2
      cases q2
      rw [(hf.1.1 l r).mp hfr] at y3
      cases y3
      exact y1 rfl
end NUMBER
