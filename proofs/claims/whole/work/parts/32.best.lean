section BEST
variable {n k : Nat} {A : Nat → Nat → Bool} {f f' g g' : Nat → Option Nat}
/-- steps from a bare node: a pairing of the same size leaves the node bare (whatever the pairing) -/
theorem rch_swap (hA : Rg n k A) (hf : IsM A f f') {i : Nat} (hi : RchG A f' (bareN n f) i) : ∃ g g', IsM A g g' ∧ siz n g = siz n f ∧ g i = none := by
  classical
  cases e : f i with
  | none => exact ⟨f, f', hf, rfl, e⟩
  | some b =>
    obtain ⟨c1, c2⟩ := tl_cert (st := bareN n f) hf (fun a h => h.2)
    obtain ⟨j, hj1, hj2⟩ := pk_least (fun j => Tl A f' (bareN n f) j i) hi.tl
    cases j with
    | zero => rw [c1 i hj1] at e; cases e
    | succ j =>
      have hnj : ¬ Tl A f' (bareN n f) j i := hj2 j (by omega)
      rcases c2 j i hj1 with z | ⟨a', b', z1, z2, z3⟩
      · exact absurd z hnj
      · rw [e] at z3
        cases z3
        have hin := (hA i b (hf.2 i b e)).1
        have nl : ∀ t a, t ≤ j → Tl A f' (bareN n f) t a → a ≠ i := fun t a ht ha ea => by
          subst ea
          have : ∀ d, Tl A f' (bareN n f) (t + d) a := fun d => by
            induction d with
            | zero => exact ha
            | succ d ih => exact Tl_mono _ _ ih
          have := this (j - t)
          rw [show t + (j - t) = j by omega] at this
          exact hnj this
        obtain ⟨g, g', y1, y2, y3, -, -⟩ := flip hA (Tl A f' (bareN n f)) Tl_mono j (up f i none) (up f' b none) a' b (hf.del e) (fun a ha => by rw [up_ne (nl 0 a (by omega) ha)]; exact c1 a ha) (fun t a ht ha => by
          rcases c2 t a ha with q | ⟨a2, b2, q1, q2, q3⟩
          · exact Or.inl q
          · exact Or.inr ⟨a2, b2, q1, q2, by rw [up_ne (nl (t + 1) a (by omega) ha)]; exact q3⟩) z1 z2 up_eq
        have hs := siz_up_none (f := f) hin (by rw [e]; rfl)
        exact ⟨g, g', y1, by omega, by rw [y3 i hnj, up_eq]⟩
/-- a bare node that steps come to: one pair more -/
theorem rch_grow (hA : Rg n k A) (hf : IsM A f f') {i j : Nat} (hi : RchG A f' (bareN n f) i) (hij : A i j = true) (hj : f' j = none) : ∃ g g', IsM A g g' ∧ siz n g = siz n f + 1 := by
  obtain ⟨l, hl⟩ := hi.tl
  obtain ⟨c1, c2⟩ := tl_cert (st := bareN n f) hf (fun a h => h.2)
  obtain ⟨g, g', z1, z2, -⟩ := flip hA (Tl A f' (bareN n f)) Tl_mono l f f' i j hf c1 (fun j a _ => c2 j a) hl hij hj
  exact ⟨g, g', z1, z2⟩
/-- a pairing of the graph without the left node l -/
theorem IsM.sub {B : Nat → Nat → Bool} (hf : IsM A f f') (h : ∀ i j, f i = some j → B i j = true) : IsM B f f' := ⟨hf.1, h⟩
def noRow (A : Nat → Nat → Bool) (l : Nat) : Nat → Nat → Bool := fun i j => A i j && !decide (i = l)
theorem noRow_ne {l i j : Nat} : noRow A l i j = true ↔ A i j = true ∧ i ≠ l := by
  unfold noRow; simp
theorem IsM.up_row {l : Nat} (hf : IsM (noRow A l) f f') : f l = none := by
  cases e : f l with
  | none => rfl
  | some j => exact absurd rfl (noRow_ne.mp (hf.2 l j e)).2
/-- where a node l of a greatest pairing is bare, any edge of it is in some greatest pairing -/
theorem choice_bare (hA : Rg n k A) (hf : Great n A f f') {l r : Nat} (hl : f l = none) (hr : A l r = true) : ∃ g g', Great n A g g' ∧ g l = some r := by
  have hln := (hA l r hr).1
  obtain ⟨l2, z1, -⟩ := great_closed hA hf (RchG.start (st := bareN n f) ⟨hln, hl⟩) hr
  have z2 := (hf.1.1 l2 r).mpr z1
  have hne : l ≠ l2 := fun e => by rw [e, z2] at hl; cases hl
  have m1 := hf.1.del z2
  have m2 := m1.add (l := l) (r := r) hr (by rw [up_ne hne]; exact hl) up_eq
  refine ⟨_, _, great_same hf m2 ?_, up_eq⟩
  rw [siz_up_some hln (by rw [up_ne hne]; exact hl)]
  have := siz_up_none (f := f) (i := l2) (hA l2 r (hf.1.2 l2 r z2)).1 (by rw [z2]; rfl)
  omega
/-- the right nodes that steps come to from bare ones and from the partner of l, when l is out -/
def rOut (A : Nat → Nat → Bool) (k l : Nat) (f f' : Nat → Option Nat) (m0 : Nat) : Nat → Prop := RchG (fun j i => noRow A l i j) (up f l none) (bareN k (up f' m0 none))
theorem choice_pair (hA : Rg n k A) (hf : Great n A f f') {l r m0 : Nat} (hl : f l = some m0) (hr : A l r = true) :
    (∃ g g', Great n A g g' ∧ g l = some r) ↔ (∃ b l3, rOut A k l f f' m0 b ∧ noRow A l l3 b = true ∧ f l3 = none) ∨ rOut A k l f f' m0 r := by
  have hln := (hA l r hr).1
  have hrk := (hA l r hr).2
  have hB : Rg n k (noRow A l) := fun i j hij => hA i j (noRow_ne.mp hij).1
  have hf0 : IsM (noRow A l) (up f l none) (up f' m0 none) := (hf.1.del hl).sub (fun i j hij => by
    by_cases e : i = l
    · subst e; rw [up_eq] at hij; cases hij
    · rw [up_ne e] at hij
      exact noRow_ne.mpr ⟨hf.1.2 i j hij, e⟩)
  have hs0 := siz_up_none (f := f) hln (by rw [hl]; rfl)
  have eqk := siz_eq hB hf0
  constructor
  · rintro ⟨g, g', hg, hgl⟩
    apply Classical.byContradiction
    intro hn
    -- the pairing without l is a greatest one there, seen from the right side
    have hG0 : Great k (fun j i => noRow A l i j) (up f' m0 none) (up f l none) := great_conv hB.swap hf0.swap (fun b l3 hb hbl => by
      cases e : up f l none l3 with
      | some v => exact ⟨v, rfl⟩
      | none =>
        exfalso
        apply hn
        left
        refine ⟨b, l3, hb, hbl, ?_⟩
        rw [up_ne (noRow_ne.mp hbl).2] at e
        exact e)
    have hg0 : IsM (noRow A l) (up g l none) (up g' r none) := (hg.1.del hgl).sub (fun i j hij => by
      by_cases e : i = l
      · subst e; rw [up_eq] at hij; cases hij
      · rw [up_ne e] at hij
        exact noRow_ne.mpr ⟨hg.1.2 i j hij, e⟩)
    have hsg := siz_up_none (f := g) hln (by rw [hgl]; rfl)
    have hsg2 := great_siz hf hg
    have eqg := siz_eq hB hg0
    have hGg : Great k (fun j i => noRow A l i j) (up g' r none) (up g l none) := great_same hG0 hg0.swap (by omega)
    exact hn (Or.inr (rch_of_miss hB.swap hG0 hGg hrk up_eq))
  · rintro (⟨b, l3, hb, hbl, hl3⟩ | hro)
    · obtain ⟨q, q', y1, y2⟩ := rch_grow hB.swap hf0.swap hb hbl (by rw [up_ne (noRow_ne.mp hbl).2]; exact hl3)
      have y3 : IsM A q' q := y1.swap.sub (fun i j hij => (noRow_ne.mp (y1.swap.2 i j hij)).1)
      have y4 : siz n q' = siz k q := siz_eq hA y3
      exact choice_bare hA (great_same hf y3 (by omega)) (IsM.up_row y1.swap) hr
    · obtain ⟨q, q', y1, y2, y3⟩ := rch_swap hB.swap hf0.swap hro
      have hq'l : q' l = none := IsM.up_row y1.swap
      have y4 : IsM A q' q := y1.swap.sub (fun i j hij => (noRow_ne.mp (y1.swap.2 i j hij)).1)
      have y5 : siz n q' = siz k q := siz_eq hA y4
      refine ⟨_, _, great_same hf (y4.add (l := l) (r := r) hr hq'l y3) ?_, up_eq⟩
      rw [siz_up_some hln hq'l]
      omega
/-- THE BEST pairing up to node c: each left node has the least partner that a greatest pairing with the same partners before it allows -/
def Best (n : Nat) (A : Nat → Nat → Bool) (f f' : Nat → Option Nat) (c : Nat) : Prop := Great n A f f' ∧ ∀ l, l < c → ∀ g g' r, Great n A g g' → (∀ i, i < l → g i = f i) → g l = some r → ∃ r0, f l = some r0 ∧ r0 ≤ r
theorem best_unique {c : Nat} (hf : Best n A f f' c) (hg : Best n A g g' c) : ∀ l, l < c → f l = g l := by
  intro l
  induction l using Nat.strongRecOn with
  | ind l ih =>
    intro hl
    have hpre : ∀ i, i < l → f i = g i := fun i hi => ih i hi (by omega)
    cases ef : f l with
    | none =>
      cases eg : g l with
      | none => rfl
      | some r =>
        obtain ⟨r0, z1, -⟩ := hf.2 l hl g g' r hg.1 (fun i hi => (hpre i hi).symm) eg
        rw [ef] at z1; cases z1
    | some r =>
      obtain ⟨r0, z1, z2⟩ := hg.2 l hl f f' r hf.1 hpre ef
      obtain ⟨r1, y1, y2⟩ := hf.2 l hl g g' r0 hg.1 (fun i hi => (hpre i hi).symm) z1
      rw [ef] at y1
      cases y1
      rw [z1, show r0 = r by omega]
end BEST
