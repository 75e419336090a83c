section MISS
/-- what steps come to: over an edge, back with the partner -/
def RchG (A : Nat → Nat → Bool) (f' : Nat → Option Nat) (st : Nat → Prop) (i : Nat) : Prop := ∀ P : Nat → Prop, (∀ a, st a → P a) → (∀ a b c, P a → A a b = true → f' b = some c → P c) → P i
/-- the same in at most k steps -/
def Tl (A : Nat → Nat → Bool) (f' : Nat → Option Nat) (st : Nat → Prop) : Nat → Nat → Prop
  | 0, a => st a
  | k + 1, a => Tl A f' st k a ∨ ∃ a' b, Tl A f' st k a' ∧ A a' b = true ∧ f' b = some a
variable {n k : Nat} {A : Nat → Nat → Bool} {f f' g g' : Nat → Option Nat} {st : Nat → Prop}
theorem RchG.start {i : Nat} (h : st i) : RchG A f' st i := fun _ h1 _ => h1 i h
theorem RchG.step {a b c : Nat} (h : RchG A f' st a) (h1 : A a b = true) (h2 : f' b = some c) : RchG A f' st c := fun P p1 p2 => p2 a b c (h P p1 p2) h1 h2
theorem Tl_mono (j a : Nat) (h : Tl A f' st j a) : Tl A f' st (j + 1) a := Or.inl h
theorem RchG.tl {i : Nat} (h : RchG A f' st i) : ∃ j, Tl A f' st j i := h (fun i => ∃ j, Tl A f' st j i) (fun _ ha => ⟨0, ha⟩) (fun a b c ⟨j, hj⟩ h1 h2 => ⟨j + 1, Or.inr ⟨a, b, hj, h1, h2⟩⟩)
theorem Tl.rch {j i : Nat} (h : Tl A f' st j i) : RchG A f' st i := by
  induction j generalizing i with
  | zero => exact RchG.start h
  | succ j ih =>
    rcases h with h | ⟨a, b, h1, h2, h3⟩
    · exact ih h
    · exact (ih h1).step h2 h3
/-- a node without a partner -/
def bareN (n : Nat) (f : Nat → Option Nat) (i : Nat) : Prop := i < n ∧ f i = none
theorem tl_cert (hf : IsM A f f') (hst : ∀ a, st a → f a = none) : (∀ a, Tl A f' st 0 a → f a = none) ∧ ∀ j a, Tl A f' st (j + 1) a → Tl A f' st j a ∨ ∃ a' b, Tl A f' st j a' ∧ A a' b = true ∧ f a = some b := by
  refine ⟨fun a h => hst a h, fun j a h => ?_⟩
  rcases h with h | ⟨a', b, h1, h2, h3⟩
  · exact Or.inl h
  · exact Or.inr ⟨a', b, h1, h2, (hf.1 a b).mpr h3⟩
/-- in a greatest pairing no bare node of the other side is come to -/
theorem great_closed (hA : Rg n k A) (hf : Great n A f f') {i j : Nat} (hi : RchG A f' (bareN n f) i) (hij : A i j = true) : ∃ i', f' j = some i' ∧ RchG A f' (bareN n f) i' := by
  cases e : f' j with
  | some i' => exact ⟨i', rfl, hi.step hij e⟩
  | none =>
    exfalso
    obtain ⟨l, hl⟩ := hi.tl
    obtain ⟨c1, c2⟩ := tl_cert (st := bareN n f) hf.1 (fun a h => h.2)
    obtain ⟨g, g', z1, z2, -⟩ := flip hA (Tl A f' (bareN n f)) Tl_mono l f f' i j hf.1 c1 (fun j a _ => c2 j a) hl hij e
    have := hf.2 g g' z1
    omega
theorem great_conv (hA : Rg n k A) (hf : IsM A f f') (h : ∀ i j, RchG A f' (bareN n f) i → A i j = true → ∃ i', f' j = some i') : Great n A f f' :=
  konig hA hf (RchG A f' (bareN n f)) (fun i hi hn => RchG.start ⟨hi, hn⟩) (fun i j hx hij => by
    obtain ⟨i', hi'⟩ := h i j hx hij
    exact ⟨i', hi', hx.step hij hi'⟩)
theorem great_same (hf : Great n A f f') (hg : IsM A g g') (h : siz n f ≤ siz n g) : Great n A g g' := ⟨hg, fun q q' hq => Nat.le_trans (hf.2 q q' hq) h⟩
theorem great_siz (hf : Great n A f f') (hg : Great n A g g') : siz n f = siz n g := Nat.le_antisymm (hg.2 f f' hf.1) (hf.2 g g' hg.1)
/-- come to from a bare node: some greatest pairing leaves it bare -/
theorem miss_of_rch (hA : Rg n k A) (hf : Great n A f f') {i : Nat} (hi : RchG A f' (bareN n f) i) : ∃ g g', Great n A g g' ∧ g i = none := by
  classical
  cases e : f i with
  | none => exact ⟨f, f', hf, e⟩
  | some b =>
    obtain ⟨c1, c2⟩ := tl_cert (st := bareN n f) hf.1 (fun a h => h.2)
    obtain ⟨j, hj1, hj2⟩ := pk_least (fun j => Tl A f' (bareN n f) j i) hi.tl
    cases j with
    | zero => rw [c1 i hj1] at e; cases e
    | succ j =>
      have hnj : ¬ Tl A f' (bareN n f) j i := hj2 j (by omega)
      rcases c2 j i hj1 with z | ⟨a', b', z1, z2, z3⟩
      · exact absurd z hnj
      · rw [e] at z3
        cases z3
        have hin := (hA i b (hf.1.2 i b e)).1
        have nl : ∀ t a, t ≤ j → Tl A f' (bareN n f) t a → a ≠ i := fun t a ht ha ea => by
          subst ea
          have : ∀ d, Tl A f' (bareN n f) (t + d) a := fun d => by
            induction d with
            | zero => exact ha
            | succ d ih => exact Tl_mono _ _ ih
          have := this (j - t)
          rw [show t + (j - t) = j by omega] at this
          exact hnj this
        obtain ⟨g, g', y1, y2, y3, -, -⟩ := flip hA (Tl A f' (bareN n f)) Tl_mono j (up f i none) (up f' b none) a' b (hf.1.del e) (fun a ha => by rw [up_ne (nl 0 a (by omega) ha)]; exact c1 a ha) (fun t a ht ha => by
          rcases c2 t a ha with q | ⟨a2, b2, q1, q2, q3⟩
          · exact Or.inl q
          · exact Or.inr ⟨a2, b2, q1, q2, by rw [up_ne (nl (t + 1) a (by omega) ha)]; exact q3⟩) z1 z2 up_eq
        have hs := siz_up_none (f := f) hin (by rw [e]; rfl)
        exact ⟨g, g', great_same hf y1 (by omega), by rw [y3 i hnj, up_eq]⟩
theorem rch_of_miss (hA : Rg n k A) (hf : Great n A f f') (hg : Great n A g g') {i : Nat} (hi : i < n) (h : g i = none) : RchG A f' (bareN n f) i := by
  apply Classical.byContradiction
  intro hn
  obtain ⟨t1, -⟩ := tight hA hf.1 hg.1 (RchG A f' (bareN n f)) (fun i hi hn => RchG.start ⟨hi, hn⟩) (fun i j hx hij => great_closed hA hf hx hij) (hg.2 f f' hf.1)
  obtain ⟨j, hj⟩ := t1 i hi hn
  rw [h] at hj; cases hj
/-- nodes that are across from missed ones are paired with missed ones, in every greatest pairing -/
theorem miss_across (hA : Rg n k A) (hf : Great n A f f') (hg : Great n A g g') {i j : Nat} (hi : RchG A f' (bareN n f) i) (hij : A i j = true) : ∃ i', g' j = some i' ∧ RchG A f' (bareN n f) i' :=
  (tight hA hf.1 hg.1 (RchG A f' (bareN n f)) (fun i hi hn => RchG.start ⟨hi, hn⟩) (fun i j hx hij => great_closed hA hf hx hij) (hg.2 f f' hf.1)).2 i j hi hij
theorem Great.swap (hA : Rg n k A) (hf : Great n A f f') : Great k (fun j i => A i j) f' f := by
  refine ⟨hf.1.swap, fun g g' hg => ?_⟩
  have h1 := hf.2 g' g hg.swap
  rw [siz_eq hA hf.1] at h1
  have h2 := siz_eq hA.swap hg
  omega
end MISS
