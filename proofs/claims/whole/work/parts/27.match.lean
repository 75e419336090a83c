section MATCH
/-- counting: an injection -/
theorem cnt_inj {k : Nat} (φ : Nat → Nat) : ∀ (n : Nat) (p q : Nat → Bool), (∀ i, i < n → p i = true → φ i < k ∧ q (φ i) = true) → (∀ i j, i < n → j < n → p i = true → p j = true → φ i = φ j → i = j) → cnt n p ≤ cnt k q
  | 0, _, _, _, _ => Nat.zero_le _
  | n + 1, p, q, h1, h2 => by
    rw [cnt]
    by_cases hp : p n = true
    · rw [if_pos hp]
      obtain ⟨a1, a2⟩ := h1 n (by omega) hp
      rw [cnt_off a1 a2]
      have := cnt_inj φ n p (fun j => q j && !decide (j = φ n)) (fun i hi hpi => by
        obtain ⟨b1, b2⟩ := h1 i (by omega) hpi
        refine ⟨b1, ?_⟩
        have : φ i ≠ φ n := fun e => by have := h2 i n (by omega) (by omega) hpi hp e; omega
        rw [b2]; simp [this]) (fun i j hi hj => h2 i j (by omega) (by omega))
      omega
    · rw [if_neg hp]
      have := cnt_inj φ n p q (fun i hi => h1 i (by omega)) (fun i j hi hj => h2 i j (by omega) (by omega))
      omega
/-- an injection between sets that are of one size hits all -/
theorem cnt_hit {k n : Nat} (φ : Nat → Nat) {p q : Nat → Bool} (h1 : ∀ i, i < n → p i = true → φ i < k ∧ q (φ i) = true) (h2 : ∀ i j, i < n → j < n → p i = true → p j = true → φ i = φ j → i = j) (h3 : cnt k q ≤ cnt n p) {y : Nat} (hy : y < k) (hq : q y = true) : ∃ i, i < n ∧ p i = true ∧ φ i = y := by
  apply Classical.byContradiction
  intro hn
  have := cnt_inj (k := k) φ n p (fun j => q j && !decide (j = y)) (fun i hi hpi => by
    obtain ⟨b1, b2⟩ := h1 i hi hpi
    refine ⟨b1, ?_⟩
    have : φ i ≠ y := fun e => hn ⟨i, hi, hpi, e⟩
    rw [b2]; simp [this]) h2
  have e := cnt_off hy hq
  omega
/-- a pairing, by partners on both sides -/
def IsM (A : Nat → Nat → Bool) (f f' : Nat → Option Nat) : Prop := (∀ i j, f i = some j ↔ f' j = some i) ∧ ∀ i j, f i = some j → A i j = true
def siz (n : Nat) (f : Nat → Option Nat) : Nat := cnt n (fun i => (f i).isSome)
/-- nodes of edges are in range -/
def Rg (n k : Nat) (A : Nat → Nat → Bool) : Prop := ∀ i j, A i j = true → i < n ∧ j < k
def Great (n : Nat) (A : Nat → Nat → Bool) (f f' : Nat → Option Nat) : Prop := IsM A f f' ∧ ∀ g g', IsM A g g' → siz n g ≤ siz n f
theorem isSome_ex {o : Option Nat} (h : o.isSome = true) : ∃ x, o = some x := by
  cases o with
  | none => cases h
  | some x => exact ⟨x, rfl⟩
theorem IsM.swap {A : Nat → Nat → Bool} {f f' : Nat → Option Nat} (h : IsM A f f') : IsM (fun j i => A i j) f' f := ⟨fun i j => (h.1 j i).symm, fun i j hij => h.2 j i ((h.1 j i).mpr hij)⟩
theorem Rg.swap {n k : Nat} {A : Nat → Nat → Bool} (h : Rg n k A) : Rg k n (fun j i => A i j) := fun i j hij => ⟨(h j i hij).2, (h j i hij).1⟩
theorem siz_le {n k : Nat} {A : Nat → Nat → Bool} {f f' : Nat → Option Nat} (hA : Rg n k A) (h : IsM A f f') : siz n f ≤ siz k f' := by
  refine cnt_inj (fun i => (f i).getD 0) n _ _ (fun i _ hp => ?_) (fun i j _ _ hp hq e => ?_)
  · obtain ⟨x, hx⟩ := isSome_ex hp
    have := hA i x (h.2 i x hx)
    simp only [hx, Option.getD_some]
    exact ⟨this.2, by rw [(h.1 i x).mp hx]; rfl⟩
  · obtain ⟨x, hx⟩ := isSome_ex hp
    obtain ⟨y, hy⟩ := isSome_ex hq
    simp only [hx, hy, Option.getD_some] at e
    subst e
    have a := (h.1 i x).mp hx
    have b := (h.1 j x).mp hy
    rw [a] at b
    cases b; rfl
theorem siz_eq {n k : Nat} {A : Nat → Nat → Bool} {f f' : Nat → Option Nat} (hA : Rg n k A) (h : IsM A f f') : siz n f = siz k f' := Nat.le_antisymm (siz_le hA h) (siz_le hA.swap h.swap)
/-- a closed set that has the bare nodes: what it says of any other pairing. φ sends a node that g pairs to one that f pairs -/
theorem closed_map {n k : Nat} {A : Nat → Nat → Bool} {f f' g g' : Nat → Option Nat} (hA : Rg n k A) (hf : IsM A f f') (hg : IsM A g g') (X : Nat → Prop) (h1 : ∀ i, i < n → f i = none → X i) (h2 : ∀ i j, X i → A i j = true → ∃ i', f' j = some i' ∧ X i') :
    ∃ φ : Nat → Nat, (∀ i, i < n → (g i).isSome = true → φ i < n ∧ (f (φ i)).isSome = true) ∧ (∀ i j, i < n → j < n → (g i).isSome = true → (g j).isSome = true → φ i = φ j → i = j) ∧ (∀ i, i < n → (g i).isSome = true → ¬ X i → φ i = i) ∧ (∀ i j, g i = some j → X i → X (φ i) ∧ f (φ i) = some j) := by
  classical
  have key : ∀ i j, g i = some j → X i → X ((f' j).getD 0) ∧ f ((f' j).getD 0) = some j := by
    intro i j hij hx
    obtain ⟨i', z1, z2⟩ := h2 i j hx (hg.2 i j hij)
    rw [z1]
    exact ⟨z2, (hf.1 i' j).mpr z1⟩
  refine ⟨fun i => if X i then (match g i with | some j => (f' j).getD 0 | none => 0) else i, fun i hi hp => ?_, fun i j hi hj hp hq e => ?_, fun i hi hp hx => by simp only [if_neg hx], fun i j hij hx => ?_⟩
  · by_cases hx : X i
    · obtain ⟨j, hj⟩ := isSome_ex hp
      simp only [if_pos hx, hj]
      obtain ⟨z1, z2⟩ := key i j hj hx
      exact ⟨(hA _ _ (hf.2 _ _ z2)).1, by rw [z2]; rfl⟩
    · simp only [if_neg hx]
      refine ⟨hi, ?_⟩
      cases e : f i with
      | none => exact absurd (h1 i hi e) hx
      | some _ => rfl
  · obtain ⟨x, hx⟩ := isSome_ex hp
    obtain ⟨y, hy⟩ := isSome_ex hq
    by_cases xi : X i <;> by_cases xj : X j
    · simp only [if_pos xi, if_pos xj, hx, hy] at e
      have a := (key i x hx xi).2
      have b := (key j y hy xj).2
      rw [e, b] at a
      have exy : y = x := Option.some.inj a
      subst exy
      have c := (hg.1 i y).mp hx
      have d := (hg.1 j y).mp hy
      rw [c] at d
      exact Option.some.inj d
    · simp only [if_pos xi, if_neg xj, hx] at e
      exact absurd (e ▸ (key i x hx xi).1) xj
    · simp only [if_neg xi, if_pos xj, hy] at e
      exact absurd (e ▸ (key j y hy xj).1) xi
    · simp only [if_neg xi, if_neg xj] at e
      exact e
  · simp only [if_pos hx, hij]
    exact key i j hij hx
/-- such a set shows that the pairing is a greatest one -/
theorem konig {n k : Nat} {A : Nat → Nat → Bool} {f f' : Nat → Option Nat} (hA : Rg n k A) (hf : IsM A f f') (X : Nat → Prop) (h1 : ∀ i, i < n → f i = none → X i) (h2 : ∀ i j, X i → A i j = true → ∃ i', f' j = some i' ∧ X i') : Great n A f f' := by
  refine ⟨hf, fun g g' hg => ?_⟩
  obtain ⟨φ, a1, a2, -, -⟩ := closed_map hA hf hg X h1 h2
  exact cnt_inj φ n _ _ a1 a2
/-- and in every greatest pairing the nodes outside it have partners; the partners' side of its edges is paired into it -/
theorem tight {n k : Nat} {A : Nat → Nat → Bool} {f f' g g' : Nat → Option Nat} (hA : Rg n k A) (hf : IsM A f f') (hg : IsM A g g') (X : Nat → Prop) (h1 : ∀ i, i < n → f i = none → X i) (h2 : ∀ i j, X i → A i j = true → ∃ i', f' j = some i' ∧ X i') (hs : siz n f ≤ siz n g) :
    (∀ i, i < n → ¬ X i → ∃ j, g i = some j) ∧ ∀ i j, X i → A i j = true → ∃ i', g' j = some i' ∧ X i' := by
  obtain ⟨φ, a1, a2, a3, a4⟩ := closed_map hA hf hg X h1 h2
  refine ⟨fun i hi hx => ?_, fun i j hx hij => ?_⟩
  · have hfi : (f i).isSome = true := by
      cases e : f i with
      | none => exact absurd (h1 i hi e) hx
      | some _ => rfl
    obtain ⟨y, b1, b2, b3⟩ := cnt_hit φ a1 a2 hs hi hfi
    by_cases xy : X y
    · obtain ⟨j, hj⟩ := isSome_ex b2
      have := (a4 y j hj xy).1
      rw [b3] at this
      exact absurd this hx
    · have := a3 y b1 b2 xy
      rw [b3] at this
      subst this
      exact isSome_ex b2
  · obtain ⟨i', z1, z2⟩ := h2 i j hx hij
    have z3 := (hf.1 i' j).mpr z1
    have hi' := (hA i' j (hf.2 i' j z3)).1
    obtain ⟨y, b1, b2, b3⟩ := cnt_hit φ a1 a2 hs hi' (by rw [z3]; rfl)
    obtain ⟨j', hj'⟩ := isSome_ex b2
    by_cases xy : X y
    · have := (a4 y j' hj' xy).2
      rw [b3, z3] at this
      cases this
      exact ⟨y, (hg.1 y j).mp hj', xy⟩
    · have := a3 y b1 b2 xy
      rw [b3] at this
      subst this
      exact absurd z2 xy
def up (f : Nat → Option Nat) (i : Nat) (v : Option Nat) : Nat → Option Nat := fun j => if j = i then v else f j
theorem up_eq {f : Nat → Option Nat} {i : Nat} {v : Option Nat} : up f i v i = v := if_pos rfl
theorem up_ne {f : Nat → Option Nat} {i j : Nat} {v : Option Nat} (h : j ≠ i) : up f i v j = f j := if_neg h
theorem siz_up_some {n i j : Nat} {f : Nat → Option Nat} (hi : i < n) (h : f i = none) : siz n (up f i (some j)) = siz n f + 1 := by
  have e := cnt_off (n := n) (k := i) (p := fun a => (up f i (some j) a).isSome) hi (by simp [up_eq])
  unfold siz
  rw [e]
  congr 1
  apply cnt_congr
  intro a _
  by_cases ea : a = i
  · subst ea; simp [h]
  · simp [ea, up_ne ea]
theorem siz_up_same {n i : Nat} {f : Nat → Option Nat} {v : Option Nat} (h : (f i).isSome = v.isSome) : siz n (up f i v) = siz n f := by
  apply cnt_congr
  intro a _
  by_cases ea : a = i
  · subst ea; rw [up_eq]; exact h.symm
  · rw [up_ne ea]
theorem siz_up_none {n i : Nat} {f : Nat → Option Nat} (hi : i < n) (h : (f i).isSome = true) : siz n f = siz n (up f i none) + 1 := by
  obtain ⟨x, hx⟩ := isSome_ex h
  have := siz_up_some (j := x) (f := up f i none) hi up_eq
  rw [← this]
  apply cnt_congr
  intro a _
  by_cases ea : a = i
  · subst ea; rw [up_eq, hx]
  · rw [up_ne ea, up_ne ea]
/-- a pair is added -/
theorem IsM.add {A : Nat → Nat → Bool} {f f' : Nat → Option Nat} (h : IsM A f f') {l r : Nat} (hA : A l r = true) (h1 : f l = none) (h2 : f' r = none) : IsM A (up f l (some r)) (up f' r (some l)) := by
  refine ⟨fun i j => ?_, fun i j hij => ?_⟩
  · by_cases ei : i = l
    · subst ei
      by_cases ej : j = r
      · subst ej; simp [up_eq]
      · rw [up_eq, up_ne ej]
        constructor
        · intro z; cases z; exact absurd rfl ej
        · intro z
          rw [(h.1 i j).mpr z] at h1; cases h1
    · rw [up_ne ei]
      by_cases ej : j = r
      · subst ej
        rw [up_eq]
        constructor
        · intro z
          rw [(h.1 i j).mp z] at h2; cases h2
        · intro z; cases z; exact absurd rfl ei
      · rw [up_ne ej]; exact h.1 i j
  · by_cases ei : i = l
    · subst ei; rw [up_eq] at hij; cases hij; exact hA
    · rw [up_ne ei] at hij; exact h.2 i j hij
/-- a pair goes -/
theorem IsM.del {A : Nat → Nat → Bool} {f f' : Nat → Option Nat} (h : IsM A f f') {l r : Nat} (h1 : f l = some r) : IsM A (up f l none) (up f' r none) := by
  refine ⟨fun i j => ?_, fun i j hij => ?_⟩
  · by_cases ei : i = l
    · subst ei
      by_cases ej : j = r
      · subst ej; simp [up_eq]
      · rw [up_eq, up_ne ej]
        constructor
        · intro z; cases z
        · intro z
          rw [(h.1 i j).mpr z] at h1; cases h1; exact absurd rfl ej
    · rw [up_ne ei]
      by_cases ej : j = r
      · subst ej
        rw [up_eq]
        constructor
        · intro z
          have a := (h.1 i j).mp z
          rw [(h.1 l j).mp h1] at a
          cases a; exact absurd rfl ei
        · intro z; cases z
      · rw [up_ne ej]; exact h.1 i j
  · by_cases ei : i = l
    · subst ei; rw [up_eq] at hij; cases hij
    · rw [up_ne ei] at hij; exact h.2 i j hij
/-- a bare node that steps come to makes the pairing greater; T k: what k steps come to -/
theorem flip {n k0 : Nat} {A : Nat → Nat → Bool} (hA : Rg n k0 A) (T : Nat → Nat → Prop) (mono : ∀ k a, T k a → T (k + 1) a) : ∀ (k : Nat) (f f' : Nat → Option Nat) (l r : Nat), IsM A f f' → (∀ a, T 0 a → f a = none) → (∀ j a, j < k → T (j + 1) a → T j a ∨ ∃ a' b, T j a' ∧ A a' b = true ∧ f a = some b) → T k l → A l r = true → f' r = none →
    ∃ g g', IsM A g g' ∧ siz n g = siz n f + 1 ∧ (∀ a, ¬ T k a → g a = f a) ∧ (∀ b, (g' b).isSome = true ↔ (f' b).isSome = true ∨ b = r) ∧ ∀ a, (f a).isSome = true → (g a).isSome = true
  | 0, f, f', l, r, hf, h0, hs, hl, hlr, hr => by
    have hfl := h0 l hl
    refine ⟨up f l (some r), up f' r (some l), hf.add hlr hfl hr, siz_up_some (hA l r hlr).1 hfl, fun a ha => ?_, fun b => ?_, fun a ha => ?_⟩
    · exact up_ne (fun e => ha (e ▸ hl))
    · by_cases eb : b = r
      · subst eb; simp [up_eq]
      · rw [up_ne eb]; simp [eb]
    · by_cases ea : a = l
      · subst ea; rw [up_eq]; rfl
      · rw [up_ne ea]; exact ha
  | k + 1, f, f', l, r, hf, h0, hs, hl, hlr, hr => by
    classical
    by_cases hlk : T k l
    · obtain ⟨g, g', z1, z2, z3, z4, z5⟩ := flip hA T mono k f f' l r hf h0 (fun j a hj => hs j a (by omega)) hlk hlr hr
      exact ⟨g, g', z1, z2, fun a ha => z3 a (fun q => ha (mono k a q)), z4, z5⟩
    · rcases hs k l (by omega) hl with z | ⟨a', b, z1, z2, z3⟩
      · exact absurd z hlk
      · have hfb := (hf.1 l b).mp z3
        have hbr : b ≠ r := fun e => by rw [e, hr] at hfb; cases hfb
        have m1 := hf.del z3
        have m2 := m1.add (l := l) (r := r) hlr up_eq (by rw [up_ne (Ne.symm hbr)]; exact hr)
        have e1 : up (up f l none) l (some r) = up f l (some r) := by
          funext a
          by_cases ea : a = l
          · subst ea; rw [up_eq, up_eq]
          · rw [up_ne ea, up_ne ea, up_ne ea]
        rw [e1] at m2
        have nl : ∀ j a, j ≤ k → T j a → a ≠ l := fun j a hj ha e => by
          subst e
          have : ∀ d, T (j + d) a := fun d => by
            induction d with
            | zero => exact ha
            | succ d ih => exact mono _ _ ih
          have := this (k - j)
          rw [show j + (k - j) = k by omega] at this
          exact hlk this
        obtain ⟨g, g', y1, y2, y3, y4, y5⟩ := flip hA T mono k (up f l (some r)) (up (up f' b none) r (some l)) a' b m2 (fun a ha => by rw [up_ne (nl 0 a (by omega) ha)]; exact h0 a ha) (fun j a hj ha => by
          rcases hs j a (by omega) ha with q | ⟨a2, b2, q1, q2, q3⟩
          · exact Or.inl q
          · right
            refine ⟨a2, b2, q1, q2, ?_⟩
            rw [up_ne (nl (j + 1) a (by omega) ha)]; exact q3) z1 z2 (by rw [up_ne hbr, up_eq])
        refine ⟨g, g', y1, by rw [y2, siz_up_same (by rw [z3]; rfl)], fun a ha => ?_, fun c => ?_, fun a ha => ?_⟩
        · have eal : a ≠ l := fun e => ha (by rw [e]; exact hl)
          rw [y3 a (fun q => ha (mono k a q)), up_ne eal]
        · rw [y4 c]
          by_cases ec : c = r
          · subst ec; simp [up_eq]
          · rw [up_ne ec]
            by_cases ecb : c = b
            · subst ecb; simp [up_eq, hfb]
            · rw [up_ne ecb]; simp [ec, ecb]
        · apply y5
          by_cases ea : a = l
          · subst ea; rw [up_eq]; rfl
          · rw [up_ne ea]; exact ha
end MATCH
