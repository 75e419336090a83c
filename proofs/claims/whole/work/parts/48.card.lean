def HasCard {α : Type} (X : α → Prop) (m : Nat) : Prop := ∃ L : List α, L.Nodup ∧ (∀ a, a ∈ L ↔ X a) ∧ L.length = m
theorem nd_le {α : Type} : ∀ (L M : List α), L.Nodup → (∀ a, a ∈ L → a ∈ M) → L.length ≤ M.length
  | [], _, _, _ => Nat.zero_le _
  | a :: L, M, h, hs => by
    obtain ⟨s, t, e⟩ := List.append_of_mem (hs a (List.mem_cons_self ..))
    have h1 := List.nodup_cons.1 h
    have := nd_le L (s ++ t) h1.2 (fun b hb => by
      have hb2 := hs b (List.mem_cons_of_mem _ hb)
      rw [e] at hb2
      rcases List.mem_append.1 hb2 with q | q
      · exact List.mem_append.2 (Or.inl q)
      · rcases List.mem_cons.1 q with q | q
        · subst q; exact (h1.1 hb).elim
        · exact List.mem_append.2 (Or.inr q))
    rw [e]
    simp only [List.length_append, List.length_cons] at this ⊢
    omega
theorem nd_map {α β : Type} (φ : α → β) : ∀ (L : List α), L.Nodup → (∀ a b, a ∈ L → b ∈ L → φ a = φ b → a = b) → (L.map φ).Nodup
  | [], _, _ => List.nodup_nil
  | a :: L, h, hi => by
    have h1 := List.nodup_cons.1 h
    rw [List.map_cons, List.nodup_cons]
    refine ⟨fun q => ?_, nd_map φ L h1.2 (fun x y hx hy => hi x y (List.mem_cons_of_mem _ hx) (List.mem_cons_of_mem _ hy))⟩
    obtain ⟨b, hb, e⟩ := List.mem_map.1 q
    have := hi b a (List.mem_cons_of_mem _ hb) (List.mem_cons_self ..) e
    subst this
    exact h1.1 hb
theorem nd_app {α : Type} : ∀ (L M : List α), L.Nodup → M.Nodup → (∀ a, a ∈ L → a ∈ M → False) → (L ++ M).Nodup
  | [], _, _, h, _ => h
  | a :: L, M, h, hM, hd => by
    have h1 := List.nodup_cons.1 h
    rw [List.cons_append, List.nodup_cons]
    refine ⟨fun q => ?_, nd_app L M h1.2 hM (fun b hb => hd b (List.mem_cons_of_mem _ hb))⟩
    rcases List.mem_append.1 q with q | q
    · exact h1.1 q
    · exact hd a (List.mem_cons_self ..) q
variable {α β : Type} {X Y : α → Prop} {Z : β → Prop} {m m' : Nat}
theorem HasCard.unique (h : HasCard X m) (h' : HasCard X m') : m = m' := by
  obtain ⟨L, h1, h2, h3⟩ := h
  obtain ⟨M, g1, g2, g3⟩ := h'
  have a := nd_le L M h1 (fun a ha => (g2 a).2 ((h2 a).1 ha))
  have b := nd_le M L g1 (fun a ha => (h2 a).2 ((g2 a).1 ha))
  omega
theorem HasCard.map (h : HasCard X m) (φ : α → β) (hi : ∀ a b, X a → X b → φ a = φ b → a = b) (hZ : ∀ b, Z b ↔ ∃ a, X a ∧ φ a = b) : HasCard Z m := by
  obtain ⟨L, h1, h2, h3⟩ := h
  refine ⟨L.map φ, nd_map φ L h1 (fun a b ha hb => hi a b ((h2 a).1 ha) ((h2 b).1 hb)), fun b => ?_, by rw [List.length_map]; exact h3⟩
  rw [List.mem_map, hZ b]
  constructor
  · rintro ⟨a, ha, e⟩; exact ⟨a, (h2 a).1 ha, e⟩
  · rintro ⟨a, ha, e⟩; exact ⟨a, (h2 a).2 ha, e⟩
theorem HasCard.congr (h : HasCard X m) (hXY : ∀ a, X a ↔ Y a) : HasCard Y m := by
  obtain ⟨L, h1, h2, h3⟩ := h
  exact ⟨L, h1, fun a => (h2 a).trans (hXY a), h3⟩
theorem HasCard.none (h : ∀ a, ¬ X a) : HasCard X 0 := ⟨[], List.nodup_nil, fun a => ⟨fun q => (by cases q), fun q => (h a q).elim⟩, rfl⟩
theorem HasCard.one {a0 : α} (h : ∀ a, X a ↔ a = a0) : HasCard X 1 := ⟨[a0], List.nodup_cons.2 ⟨List.not_mem_nil, List.nodup_nil⟩, fun a => by rw [List.mem_singleton, h a], rfl⟩
theorem HasCard.add (h : HasCard X m) (h' : HasCard Y m') (hd : ∀ a, X a → Y a → False) : HasCard (fun a => X a ∨ Y a) (m + m') := by
  obtain ⟨L, h1, h2, h3⟩ := h
  obtain ⟨M, g1, g2, g3⟩ := h'
  exact ⟨L ++ M, nd_app L M h1 g1 (fun a ha hb => hd a ((h2 a).1 ha) ((g2 a).1 hb)), fun a => by rw [List.mem_append, h2 a, g2 a], by rw [List.length_append, h3, g3]⟩
theorem prod_aux {M : List β} (g1 : M.Nodup) : ∀ L : List α, L.Nodup → HasCard (fun p : α × β => p.1 ∈ L ∧ p.2 ∈ M) (L.length * M.length)
  | [], _ => by
    rw [List.length_nil, Nat.zero_mul]
    exact HasCard.none (fun a h => by cases h.1)
  | a :: L, h => by
    have h1 := List.nodup_cons.1 h
    have ih := prod_aux g1 L h1.2
    have h0 : HasCard (fun p : α × β => p.1 = a ∧ p.2 ∈ M) M.length := by
      refine HasCard.map (X := fun b => b ∈ M) ⟨M, g1, fun _ => Iff.rfl, rfl⟩ (fun b => (a, b)) (fun x y _ _ e => (Prod.mk.inj e).2) ?_
      rintro ⟨x, y⟩
      constructor
      · rintro ⟨h1, h2⟩; exact ⟨y, h2, by rw [← (show x = a from h1)]⟩
      · rintro ⟨b, hb, e⟩
        obtain ⟨e1, e2⟩ := Prod.mk.inj e
        subst e1 e2
        exact ⟨rfl, hb⟩
    rw [List.length_cons, Nat.add_mul, Nat.one_mul, Nat.add_comm]
    refine (h0.add ih ?_).congr ?_
    · rintro ⟨x, y⟩ h2 h3
      have : x = a := h2.1
      subst this
      exact h1.1 h3.1
    · rintro ⟨x, y⟩
      simp only [List.mem_cons]
      constructor
      · rintro (h | h)
        · exact ⟨Or.inl h.1, h.2⟩
        · exact ⟨Or.inr h.1, h.2⟩
      · rintro ⟨h | h, h2⟩
        · exact Or.inl ⟨h, h2⟩
        · exact Or.inr ⟨h, h2⟩
theorem HasCard.prod (h : HasCard X m) (h' : HasCard Z m') : HasCard (fun p : α × β => X p.1 ∧ Z p.2) (m * m') := by
  obtain ⟨L, h1, h2, h3⟩ := h
  obtain ⟨M, g1, g2, g3⟩ := h'
  rw [← h3, ← g3]
  exact (prod_aux g1 L h1).congr (fun p => by rw [h2, g2])
def sm : Nat → (Nat → Nat) → Nat
  | 0, _ => 0
  | k + 1, c => sm k c + c k
theorem HasCard.sum {W : Nat → α → Prop} {c : Nat → Nat} : ∀ k, (∀ r, r < k → HasCard (W r) (c r)) → (∀ r s a, W r a → W s a → r = s) → HasCard (fun a => ∃ r, r < k ∧ W r a) (sm k c)
  | 0, _, _ => HasCard.none (fun a ⟨r, h, _⟩ => absurd h (by omega))
  | k + 1, h, hd => by
    refine ((HasCard.sum k (fun r hr => h r (by omega)) hd).add (h k (by omega)) ?_).congr ?_
    · rintro a ⟨r, hr, h1⟩ h2
      have := hd r k a h1 h2
      omega
    · intro a
      constructor
      · rintro (⟨r, hr, h1⟩ | h1)
        · exact ⟨r, by omega, h1⟩
        · exact ⟨k, by omega, h1⟩
      · rintro ⟨r, hr, h1⟩
        rcases (by omega : r < k ∨ r = k) with q | q
        · exact Or.inl ⟨r, q, h1⟩
        · subst q; exact Or.inr h1
def adU (u : Nat → Bool) (r : Nat) : Nat → Bool := fun x => u x || decide (x = r)
theorem adU_no {u : Nat → Bool} {r x : Nat} : adU u r x = false ↔ u x = false ∧ x ≠ r := by
  unfold adU; rw [Bool.or_eq_false_iff, decide_eq_false_iff_not]
def Tk (A : Nat → Nat → Bool) (k J : Nat) : Nat → Nat → (Nat → Bool) → Nat → Nat
  | 0, _, _, c => if c = J then 1 else 0
  | d + 1, l, u, c => Tk A k J d (l + 1) u c + sm k (fun r => if A l r = true ∧ u r = false then Tk A k J d (l + 1) (adU u r) (c + 1) else 0)
def MX (A : Nat → Nat → Bool) (k J d l : Nat) (u : Nat → Bool) (c : Nat) (g : Nat → Option Nat) : Prop :=
  (∀ i r, g i = some r → l ≤ i ∧ i < l + d ∧ r < k ∧ A i r = true ∧ u r = false) ∧ (∀ i i' r, g i = some r → g i' = some r → i = i') ∧ c + siz (l + d) g = J
theorem MX_skip {A : Nat → Nat → Bool} {k J d l c : Nat} {u : Nat → Bool} {g : Nat → Option Nat} : MX A k J d (l + 1) u c g ↔ MX A k J (d + 1) l u c g ∧ g l = none := by
  unfold MX
  rw [show l + 1 + d = l + (d + 1) by omega]
  constructor
  · rintro ⟨h1, h2, h3⟩
    refine ⟨⟨fun i r h => ?_, h2, h3⟩, ?_⟩
    · obtain ⟨a, b⟩ := h1 i r h; exact ⟨by omega, b⟩
    · cases e : g l with
      | none => rfl
      | some r => have := (h1 l r e).1; omega
  · rintro ⟨⟨h1, h2, h3⟩, h4⟩
    refine ⟨fun i r h => ?_, h2, h3⟩
    obtain ⟨a, b⟩ := h1 i r h
    refine ⟨?_, b⟩
    rcases (by omega : l + 1 ≤ i ∨ i = l) with q | q
    · exact q
    · subst q; rw [h4] at h; cases h
theorem MX_take {A : Nat → Nat → Bool} {k J d l c r : Nat} {u : Nat → Bool} {g : Nat → Option Nat} (hr : r < k) (hA : A l r = true) (hu : u r = false) : (MX A k J (d + 1) l u c g ∧ g l = some r) ↔ ∃ q, MX A k J d (l + 1) (adU u r) (c + 1) q ∧ up q l (some r) = g := by
  constructor
  · rintro ⟨⟨h1, h2, h3⟩, h4⟩
    refine ⟨up g l none, ⟨?_, ?_, ?_⟩, ?_⟩
    · intro i s h
      have hi : i ≠ l := fun e => by subst e; rw [up_eq] at h; cases h
      rw [up_ne hi] at h
      obtain ⟨a, b, c1, d1, e1⟩ := h1 i s h
      refine ⟨by omega, by omega, c1, d1, adU_no.2 ⟨e1, fun e => ?_⟩⟩
      subst e
      exact hi (h2 _ _ _ h h4)
    · intro i i' s h h'
      have hi : i ≠ l := fun e => by subst e; rw [up_eq] at h; cases h
      have hi' : i' ≠ l := fun e => by subst e; rw [up_eq] at h'; cases h'
      rw [up_ne hi] at h
      rw [up_ne hi'] at h'
      exact h2 _ _ _ h h'
    · have := siz_up_none (n := l + 1 + d) (i := l) (f := g) (by omega) (by rw [h4]; rfl)
      rw [show l + (d + 1) = l + 1 + d by omega] at h3
      omega
    · funext i
      by_cases e : i = l
      · subst e; rw [up_eq, h4]
      · rw [up_ne e, up_ne e]
  · rintro ⟨q, ⟨h1, h2, h3⟩, e⟩
    have hq : q l = none := by
      cases e : q l with
      | none => rfl
      | some r => have := (h1 l r e).1; omega
    subst e
    refine ⟨⟨?_, ?_, ?_⟩, up_eq⟩
    · intro i s h
      by_cases e : i = l
      · subst e; rw [up_eq] at h; cases h
        exact ⟨by omega, by omega, hr, hA, hu⟩
      · rw [up_ne e] at h
        obtain ⟨a, b, c1, d1, e1⟩ := h1 i s h
        exact ⟨by omega, by omega, c1, d1, (adU_no.1 e1).1⟩
    · intro i i' s h h'
      by_cases e : i = l
      · by_cases e' : i' = l
        · rw [e, e']
        · subst e; rw [up_eq] at h; cases h
          rw [up_ne e'] at h'
          exact absurd rfl (adU_no.1 (h1 _ _ h').2.2.2.2).2
      · by_cases e' : i' = l
        · subst e'; rw [up_eq] at h'; cases h'
          rw [up_ne e] at h
          exact absurd rfl (adU_no.1 (h1 _ _ h).2.2.2.2).2
        · rw [up_ne e] at h
          rw [up_ne e'] at h'
          exact h2 _ _ _ h h'
    · have := siz_up_some (n := l + 1 + d) (i := l) (j := r) (f := q) (by omega) hq
      rw [show l + (d + 1) = l + 1 + d by omega]
      omega
theorem Tk_card (A : Nat → Nat → Bool) (k J : Nat) : ∀ d l u c, HasCard (MX A k J d l u c) (Tk A k J d l u c)
  | 0, l, u, c => by
    have e0 : ∀ g, MX A k J 0 l u c g ↔ g = (fun _ => none) ∧ c = J := by
      intro g
      constructor
      · rintro ⟨h1, h2, h3⟩
        have e : g = fun _ => none := by
          funext i
          cases e : g i with
          | none => rfl
          | some r => have := h1 i r e; omega
        refine ⟨e, ?_⟩
        rw [e, siz_none] at h3
        exact h3
      · rintro ⟨h1, h2⟩
        subst h1
        exact ⟨fun i r h => (by cases h), fun i i' r h => (by cases h), by rw [siz_none]; exact h2⟩
    show HasCard _ (if c = J then 1 else 0)
    by_cases hc : c = J
    · rw [if_pos hc]
      exact HasCard.one (fun g => by rw [e0]; exact ⟨fun h => h.1, fun h => ⟨h, hc⟩⟩)
    · rw [if_neg hc]
      exact HasCard.none (fun g h => hc ((e0 g).1 h).2)
  | d + 1, l, u, c => by
    have h0 := (Tk_card A k J d (l + 1) u c).congr (fun g => MX_skip)
    have h1 : HasCard (fun g => ∃ r, r < k ∧ (MX A k J (d + 1) l u c g ∧ g l = some r)) (sm k (fun r => if A l r = true ∧ u r = false then Tk A k J d (l + 1) (adU u r) (c + 1) else 0)) := by
      refine HasCard.sum k (fun r hr => ?_) (fun r s g h1 h2 => Option.some.inj (h1.2.symm.trans h2.2))
      by_cases q : A l r = true ∧ u r = false
      · rw [if_pos q]
        refine (Tk_card A k J d (l + 1) (adU u r) (c + 1)).map (fun q => up q l (some r)) ?_ (fun g => MX_take hr q.1 q.2)
        intro a b ha hb e
        have hq : ∀ q, MX A k J d (l + 1) (adU u r) (c + 1) q → q l = none := by
          intro q hq
          cases e : q l with
          | none => rfl
          | some r => have := (hq.1 l r e).1; omega
        funext i
        by_cases ei : i = l
        · rw [ei, hq a ha, hq b hb]
        · have := congrFun e i
          rw [up_ne ei, up_ne ei] at this
          exact this
      · rw [if_neg q]
        exact HasCard.none (fun g h => q ⟨(h.1.1 l r h.2).2.2.2.1, (h.1.1 l r h.2).2.2.2.2⟩)
    refine (h0.add h1 ?_).congr ?_
    · rintro g ⟨_, h2⟩ ⟨r, _, _, h3⟩
      rw [h2] at h3; cases h3
    · intro g
      constructor
      · rintro (h | ⟨r, _, h⟩)
        · exact h.1
        · exact h.1
      · intro h
        cases e : g l with
        | none => exact Or.inl ⟨h, rfl⟩
        | some r => exact Or.inr ⟨r, (h.1 l r e).2.2.1, h, rfl⟩
theorem Tk_zero (A : Nat → Nat → Bool) (k J : Nat) : ∀ d l u c, c + d < J → Tk A k J d l u c = 0
  | 0, l, u, c, h => by
    show (if c = J then 1 else 0) = 0
    rw [if_neg (by omega)]
  | d + 1, l, u, c, h => by
    show Tk A k J d (l + 1) u c + sm k _ = 0
    rw [Tk_zero A k J d (l + 1) u c (by omega)]
    have : ∀ j, sm j (fun r => if A l r = true ∧ u r = false then Tk A k J d (l + 1) (adU u r) (c + 1) else 0) = 0 := by
      intro j
      induction j with
      | zero => rfl
      | succ j ih =>
        show sm j _ + (if A l j = true ∧ u j = false then Tk A k J d (l + 1) (adU u j) (c + 1) else 0) = 0
        rw [ih]
        split
        · rw [Tk_zero A k J d (l + 1) _ (c + 1) (by omega)]
        · rfl
    rw [this]
