section BLOCK
/-- reflexive transitive closure -/
def Cl (R : Nat → Nat → Prop) (a b : Nat) : Prop := ∀ P : Nat → Prop, P a → (∀ x y, P x → R x y → P y) → P b
theorem Cl.rf {R : Nat → Nat → Prop} {a : Nat} : Cl R a a := fun _ h _ => h
theorem Cl.step {R : Nat → Nat → Prop} {a b c : Nat} (h : Cl R a b) (h1 : R b c) : Cl R a c := fun P p0 ps => ps b c (h P p0 ps) h1
theorem Cl.trans {R : Nat → Nat → Prop} {a b c : Nat} (h : Cl R a b) (h1 : Cl R b c) : Cl R a c := h1 (fun x => Cl R a x) h (fun _ _ q r => q.step r)
theorem Cl.one {R : Nat → Nat → Prop} {a b : Nat} (h : R a b) : Cl R a b := Cl.rf.step h
theorem Cl.mono {R S : Nat → Nat → Prop} {a b : Nat} (h : Cl R a b) (hs : ∀ x y, R x y → S x y) : Cl S a b := h (fun x => Cl S a x) Cl.rf (fun x y q r => q.step (hs x y r))
/-- Warshall -/
def Wk (R : Nat → Nat → Prop) : Nat → Nat → Nat → Prop
  | 0, a, b => R a b
  | k + 1, a, b => Wk R k a b ∨ (Wk R k a k ∧ Wk R k k b)
theorem Wk_base {R : Nat → Nat → Prop} {a b : Nat} (h : R a b) : ∀ k, Wk R k a b
  | 0 => h
  | k + 1 => Or.inl (Wk_base h k)
theorem Wk_comp {R : Nat → Nat → Prop} : ∀ (k a b c : Nat), c < k → Wk R k a c → Wk R k c b → Wk R k a b
  | 0, _, _, _, h, _, _ => absurd h (by omega)
  | k + 1, a, b, c, h, h1, h2 => by
    by_cases e : c = k
    · subst e
      have x1 : Wk R c a c := h1.elim id (fun z => z.1)
      have x2 : Wk R c c b := h2.elim id (fun z => z.2)
      exact Or.inr ⟨x1, x2⟩
    · have hc : c < k := by omega
      rcases h1 with h1 | h1 <;> rcases h2 with h2 | h2
      · exact Or.inl (Wk_comp k a b c hc h1 h2)
      · exact Or.inr ⟨Wk_comp k a k c hc h1 h2.1, h2.2⟩
      · exact Or.inr ⟨h1.1, Wk_comp k k b c hc h1.2 h2⟩
      · exact Or.inr ⟨h1.1, h2.2⟩
theorem Wk_cl {R : Nat → Nat → Prop} : ∀ (k a b : Nat), Wk R k a b → Cl R a b
  | 0, _, _, h => Cl.one h
  | k + 1, a, b, h => by
    rcases h with h | h
    · exact Wk_cl k a b h
    · exact (Wk_cl k a k h.1).trans (Wk_cl k k b h.2)
theorem Wk_of {R : Nat → Nat → Prop} {n a b : Nat} (hR : ∀ x y, R x y → y < n) (ha : R a a) (h : Cl R a b) : Wk R n a b := by
  refine (h (fun x => x < n ∧ Wk R n a x) ⟨hR a a ha, Wk_base ha n⟩ (fun x y q r => ⟨hR x y r, Wk_comp n a y x q.1 q.2 (Wk_base r n)⟩)).2
theorem Wk_row {R : Nat → Nat → Prop} {k b : Nat} : Wk R (k + 1) k b ↔ Wk R k k b := ⟨fun h => h.elim id (fun z => z.2), Or.inl⟩
variable {sz : Nat → Nat} {E : Nat → Nat → Bool} {f f' g g' : Nat → Option Nat}
/-- a step: over an edge, back with the partner there -/
def stp (E : Nat → Nat → Bool) (f' : Nat → Option Nat) (l l' : Nat) : Prop := ∃ r, E l r = true ∧ f' r = some l'
/-- part 1 -/
def inn (sz : Nat → Nat) (E : Nat → Nat → Bool) (s i : Nat) : Prop := i < sz s ∧ ¬ mis sz E s i ∧ ¬ ptA sz E s i
theorem inn_prt {s i : Nat} (hs : s < 2) (hi : i < sz s) : inn sz E s i ↔ prt sz E s i = 1 := by
  constructor
  · intro z; exact prt_in z.2.1 z.2.2
  · intro z
    rcases prt_cases sz E s i with w | w | w
    · omega
    · omega
    · exact ⟨hi, w.1, w.2.1⟩
/-- the partner of a right node beside a missed left one is missed too -/
theorem mis_mate0 (hE : Rg (sz 0) (sz 1) E) (hf : Great (sz 0) E f f') {l r : Nat} (hl : mis sz E 0 l) (hlr : E l r = true) : ∃ l', f' r = some l' ∧ mis sz E 0 l' := by
  obtain ⟨h1, q, q', h2, h3⟩ := hl
  have hr := rch_of_miss hE hf h2 h1 h3
  obtain ⟨l', z1, z2⟩ := great_closed hE hf hr hlr
  obtain ⟨w, w', y1, y2⟩ := miss_of_rch hE hf z2
  exact ⟨l', z1, (hE l' r (hf.1.2 l' r ((hf.1.1 l' r).mpr z1))).1, w, w', y1, y2⟩
theorem mis_mate1 (hE : Rg (sz 0) (sz 1) E) (hf : Great (sz 0) E f f') {l r : Nat} (hr : mis sz E 1 r) (hlr : E l r = true) : ∃ r', f l = some r' ∧ mis sz E 1 r' := by
  obtain ⟨h1, q, q', h2, h3⟩ := hr
  have hf2 := hf.swap hE
  have hr := rch_of_miss hE.swap hf2 (h2.swap hE) h1 h3
  obtain ⟨r', z1, z2⟩ := great_closed hE.swap hf2 hr hlr
  obtain ⟨w, w', y1, y2⟩ := miss_of_rch hE.swap hf2 z2
  exact ⟨r', z1, (hE l r' (hf.1.2 l r' z1)).2, w', w, y1.swap hE.swap, y2⟩
theorem mis_stp (hE : Rg (sz 0) (sz 1) E) (hf : Great (sz 0) E f f') {l l' : Nat} (hl : mis sz E 0 l) (h : stp E f' l l') : mis sz E 0 l' := by
  obtain ⟨r, z1, z2⟩ := h
  obtain ⟨l2, y1, y2⟩ := mis_mate0 hE hf hl z1
  rw [z2] at y1; cases y1; exact y2
theorem mis_cl (hE : Rg (sz 0) (sz 1) E) (hf : Great (sz 0) E f f') {l l' : Nat} (hl : mis sz E 0 l) (h : Cl (stp E f') l l') : mis sz E 0 l' := h (fun x => mis sz E 0 x) hl (fun _ _ q r => mis_stp hE hf q r)
/-- inner nodes have inner partners -/
theorem inn_mate (hE : Rg (sz 0) (sz 1) E) (hf : Great (sz 0) E f f') {l : Nat} (hl : inn sz E 0 l) : ∃ r, f l = some r ∧ inn sz E 1 r := by
  obtain ⟨h1, h2, h3⟩ := hl
  cases e : f l with
  | none => exact absurd ⟨h1, f, f', hf, e⟩ h2
  | some r =>
    have hlr := hf.1.2 l r e
    refine ⟨r, rfl, (hE l r hlr).2, fun z => h3 ⟨r, z, hlr⟩, fun z => ?_⟩
    obtain ⟨l2, z1, z2⟩ := z
    obtain ⟨l3, y1, y2⟩ := mis_mate0 hE hf z1 z2
    rw [(hf.1.1 l r).mp e] at y1; cases y1
    exact h2 y2
theorem inn_mate1 (hE : Rg (sz 0) (sz 1) E) (hf : Great (sz 0) E f f') {r : Nat} (hr : inn sz E 1 r) : ∃ l, f' r = some l ∧ inn sz E 0 l := by
  obtain ⟨h1, h2, h3⟩ := hr
  cases e : f' r with
  | none => exact absurd ⟨h1, f, f', hf, e⟩ h2
  | some l =>
    have e' := (hf.1.1 l r).mpr e
    have hlr := hf.1.2 l r e'
    refine ⟨l, rfl, (hE l r hlr).1, fun z => h3 ⟨l, z, hlr⟩, fun z => ?_⟩
    obtain ⟨r2, z1, z2⟩ := z
    obtain ⟨r3, y1, y2⟩ := mis_mate1 hE hf z1 z2
    rw [e'] at y1; cases y1
    exact h2 y2
/-- a step from an inner node comes to an inner one or to a missed one -/
theorem inn_stp (hE : Rg (sz 0) (sz 1) E) (hf : Great (sz 0) E f f') {l l' : Nat} (hl : inn sz E 0 l) (h : stp E f' l l') : mis sz E 0 l' ∨ inn sz E 0 l' := by
  obtain ⟨r, z1, z2⟩ := h
  by_cases hp : ptA sz E 1 r
  · obtain ⟨l2, y1, y2⟩ := hp
    obtain ⟨l3, w1, w2⟩ := mis_mate0 hE hf y1 y2
    rw [z2] at w1; cases w1
    exact Or.inl w2
  · have hr : inn sz E 1 r := ⟨(hE l r z1).2, fun z => hl.2.2 ⟨r, z, z1⟩, hp⟩
    obtain ⟨l3, w1, w2⟩ := inn_mate1 hE hf hr
    rw [z2] at w1; cases w1
    exact Or.inr w2
/-- steps among inner nodes -/
def sti (sz : Nat → Nat) (E : Nat → Nat → Bool) (f' : Nat → Option Nat) (l l' : Nat) : Prop := inn sz E 0 l ∧ inn sz E 0 l' ∧ stp E f' l l'
theorem sti_self (hE : Rg (sz 0) (sz 1) E) (hf : Great (sz 0) E f f') {l : Nat} (hl : inn sz E 0 l) : sti sz E f' l l := by
  obtain ⟨r, z1, z2⟩ := inn_mate hE hf hl
  exact ⟨hl, hl, r, hf.1.2 l r z1, (hf.1.1 l r).mp z1⟩
theorem cl_inn (hE : Rg (sz 0) (sz 1) E) (hf : Great (sz 0) E f f') {l l' : Nat} (hl : inn sz E 0 l) (hl' : inn sz E 0 l') : Cl (stp E f') l l' ↔ Cl (sti sz E f') l l' := by
  constructor
  · intro h
    have := h (fun x => mis sz E 0 x ∨ (inn sz E 0 x ∧ Cl (sti sz E f') l x)) (Or.inr ⟨hl, Cl.rf⟩) (fun x y q r => by
      rcases q with q | q
      · exact Or.inl (mis_stp hE hf q r)
      · rcases inn_stp hE hf q.1 r with w | w
        · exact Or.inl w
        · exact Or.inr ⟨w, q.2.step ⟨q.1, w, r⟩⟩)
    rcases this with w | w
    · exact absurd w hl'.2.1
    · exact w.2
  · intro h; exact h.mono (fun x y q => q.2.2)
/-- an edge is of use: some greatest pairing has it -/
def Use (sz : Nat → Nat) (E : Nat → Nat → Bool) (l r : Nat) : Prop := ∃ g g', Great (sz 0) E g g' ∧ g l = some r
theorem use_mis (hE : Rg (sz 0) (sz 1) E) {l r : Nat} (hl : mis sz E 0 l) (hlr : E l r = true) : Use sz E l r := by
  obtain ⟨h1, q, q', h2, h3⟩ := hl
  exact choice_bare hE h2 h3 hlr
theorem use_adj (hE : Rg (sz 0) (sz 1) E) {l r : Nat} (hl : ptA sz E 0 l) (hlr : E l r = true) : Use sz E l r ↔ mis sz E 1 r := by
  constructor
  · rintro ⟨q, q', h1, h2⟩
    obtain ⟨r2, z1, z2⟩ := hl
    obtain ⟨r3, y1, y2⟩ := mis_mate1 hE h1 z1 z2
    rw [h2] at y1; cases y1; exact y2
  · rintro ⟨h1, q, q', h2, h3⟩
    obtain ⟨w, w', y1, y2⟩ := choice_bare hE.swap (h2.swap hE) h3 hlr
    have y3 := y1.swap hE.swap
    exact ⟨w', w, y3, (y3.1.1 l r).mpr y2⟩
theorem use_inn (hE : Rg (sz 0) (sz 1) E) (hf : Great (sz 0) E f f') {l r : Nat} (hl : inn sz E 0 l) (hlr : E l r = true) : Use sz E l r ↔ ∃ l2, f' r = some l2 ∧ Cl (stp E f') l2 l := by
  obtain ⟨m0, hm0, hm1⟩ := inn_mate hE hf hl
  have hmr := (hE l m0 (hf.1.2 l m0 hm0)).2
  have hcp := choice_pair hE hf hm0 hlr
  have hP : ∀ b, rOut E (sz 1) l f f' m0 b → mis sz E 1 b ∨ ∃ x, f x = some b ∧ Cl (stp E f') x l := fun b hb => by
    refine hb (fun b => mis sz E 1 b ∨ ∃ x, f x = some b ∧ Cl (stp E f') x l) (fun a ha => ?_) (fun a i c2 ha hai hi => ?_)
    · obtain ⟨ha1, ha2⟩ := ha
      by_cases e : a = m0
      · subst e; exact Or.inr ⟨l, hm0, Cl.rf⟩
      · rw [up_ne e] at ha2
        exact Or.inl ⟨ha1, f, f', hf, ha2⟩
    · obtain ⟨w1, w2⟩ := noRow_ne.mp hai
      rw [up_ne w2] at hi
      rcases ha with ha | ⟨x, hx1, hx2⟩
      · obtain ⟨r3, y1, y2⟩ := mis_mate1 hE hf ha w1
        rw [hi] at y1; cases y1; exact Or.inl y2
      · refine Or.inr ⟨i, hi, (Cl.one ⟨a, w1, (hf.1.1 x a).mp hx1⟩).trans hx2⟩
  constructor
  · intro hu
    rcases hcp.mp hu with ⟨b, l3, z1, z2, z3⟩ | z
    · exfalso
      obtain ⟨w1, w2⟩ := noRow_ne.mp z2
      have hl3 : mis sz E 0 l3 := ⟨(hE l3 b w1).1, f, f', hf, z3⟩
      rcases hP b z1 with y | ⟨x, y1, y2⟩
      · have := mis_apart hE hl3 y
        rw [w1] at this; cases this
      · obtain ⟨x2, v1, v2⟩ := mis_mate0 hE hf hl3 w1
        rw [(hf.1.1 x b).mp y1] at v1; cases v1
        exact hl.2.1 (mis_cl hE hf v2 y2)
    · rcases hP r z with y | ⟨x, y1, y2⟩
      · exact absurd ⟨r, y, hlr⟩ hl.2.2
      · exact ⟨x, (hf.1.1 x r).mp y1, y2⟩
  · rintro ⟨l2, z1, z2⟩
    apply hcp.mpr
    right
    have hC : ∀ x y, stp E f' x y → (y = l ∨ ∃ b, f y = some b ∧ rOut E (sz 1) l f f' m0 b) → (∃ b, f x = some b) → (x = l ∨ ∃ b, f x = some b ∧ rOut E (sz 1) l f f' m0 b) := by
      rintro x y ⟨b, w1, w2⟩ hy ⟨bx, hbx⟩
      by_cases e : x = l
      · exact Or.inl e
      · refine Or.inr ⟨bx, hbx, ?_⟩
        have hyb := (hf.1.1 y b).mpr w2
        have hb : rOut E (sz 1) l f f' m0 b := by
          rcases hy with hy | ⟨b2, v1, v2⟩
          · subst hy
            rw [hm0] at hyb; cases hyb
            exact RchG.start ⟨hmr, up_eq⟩
          · rw [hyb] at v1; cases v1; exact v2
        exact RchG.step hb (b := x) (noRow_ne.mpr ⟨w1, e⟩) (by rw [up_ne e]; exact hbx)
    have hmm : ∀ x y, stp E f' x y → ∃ b, f y = some b := fun x y ⟨b, w1, w2⟩ => ⟨b, (hf.1.1 y b).mpr w2⟩
    have key := z2 (fun x => (∃ b, f x = some b) ∧ ((x = l ∨ ∃ b, f x = some b ∧ rOut E (sz 1) l f f' m0 b) → (l2 = l ∨ ∃ b, f l2 = some b ∧ rOut E (sz 1) l f f' m0 b))) ⟨⟨r, (hf.1.1 l2 r).mpr z1⟩, id⟩ (fun x y q s => ⟨hmm x y s, fun hy => q.2 (hC x y s hy q.1)⟩)
    rcases key.2 (Or.inl rfl) with e | ⟨b, v1, v2⟩
    · subst e
      have := (hf.1.1 l2 r).mpr z1
      rw [hm0] at this; cases this
      exact RchG.start ⟨hmr, up_eq⟩
    · rw [(hf.1.1 l2 r).mpr z1] at v1; cases v1; exact v2
/-- then that partner is inner too, and each comes to the other -/
theorem use_inn_mate (hE : Rg (sz 0) (sz 1) E) (hf : Great (sz 0) E f f') {l l2 r : Nat} (hl : inn sz E 0 l) (hlr : E l r = true) (h1 : f' r = some l2) (h2 : Cl (stp E f') l2 l) : inn sz E 0 l2 := by
  have e := (hf.1.1 l2 r).mpr h1
  refine ⟨(hE l2 r (hf.1.2 l2 r e)).1, fun z => hl.2.1 (mis_cl hE hf z h2), fun z => ?_⟩
  obtain ⟨r2, z1, z2⟩ := z
  obtain ⟨r3, y1, y2⟩ := mis_mate1 hE hf z1 z2
  rw [e] at y1; cases y1
  exact hl.2.2 ⟨r, y2, hlr⟩
end BLOCK
