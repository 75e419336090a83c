/-- a set of bits without one of them -/
def wo (x r : Nat) : Nat := x ^^^ 2 ^ r
theorem wo_bit {x r j : Nat} (h : x.testBit r = true) : (wo x r).testBit j = (x.testBit j && !decide (j = r)) := by
  unfold wo
  rw [Nat.testBit_xor, nat_bit]
  by_cases q : j = r
  · subst q; rw [h, decide_eq_true rfl]; rfl
  · rw [decide_eq_false q]; cases x.testBit j <;> rfl
theorem wo_or {x r : Nat} (h : x.testBit r = true) : wo x r ||| 2 ^ r = x := by
  refine Nat.eq_of_testBit_eq (fun j => ?_)
  rw [or_bit]
  show ((wo x r).testBit j || decide (j = r)) = x.testBit j
  rw [wo_bit h]
  by_cases q : j = r
  · subst q; rw [h, decide_eq_true rfl]; rfl
  · rw [decide_eq_false q]; cases x.testBit j <;> rfl
theorem wo_clear {x r : Nat} (h : x.testBit r = true) : (wo x r).testBit r = false := by
  rw [wo_bit h, decide_eq_true rfl, Bool.not_true, Bool.and_false]
theorem wo_lt {x r : Nat} (h : x.testBit r = true) : wo x r < x := by
  have := or_gt (wo_clear h)
  rw [wo_or h] at this
  exact this
theorem or_set {k r : Nat} : (k ||| 2 ^ r).testBit r = true := by
  rw [or_bit]; unfold adU; rw [decide_eq_true rfl, Bool.or_true]
theorem or_wo {k r : Nat} (h : k.testBit r = false) : wo (k ||| 2 ^ r) r = k := by
  refine Nat.eq_of_testBit_eq (fun j => ?_)
  rw [wo_bit or_set, or_bit]
  show ((k.testBit j || decide (j = r)) && !decide (j = r)) = k.testBit j
  by_cases q : j = r
  · subst q; rw [h, decide_eq_true rfl]; rfl
  · rw [decide_eq_false q]; cases k.testBit j <;> rfl
theorem wo_iff {z k r : Nat} : (z.testBit r = true ∧ wo z r = k) ↔ (z = k ||| 2 ^ r ∧ k.testBit r = false) := by
  constructor
  · rintro ⟨h1, h2⟩
    subst h2
    exact ⟨(wo_or h1).symm, wo_clear h1⟩
  · rintro ⟨h1, h2⟩
    subst h1
    exact ⟨or_set, or_wo h2⟩
/-- how many pairings of the lefts below l have just the rights of x -/
def wy (A : Nat → Nat → Bool) (m : Nat) : Nat → Nat → Nat
  | 0, x => if x = 0 then 1 else 0
  | l + 1, x => wy A m l x + sm m (fun r => if A l r = true ∧ x.testBit r = true then wy A m l (wo x r) else 0)
def QW (A : Nat → Nat → Bool) (m : Nat) : Nat → Nat → (Nat → Option Nat) → Prop
  | 0, x, g => x = 0 ∧ g = fun _ => none
  | l + 1, x, g => (g l = none ∧ QW A m l x g) ∨ ∃ r, r < m ∧ (A l r = true ∧ x.testBit r = true) ∧ g l = some r ∧ QW A m l (wo x r) (up g l none)
variable {A : Nat → Nat → Bool} {m : Nat}
theorem sm_le {c : Nat → Nat} {b : Nat} : ∀ n, (∀ i, i < n → c i ≤ b) → sm n c ≤ n * b
  | 0, _ => Nat.zero_le _
  | n + 1, h => by
    have := sm_le n (fun i hi => h i (by omega))
    have h2 := h n (by omega)
    show sm n c + c n ≤ (n + 1) * b
    rw [Nat.succ_mul]
    omega
theorem wy_le (hm : m ≤ 16) : ∀ l x, wy A m l x ≤ 17 ^ l
  | 0, x => by show (if x = 0 then 1 else 0) ≤ 1; split <;> decide
  | l + 1, x => by
    have h1 := wy_le hm l x
    have h2 : sm m (fun r => if A l r = true ∧ x.testBit r = true then wy A m l (wo x r) else 0) ≤ m * 17 ^ l := by
      refine sm_le m (fun r _ => ?_)
      split
      · exact wy_le hm l _
      · exact Nat.zero_le _
    have h3 : m * 17 ^ l ≤ 16 * 17 ^ l := Nat.mul_le_mul_right _ hm
    show wy A m l x + sm m _ ≤ 17 ^ (l + 1)
    rw [Nat.pow_succ]
    omega
theorem QW_in : ∀ l x g, QW A m l x g → ∀ i r, g i = some r → i < l ∧ r < m ∧ A i r = true ∧ x.testBit r = true
  | 0, x, g, h, i, r, e => by rw [h.2] at e; cases e
  | l + 1, x, g, h, i, r, e => by
    rcases h with ⟨h1, h2⟩ | ⟨s, hs, ⟨h1, h2⟩, h3, h4⟩
    · obtain ⟨a, b⟩ := QW_in l x g h2 i r e
      exact ⟨by omega, b⟩
    · by_cases q : i = l
      · subst q
        rw [h3] at e
        cases e
        exact ⟨by omega, hs, h1, h2⟩
      · obtain ⟨a, b, c, d⟩ := QW_in l _ _ h4 i r (by rw [up_ne q]; exact e)
        rw [wo_bit h2, Bool.and_eq_true] at d
        exact ⟨by omega, b, c, d.1⟩
theorem QW_inj : ∀ l x g, QW A m l x g → ∀ i i' r, g i = some r → g i' = some r → i = i'
  | 0, x, g, h, i, i', r, e, _ => by rw [h.2] at e; cases e
  | l + 1, x, g, h, i, i', r, e, e' => by
    rcases h with ⟨h1, h2⟩ | ⟨s, hs, ⟨h1, h2⟩, h3, h4⟩
    · exact QW_inj l x g h2 i i' r e e'
    · have no : ∀ j, j ≠ l → g j = some s → False := by
        intro j hj ej
        have := (QW_in l _ _ h4 j s (by rw [up_ne hj]; exact ej)).2.2.2
        rw [wo_clear h2] at this; cases this
      by_cases q : i = l
      · by_cases q' : i' = l
        · rw [q, q']
        · subst q; rw [h3] at e; cases e; exact (no _ q' e').elim
      · by_cases q' : i' = l
        · subst q'; rw [h3] at e'; cases e'; exact (no _ q e).elim
        · exact QW_inj l _ _ h4 i i' r (by rw [up_ne q]; exact e) (by rw [up_ne q']; exact e')
theorem siz_succ {l : Nat} {g : Nat → Option Nat} : siz (l + 1) g = siz l g + (g l).isSome.toNat := cnt_s _ _
theorem siz_cut {l : Nat} {g : Nat → Option Nat} {v : Option Nat} : siz l (up g l v) = siz l g := by
  refine cnt_congr (fun i hi => ?_)
  rw [up_ne (by omega)]
theorem QW_siz (hm : m ≤ 16) : ∀ l x g, QW A m l x g → siz l g = pc x
  | 0, x, g, h => by rw [h.1, h.2, siz_none, pc_0]
  | l + 1, x, g, h => by
    rcases h with ⟨h1, h2⟩ | ⟨s, hs, ⟨h1, h2⟩, h3, h4⟩
    · rw [siz_succ, QW_siz hm l x g h2, h1]; rfl
    · have e := QW_siz hm l _ _ h4
      rw [siz_cut] at e
      have e2 := pc_or (x := wo x s) (c := s) (by omega) (wo_clear h2)
      rw [wo_or h2] at e2
      rw [siz_succ, e, h3, e2]; rfl
theorem QW_uni : ∀ l x x' g, QW A m l x g → QW A m l x' g → x = x'
  | 0, x, x', g, h, h' => by rw [h.1, h'.1]
  | l + 1, x, x', g, h, h' => by
    rcases h with ⟨h1, h2⟩ | ⟨s, hs, ⟨h1, h2⟩, h3, h4⟩
    · rcases h' with ⟨_, g2⟩ | ⟨s', _, _, g3, _⟩
      · exact QW_uni l x x' g h2 g2
      · rw [h1] at g3; cases g3
    · rcases h' with ⟨g1, _⟩ | ⟨s', hs', ⟨g1, g2⟩, g3, g4⟩
      · rw [g1] at h3; cases h3
      · rw [h3] at g3
        cases g3
        have := QW_uni l _ _ _ h4 g4
        rw [← wo_or h2, ← wo_or g2, this]
theorem QW_ex : ∀ l g, (∀ i r, g i = some r → i < l ∧ r < m ∧ A i r = true) → (∀ i i' r, g i = some r → g i' = some r → i = i') → ∃ x, x < 2 ^ m ∧ QW A m l x g ∧ ∀ r, x.testBit r = true → ∃ i, g i = some r
  | 0, g, h, _ => by
    refine ⟨0, Nat.two_pow_pos m, ⟨rfl, ?_⟩, fun r z => by rw [Nat.zero_testBit] at z; cases z⟩
    funext i
    cases e : g i with
    | none => rfl
    | some r => have := (h i r e).1; omega
  | l + 1, g, h, hi => by
    cases e : g l with
    | none =>
      obtain ⟨x, a, b, c⟩ := QW_ex l g (fun i r z => by
        obtain ⟨p, q⟩ := h i r z
        refine ⟨?_, q⟩
        rcases (by omega : i < l ∨ i = l) with w | w
        · exact w
        · subst w; rw [e] at z; cases z) hi
      exact ⟨x, a, Or.inl ⟨e, b⟩, c⟩
    | some s =>
      have hne : ∀ i r, up g l none i = some r → i ≠ l ∧ g i = some r := by
        intro i r z
        have : i ≠ l := fun w => by subst w; rw [up_eq] at z; cases z
        exact ⟨this, by rw [up_ne this] at z; exact z⟩
      obtain ⟨x, a, b, c⟩ := QW_ex l (up g l none) (fun i r z => by
        obtain ⟨w, z⟩ := hne i r z
        obtain ⟨p, q⟩ := h i r z
        exact ⟨by omega, q⟩) (fun i i' r z z' => hi i i' r (hne i r z).2 (hne i' r z').2)
      have hs : x.testBit s = false := by
        cases w : x.testBit s
        · rfl
        · obtain ⟨i, z⟩ := c s w
          obtain ⟨w1, w2⟩ := hne i s z
          exact (w1 (hi i l s w2 e)).elim
      refine ⟨x ||| 2 ^ s, or_lt a (h l s e).2.1, Or.inr ⟨s, (h l s e).2.1, ⟨(h l s e).2.2, or_set⟩, e, by rw [or_wo hs]; exact b⟩, fun r z => ?_⟩
      rw [or_bit] at z
      unfold adU at z
      rw [Bool.or_eq_true] at z
      rcases z with z | z
      · obtain ⟨i, w⟩ := c r z
        exact ⟨i, (hne i r w).2⟩
      · rw [decide_eq_true_iff] at z
        exact ⟨l, by rw [z]; exact e⟩
theorem QW_card : ∀ l x, HasCard (QW A m l x) (wy A m l x)
  | 0, x => by
    show HasCard _ (if x = 0 then 1 else 0)
    by_cases q : x = 0
    · rw [if_pos q]
      exact HasCard.one (a0 := fun _ => none) (fun g => ⟨fun z => z.2, fun z => ⟨q, z⟩⟩)
    · rw [if_neg q]
      exact HasCard.none (fun g z => q z.1)
  | l + 1, x => by
    have h0 : HasCard (fun g => g l = none ∧ QW A m l x g) (wy A m l x) := by
      refine (QW_card l x).congr (fun g => ⟨fun z => ⟨?_, z⟩, fun z => z.2⟩)
      cases e : g l with
      | none => rfl
      | some r => have := (QW_in l x g z l r e).1; omega
    have h1 : HasCard (fun g => ∃ r, r < m ∧ ((A l r = true ∧ x.testBit r = true) ∧ g l = some r ∧ QW A m l (wo x r) (up g l none))) (sm m (fun r => if A l r = true ∧ x.testBit r = true then wy A m l (wo x r) else 0)) := by
      refine HasCard.sum m (fun r hr => ?_) (fun r s g h1 h2 => Option.some.inj (h1.2.1.symm.trans h2.2.1))
      by_cases q : A l r = true ∧ x.testBit r = true
      · rw [if_pos q]
        have hn : ∀ g, QW A m l (wo x r) g → g l = none := by
          intro g z
          cases e : g l with
          | none => rfl
          | some s => have := (QW_in l _ g z l s e).1; omega
        have ud : ∀ g v, g l = none → up (up g l v) l none = g := by
          intro g v z
          funext i
          by_cases e : i = l
          · subst e; rw [up_eq, z]
          · rw [up_ne e, up_ne e]
        refine (QW_card l (wo x r)).map (fun g => up g l (some r)) (fun a b ha hb e => ?_) (fun g => ⟨fun z => ?_, fun z => ?_⟩)
        · have := congrArg (fun g => up g l none) e
          rw [← ud a (some r) (hn a ha), ← ud b (some r) (hn b hb)]
          exact this
        · refine ⟨_, z.2.2, ?_⟩
          funext i
          by_cases e : i = l
          · subst e; show up _ _ _ _ = _; rw [up_eq, z.2.1]
          · show up _ _ _ _ = _; rw [up_ne e, up_ne e]
        · obtain ⟨a, ha, e⟩ := z
          subst e
          exact ⟨q, up_eq, by rw [ud a _ (hn a ha)]; exact ha⟩
      · rw [if_neg q]
        exact HasCard.none (fun g z => q z.1)
    refine (h0.add h1 ?_).congr (fun g => Iff.rfl)
    rintro g ⟨z1, _⟩ ⟨r, _, _, z2, _⟩
    rw [z1] at z2; cases z2
variable {sz : Nat → Nat} {E : Nat → Nat → Bool} {f f' : Nat → Option Nat}
theorem ref_card (hE : Rg (sz 0) (sz 1) E) (hm : sz 1 ≤ 16) (hf : Great (sz 0) E f f') : HasCard (GM sz E) (sm (2 ^ sz 1) (fun k => if pc k = siz (sz 0) f then wy E (sz 1) (sz 0) k else 0)) := by
  have h1 : HasCard (fun g => ∃ k, k < 2 ^ sz 1 ∧ (pc k = siz (sz 0) f ∧ QW E (sz 1) (sz 0) k g)) (sm (2 ^ sz 1) (fun k => if pc k = siz (sz 0) f then wy E (sz 1) (sz 0) k else 0)) := by
    refine HasCard.sum _ (fun k hk => ?_) (fun r s g h1 h2 => QW_uni _ _ _ _ h1.2 h2.2)
    by_cases q : pc k = siz (sz 0) f
    · rw [if_pos q]
      exact (QW_card (sz 0) k).congr (fun g => ⟨fun z => ⟨q, z⟩, fun z => z.2⟩)
    · rw [if_neg q]
      exact HasCard.none (fun g z => q z.1)
  refine h1.congr (fun g => ⟨?_, ?_⟩)
  · rintro ⟨k, _, hp, hq⟩
    refine ⟨inv g, great_same hf ⟨inv_iff (QW_inj _ _ _ hq), fun i j e => (QW_in _ _ _ hq i j e).2.2.1⟩ ?_⟩
    rw [QW_siz hm _ _ _ hq, hp]
    exact Nat.le_refl _
  · rintro ⟨g', hg⟩
    obtain ⟨x, a, b, _⟩ := QW_ex (A := E) (m := sz 1) (sz 0) g (fun i r e => ⟨(hE _ _ (hg.1.2 _ _ e)).1, (hE _ _ (hg.1.2 _ _ e)).2, hg.1.2 _ _ e⟩) (great_inj hg)
    exact ⟨x, a, by rw [← QW_siz hm _ _ _ b]; exact great_siz hg hf, b⟩
/-- the row of ways while left l is being worked in: k is at work, its rights below r are done -/
def wv (A : Nat → Nat → Bool) (m l k r z : Nat) : Nat := wy A m l z + sm m (fun s => if (A l s = true ∧ z.testBit s = true) ∧ (k < wo z s ∨ (wo z s = k ∧ s < r)) then wy A m l (wo z s) else 0)
theorem sm_zero {c : Nat → Nat} : ∀ n, (∀ i, i < n → c i = 0) → sm n c = 0
  | 0, _ => rfl
  | n + 1, h => by
    show sm n c + c n = 0
    rw [sm_zero n (fun i hi => h i (by omega)), h n (by omega)]
theorem sm_one {f g : Nat → Nat} {y v : Nat} : ∀ n, y < n → (∀ i, i < n → i ≠ y → f i = g i) → f y = g y + v → sm n f = sm n g + v
  | 0, h, _, _ => absurd h (by omega)
  | n + 1, h, h1, h2 => by
    show sm n f + f n = sm n g + g n + v
    by_cases e : y = n
    · subst e
      rw [sm_congr y (fun i hi => h1 i (by omega) (by omega)), h2]
      omega
    · rw [sm_one n (by omega) (fun i hi => h1 i (by omega)) h2, h1 n (by omega) (fun q => e q.symm)]
      omega
theorem wv_start {l k r z : Nat} (hz : z ≤ k + 1) (hk : z = k + 1 → r = 0) : wv A m l k r z = wy A m l z := by
  unfold wv
  rw [sm_zero m (fun s hs => ?_), Nat.add_zero]
  by_cases q : A l s = true ∧ z.testBit s = true
  · have := wo_lt q.2
    refine if_neg (fun w => ?_)
    rcases w.2 with w | w
    · omega
    · have := hk (by omega)
      omega
  · exact if_neg (fun w => q w.1)
theorem wv_next {l k z : Nat} : wv A m l (k + 1) m z = wv A m l k 0 z := by
  unfold wv
  congr 1
  refine sm_congr m (fun s hs => ?_)
  by_cases q : (A l s = true ∧ z.testBit s = true) ∧ (k + 1 < wo z s ∨ (wo z s = k + 1 ∧ s < m))
  · rw [if_pos q, if_pos ⟨q.1, Or.inl (by omega)⟩]
  · rw [if_neg q, if_neg (fun w => q ⟨w.1, by omega⟩)]
theorem wv_end {l z : Nat} : wv A m l 0 m z = wy A m (l + 1) z := by
  unfold wv
  show _ = wy A m l z + sm m _
  congr 1
  refine sm_congr m (fun s hs => ?_)
  by_cases q : A l s = true ∧ z.testBit s = true
  · rw [if_pos q, if_pos ⟨q, by omega⟩]
  · rw [if_neg q, if_neg (fun w => q w.1)]
theorem wv_skip {l k r z : Nat} (hr : r ≤ m) (h : wy A m l k = 0) : wv A m l k r z = wv A m l k m z := by
  unfold wv
  congr 1
  refine sm_congr m (fun s hs => ?_)
  by_cases q : (A l s = true ∧ z.testBit s = true) ∧ (k < wo z s ∨ (wo z s = k ∧ s < r))
  · rw [if_pos q, if_pos ⟨q.1, by omega⟩]
  · rw [if_neg q]
    by_cases q2 : (A l s = true ∧ z.testBit s = true) ∧ (k < wo z s ∨ (wo z s = k ∧ s < m))
    · rw [if_pos q2]
      have : wo z s = k := by
        rcases q2.2 with w | w
        · exact (q ⟨q2.1, Or.inl w⟩).elim
        · exact w.1
      rw [this, h]
    · rw [if_neg q2]
theorem wv_step {l k r z : Nat} (hr : r < m) : wv A m l k (r + 1) z = wv A m l k r z + if A l r = true ∧ k.testBit r = false ∧ z = k ||| 2 ^ r then wy A m l k else 0 := by
  unfold wv
  rw [Nat.add_assoc]
  congr 1
  refine sm_one m hr (fun s hs hn => ?_) ?_
  · by_cases q : (A l s = true ∧ z.testBit s = true) ∧ (k < wo z s ∨ (wo z s = k ∧ s < r))
    · rw [if_pos q, if_pos ⟨q.1, by omega⟩]
    · rw [if_neg q, if_neg (fun w => q ⟨w.1, by omega⟩)]
  · by_cases c : A l r = true ∧ k.testBit r = false ∧ z = k ||| 2 ^ r
    · obtain ⟨w1, w2⟩ := wo_iff.2 ⟨c.2.2, c.2.1⟩
      rw [if_pos c, if_pos ⟨⟨c.1, w1⟩, Or.inr ⟨w2, by omega⟩⟩, if_neg (fun w => by omega), w2, Nat.zero_add]
    · rw [if_neg c]
      by_cases q : (A l r = true ∧ z.testBit r = true) ∧ (k < wo z r ∨ (wo z r = k ∧ r < r))
      · rw [if_pos q, if_pos ⟨q.1, by omega⟩, Nat.add_zero]
      · rw [if_neg q, if_neg (fun w => ?_)]
        rcases w.2 with w2 | w2
        · exact q ⟨w.1, Or.inl w2⟩
        · have := wo_iff.1 ⟨w.1.2, w2.1⟩
          exact c ⟨w.1.1, this.2, this.1⟩
