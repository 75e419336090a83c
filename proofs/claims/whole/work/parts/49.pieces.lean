def MS (V : Nat → Nat → Prop) (n s : Nat) (h : Nat → Option Nat) : Prop := (∀ i r, h i = some r → V i r) ∧ (∀ i i' r, h i = some r → h i' = some r → i = i') ∧ siz n h = s
noncomputable def pick (P : Nat → Prop) : Option Nat := @dite _ (∃ i, P i) (Classical.propDecidable _) (fun q => some (Classical.choose q)) (fun _ => none)
theorem pick_iff {P : Nat → Prop} (hu : ∀ a b, P a → P b → a = b) (i : Nat) : pick P = some i ↔ P i := by
  unfold pick
  by_cases q : ∃ i, P i
  · rw [dif_pos q]
    constructor
    · intro e; rw [← Option.some.inj e]; exact Classical.choose_spec q
    · intro e; rw [hu _ _ (Classical.choose_spec q) e]
  · rw [dif_neg q]
    exact ⟨fun e => (by cases e), fun e => (q ⟨i, e⟩).elim⟩
noncomputable def inv (h : Nat → Option Nat) : Nat → Option Nat := fun j => pick (fun i => h i = some j)
theorem inv_iff {h : Nat → Option Nat} (hi : ∀ i i' r, h i = some r → h i' = some r → i = i') (i j : Nat) : h i = some j ↔ inv h j = some i :=
  (pick_iff (P := fun i => h i = some j) (fun a b ha hb => hi a b j ha hb) i).symm
theorem opt_ext {a b : Nat → Option Nat} (h : ∀ i r, a i = some r ↔ b i = some r) : a = b := by
  funext i
  cases e : a i with
  | none =>
    cases e2 : b i with
    | none => rfl
    | some r => rw [(h i r).2 e2] at e; cases e
  | some r => exact ((h i r).1 e).symm
theorem MS_isM {V : Nat → Nat → Prop} {n s : Nat} {h : Nat → Option Nat} (hh : MS V n s h) : IsM (fun i j => dc (V i j)) h (inv h) := ⟨inv_iff hh.2.1, fun i j e => dc_iff.2 (hh.1 i j e)⟩
theorem MS_tr {V : Nat → Nat → Prop} {n k s m : Nat} (hV : ∀ i j, V i j → i < n ∧ j < k) (h : HasCard (MS V n s) m) : HasCard (MS (fun j i => V i j) k s) m := by
  have key : ∀ (V : Nat → Nat → Prop) (n k : Nat), (∀ i j, V i j → i < n ∧ j < k) → ∀ a, MS V n s a → MS (fun j i => V i j) k s (inv a) := by
    intro V n k hV a ha
    refine ⟨fun j i e => ha.1 i j ((inv_iff ha.2.1 i j).2 e), fun j j' i e e' => ?_, ?_⟩
    · have := ((inv_iff ha.2.1 i j).2 e).symm.trans ((inv_iff ha.2.1 i j').2 e')
      exact Option.some.inj this
    · rw [← siz_eq (n := n) (k := k) (A := fun i j => dc (V i j)) (fun i j e => hV i j (dc_iff.1 e)) (MS_isM ha)]
      exact ha.2.2
  have ii : ∀ (V : Nat → Nat → Prop) (n k : Nat), (∀ i j, V i j → i < n ∧ j < k) → ∀ a, MS V n s a → inv (inv a) = a := by
    intro V n k hV a ha
    refine opt_ext (fun i r => ?_)
    rw [← inv_iff (key V n k hV a ha).2.1, ← inv_iff ha.2.1]
  refine h.map inv ?_ ?_
  · intro a b ha hb e
    rw [← ii V n k hV a ha, ← ii V n k hV b hb, e]
  · intro b
    constructor
    · intro hb
      have hV' : ∀ i j, (fun j i => V i j) i j → i < k ∧ j < n := fun i j e => (hV j i e).symm
      exact ⟨inv b, key _ k n hV' b hb, ii _ k n hV' b hb⟩
    · rintro ⟨a, ha, e⟩
      rw [← e]; exact key V n k hV a ha
theorem cnt_rk (P p : Nat → Bool) : ∀ n, cnt n (fun l => P l && p (cnt l P)) = cnt (cnt n P) p
  | 0 => rfl
  | n + 1 => by
    rw [cnt_s, cnt_rk P p n, cnt_s n P]
    cases e : P n
    · rfl
    · show _ = cnt (cnt n P + 1) p
      rw [cnt_s]; rfl
theorem cnt_sel {P : Nat → Bool} {a b : Nat} (ha : P a = true) (hb : P b = true) (h : cnt a P = cnt b P) : a = b := by
  rcases (by omega : a < b ∨ a = b ∨ b < a) with q | q | q
  · have := cnt_strict q ha; omega
  · exact q
  · have := cnt_strict q hb; omega
def cmp (V : Nat → Nat → Prop) (P R : Nat → Bool) (i j : Nat) : Prop := ∃ l r, P l = true ∧ cnt l P = i ∧ R r = true ∧ cnt r R = j ∧ V l r
noncomputable def exm (V : Nat → Nat → Prop) (P R : Nat → Bool) (q : Nat → Option Nat) : Nat → Option Nat := fun l => pick (fun r => P l = true ∧ R r = true ∧ q (cnt l P) = some (cnt r R))
theorem exm_iff {V : Nat → Nat → Prop} {P R : Nat → Bool} {q : Nat → Option Nat} (l r : Nat) : exm V P R q l = some r ↔ P l = true ∧ R r = true ∧ q (cnt l P) = some (cnt r R) :=
  pick_iff (P := fun r => P l = true ∧ R r = true ∧ q (cnt l P) = some (cnt r R)) (fun a b ha hb => cnt_sel ha.2.1 hb.2.1 (Option.some.inj (ha.2.2.symm.trans hb.2.2))) r
theorem MS_cmp {V : Nat → Nat → Prop} {P R : Nat → Bool} {n k s m : Nat} (hP : ∀ i, P i = true → i < n) (hR : ∀ i, R i = true → i < k) (hV : ∀ i j, V i j → P i = true ∧ R j = true) (h : HasCard (MS (cmp V P R) (cnt n P) s) m) : HasCard (MS V n s) m := by
  have val : ∀ q, (∀ i j, q i = some j → cmp V P R i j) → ∀ i j, q i = some j → ∃ l r, P l = true ∧ cnt l P = i ∧ R r = true ∧ cnt r R = j ∧ V l r ∧ exm V P R q l = some r := by
    intro q hq i j e
    obtain ⟨l, r, h1, h2, h3, h4, h5⟩ := hq i j e
    exact ⟨l, r, h1, h2, h3, h4, h5, (exm_iff l r).2 ⟨h1, h3, by rw [h2, h4]; exact e⟩⟩
  have sizq : ∀ q, (∀ i j, q i = some j → cmp V P R i j) → siz n (exm V P R q) = siz (cnt n P) q := by
    intro q hq
    unfold siz
    rw [← cnt_rk]
    refine cnt_congr (fun l _ => ?_)
    cases e : exm V P R q l with
    | some r =>
      obtain ⟨h1, h2, h3⟩ := (exm_iff l r).1 e
      rw [h1, h3]; rfl
    | none =>
      cases e1 : P l
      · rfl
      · cases e2 : q (cnt l P) with
        | none => rfl
        | some j =>
          obtain ⟨l', r, g1, g2, g3, g4, g5, g6⟩ := val q hq _ _ e2
          rw [cnt_sel g1 e1 g2, e] at g6; cases g6
  refine h.map (exm V P R) ?_ ?_
  · intro a b ha hb e
    refine opt_ext (fun i j => ?_)
    have half : ∀ a b, MS (cmp V P R) (cnt n P) s a → exm V P R a = exm V P R b → a i = some j → b i = some j := by
      intro a b ha e h1
      obtain ⟨l, r, g1, g2, g3, g4, g5, g6⟩ := val a ha.1 i j h1
      rw [e] at g6
      have := ((exm_iff l r).1 g6).2.2
      rw [g2, g4] at this
      exact this
    exact ⟨half a b ha e, half b a hb e.symm⟩
  · intro b
    constructor
    · intro hb
      let q : Nat → Option Nat := fun i => pick (fun j => ∃ l r, P l = true ∧ cnt l P = i ∧ b l = some r ∧ cnt r R = j)
      have hq : ∀ i j, q i = some j ↔ ∃ l r, P l = true ∧ cnt l P = i ∧ b l = some r ∧ cnt r R = j := by
        intro i j
        refine pick_iff (P := fun j => ∃ l r, P l = true ∧ cnt l P = i ∧ b l = some r ∧ cnt r R = j) ?_ j
        rintro x y ⟨l, r, h1, h2, h3, h4⟩ ⟨l', r', g1, g2, g3, g4⟩
        have e1 := cnt_sel h1 g1 (h2.trans g2.symm)
        rw [e1, g3] at h3
        rw [← h4, ← g4, Option.some.inj h3]
      have hqc : ∀ i j, q i = some j → cmp V P R i j := by
        intro i j e
        obtain ⟨l, r, h1, h2, h3, h4⟩ := (hq i j).1 e
        exact ⟨l, r, h1, h2, (hV _ _ (hb.1 _ _ h3)).2, h4, hb.1 _ _ h3⟩
      have eb : exm V P R q = b := by
        refine opt_ext (fun l r => ?_)
        rw [exm_iff]
        constructor
        · rintro ⟨h1, h2, h3⟩
          obtain ⟨l', r', g1, g2, g3, g4⟩ := (hq _ _).1 h3
          rw [cnt_sel g1 h1 g2] at g3
          rw [g3, cnt_sel (hV _ _ (hb.1 _ _ g3)).2 h2 g4]
        · intro e
          have := hV _ _ (hb.1 _ _ e)
          exact ⟨this.1, this.2, (hq _ _).2 ⟨l, r, this.1, rfl, e, rfl⟩⟩
      refine ⟨q, ⟨hqc, ?_, ?_⟩, eb⟩
      · intro i i' j e e'
        obtain ⟨l, r, h1, h2, h3, h4⟩ := (hq _ _).1 e
        obtain ⟨l', r', g1, g2, g3, g4⟩ := (hq _ _).1 e'
        have : r = r' := cnt_sel (hV _ _ (hb.1 _ _ h3)).2 (hV _ _ (hb.1 _ _ g3)).2 (h4.trans g4.symm)
        subst this
        rw [← h2, ← g2, hb.2.1 _ _ _ h3 g3]
      · rw [← sizq q hqc, eb]; exact hb.2.2
    · rintro ⟨q, hq, e⟩
      subst e
      refine ⟨?_, ?_, ?_⟩
      · intro l r e
        obtain ⟨h1, h2, h3⟩ := (exm_iff l r).1 e
        obtain ⟨l', r', g1, g2, g3, g4, g5⟩ := hq.1 _ _ h3
        rw [← cnt_sel g1 h1 g2, ← cnt_sel g3 h2 g4]; exact g5
      · intro l l' r e e'
        obtain ⟨h1, h2, h3⟩ := (exm_iff l r).1 e
        obtain ⟨g1, g2, g3⟩ := (exm_iff l' r).1 e'
        exact cnt_sel h1 g1 (hq.2.1 _ _ _ h3 g3)
      · rw [sizq q hq.1]; exact hq.2.2
theorem MS_Tk {A : Nat → Nat → Bool} {V : Nat → Nat → Prop} {n k s : Nat} (h : ∀ i j, V i j ↔ i < n ∧ j < k ∧ A i j = true) : HasCard (MS V n s) (Tk A k s n 0 (fun _ => false) 0) := by
  refine (Tk_card A k s n 0 (fun _ => false) 0).congr (fun g => ?_)
  unfold MX MS
  rw [Nat.zero_add, Nat.zero_add]
  constructor
  · rintro ⟨h1, h2, h3⟩
    exact ⟨fun i r e => (h i r).2 ⟨(h1 i r e).2.1, (h1 i r e).2.2.1, (h1 i r e).2.2.2.1⟩, h2, h3⟩
  · rintro ⟨h1, h2, h3⟩
    refine ⟨fun i r e => ?_, h2, h3⟩
    obtain ⟨a, b, c⟩ := (h i r).1 (h1 i r e)
    exact ⟨Nat.zero_le _, a, b, c, rfl⟩
variable {sz : Nat → Nat} {E : Nat → Nat → Bool} {f f' g g' : Nat → Option Nat}
def Cls (sz : Nat → Nat) (E : Nat → Nat → Bool) (Q : Nat → Bool) : Prop := ∀ i i' r, Q i = true → Use sz E i r → Use sz E i' r → Q i' = true
def UQ (sz : Nat → Nat) (E : Nat → Nat → Bool) (Q : Nat → Bool) (i r : Nat) : Prop := Q i = true ∧ Use sz E i r
def res (Q : Nat → Bool) (h : Nat → Option Nat) : Nat → Option Nat := fun i => if Q i = true then h i else none
def mix (Q : Nat → Bool) (a b : Nat → Option Nat) : Nat → Option Nat := fun i => if Q i = true then a i else b i
theorem res_some {Q : Nat → Bool} {h : Nat → Option Nat} {i r : Nat} : res Q h i = some r ↔ Q i = true ∧ h i = some r := by
  unfold res
  by_cases e : Q i = true
  · rw [if_pos e]; exact ⟨fun q => ⟨e, q⟩, fun q => q.2⟩
  · rw [if_neg e]; exact ⟨fun q => (by cases q), fun q => (e q.1).elim⟩
theorem mix_some {Q : Nat → Bool} {a b : Nat → Option Nat} {i r : Nat} : mix Q a b i = some r ↔ (Q i = true ∧ a i = some r) ∨ (Q i = false ∧ b i = some r) := by
  unfold mix
  cases e : Q i
  · rw [if_neg (by decide)]; exact ⟨fun q => Or.inr ⟨rfl, q⟩, fun q => by rcases q with q | q; cases q.1; exact q.2⟩
  · rw [if_pos rfl]; exact ⟨fun q => Or.inl ⟨rfl, q⟩, fun q => by rcases q with q | q; exact q.2; cases q.1⟩
theorem res_ap {Q : Nat → Bool} {h : Nat → Option Nat} {i : Nat} : (res Q h i).isSome = (Q i && (h i).isSome) := by
  unfold res; cases e : Q i <;> simp
theorem siz_mix {Q : Nat → Bool} {a b : Nat → Option Nat} (n : Nat) : siz n (mix Q a b) = siz n (res Q a) + siz n (res (fun i => !Q i) b) := by
  unfold siz
  induction n with
  | zero => rfl
  | succ n ih =>
    rw [cnt_s, cnt_s, cnt_s, ih]
    have : (mix Q a b n).isSome.toNat = (res Q a n).isSome.toNat + (res (fun i => !Q i) b n).isSome.toNat := by
      rw [res_ap, res_ap]
      unfold mix
      cases Q n <;> simp
    omega
theorem mix_self {Q : Nat → Bool} : mix Q f f = f := by
  funext i; unfold mix; split <;> rfl
theorem great_use (hf : Great (sz 0) E f f') {i r : Nat} (h : f i = some r) : Use sz E i r := ⟨f, f', hf, h⟩
theorem mix_isM {Q : Nat → Bool} {a b : Nat → Option Nat} (hQ : Cls sz E Q) (ha : ∀ i r, a i = some r → Use sz E i r) (hb : ∀ i r, b i = some r → Use sz E i r) (ia : ∀ i i' r, a i = some r → a i' = some r → i = i') (ib : ∀ i i' r, b i = some r → b i' = some r → i = i') :
    IsM E (mix Q a b) (inv (mix Q a b)) := by
  refine ⟨inv_iff ?_, ?_⟩
  · intro i i' r e e'
    rcases mix_some.1 e with ⟨q1, q2⟩ | ⟨q1, q2⟩ <;> rcases mix_some.1 e' with ⟨p1, p2⟩ | ⟨p1, p2⟩
    · exact ia _ _ _ q2 p2
    · rw [hQ i i' r q1 (ha _ _ q2) (hb _ _ p2)] at p1; cases p1
    · rw [hQ i' i r p1 (ha _ _ p2) (hb _ _ q2)] at q1; cases q1
    · exact ib _ _ _ q2 p2
  · intro i j e
    rcases mix_some.1 e with ⟨_, q⟩ | ⟨_, q⟩
    · exact use_E (ha _ _ q)
    · exact use_E (hb _ _ q)
theorem great_inj (hf : Great (sz 0) E f f') : ∀ i i' r, f i = some r → f i' = some r → i = i' := fun i i' r h h' => Option.some.inj (((hf.1.1 _ _).1 h).symm.trans ((hf.1.1 _ _).1 h'))
theorem cls_siz {Q : Nat → Bool} (hQ : Cls sz E Q) (hf : Great (sz 0) E f f') (hg : Great (sz 0) E g g') : siz (sz 0) (res Q f) = siz (sz 0) (res Q g) := by
  have h1 := hf.2 _ _ (mix_isM (a := f) (b := g) hQ (fun _ _ => great_use hf) (fun _ _ => great_use hg) (great_inj hf) (great_inj hg))
  have h2 := hf.2 _ _ (mix_isM (a := g) (b := f) hQ (fun _ _ => great_use hg) (fun _ _ => great_use hf) (great_inj hg) (great_inj hf))
  have h3 := siz_mix (Q := Q) (a := f) (b := f) (sz 0)
  have h4 := siz_mix (Q := Q) (a := g) (b := g) (sz 0)
  rw [mix_self] at h3 h4
  have h1 : siz (sz 0) (mix Q f g) ≤ siz (sz 0) f := h1
  have h2 : siz (sz 0) (mix Q g f) ≤ siz (sz 0) f := h2
  rw [siz_mix] at h1 h2
  have := great_siz hf hg
  omega
theorem mix_great {Q : Nat → Bool} (hQ : Cls sz E Q) (hf : Great (sz 0) E f f') {a : Nat → Option Nat} (ha : MS (UQ sz E Q) (sz 0) (siz (sz 0) (res Q f)) a) : Great (sz 0) E (mix Q a f) (inv (mix Q a f)) := by
  refine great_same hf (mix_isM hQ (fun i r h => (ha.1 i r h).2) (fun _ _ => great_use hf) ha.2.1 (great_inj hf)) ?_
  have h3 := siz_mix (Q := Q) (a := f) (b := f) (sz 0)
  rw [mix_self] at h3
  rw [siz_mix]
  have : res Q a = a := by
    refine opt_ext (fun i r => ?_)
    rw [res_some]
    exact ⟨fun q => q.2, fun q => ⟨(ha.1 i r q).1, q⟩⟩
  rw [this, ha.2.2]
  omega
theorem cls_or {P Q : Nat → Bool} (hP : Cls sz E P) (hQ : Cls sz E Q) : Cls sz E (fun i => P i || Q i) := by
  intro i i' r h h1 h2
  rw [Bool.or_eq_true] at h ⊢
  rcases h with h | h
  · exact Or.inl (hP i i' r h h1 h2)
  · exact Or.inr (hQ i i' r h h1 h2)
theorem card_or {P Q : Nat → Bool} {a b : Nat} (hP : Cls sz E P) (hQ : Cls sz E Q) (hd : ∀ i, P i = true → Q i = true → False) (hf : Great (sz 0) E f f') (ha : HasCard (MS (UQ sz E P) (sz 0) (siz (sz 0) (res P f))) a) (hb : HasCard (MS (UQ sz E Q) (sz 0) (siz (sz 0) (res Q f))) b) :
    HasCard (MS (UQ sz E (fun i => P i || Q i)) (sz 0) (siz (sz 0) (res (fun i => P i || Q i) f))) (a * b) := by
  have noQ : ∀ i, P i = true → Q i = false := fun i h => by
    cases e : Q i
    · rfl
    · exact (hd i h e).elim
  have hsz : ∀ n (z : Nat → Option Nat), siz n (res (fun i => P i || Q i) z) = siz n (res P z) + siz n (res Q z) := by
    intro n z
    unfold siz
    induction n with
    | zero => rfl
    | succ n ih =>
      rw [cnt_s, cnt_s, cnt_s, ih]
      have : (res (fun i => P i || Q i) z n).isSome.toNat = (res P z n).isSome.toNat + (res Q z n).isSome.toNat := by
        rw [res_ap, res_ap, res_ap]
        have := noQ n
        cases e1 : P n
        · cases Q n <;> simp [e1]
        · rw [this e1]; simp [e1]
      omega
  refine (ha.prod hb).map (fun p => mix P p.1 p.2) ?_ ?_
  · rintro ⟨x, y⟩ ⟨x', y'⟩ ⟨hx, hy⟩ ⟨hx', hy'⟩ e
    have e : mix P x y = mix P x' y' := e
    have h1 : x = x' := by
      refine opt_ext (fun i r => ?_)
      constructor
      · intro q
        have hp := (hx.1 i r q).1
        have : mix P x y i = some r := mix_some.2 (Or.inl ⟨hp, q⟩)
        rw [e] at this
        rcases mix_some.1 this with z | z
        · exact z.2
        · rw [hp] at z; cases z.1
      · intro q
        have hp := (hx'.1 i r q).1
        have : mix P x' y' i = some r := mix_some.2 (Or.inl ⟨hp, q⟩)
        rw [← e] at this
        rcases mix_some.1 this with z | z
        · exact z.2
        · rw [hp] at z; cases z.1
    have h2 : y = y' := by
      refine opt_ext (fun i r => ?_)
      constructor
      · intro q
        have hp : P i = false := by
          cases e : P i
          · rfl
          · exact (hd i e (hy.1 i r q).1).elim
        have : mix P x y i = some r := mix_some.2 (Or.inr ⟨hp, q⟩)
        rw [e] at this
        rcases mix_some.1 this with z | z
        · rw [hp] at z; cases z.1
        · exact z.2
      · intro q
        have hp : P i = false := by
          cases e : P i
          · rfl
          · exact (hd i e (hy'.1 i r q).1).elim
        have : mix P x' y' i = some r := mix_some.2 (Or.inr ⟨hp, q⟩)
        rw [← e] at this
        rcases mix_some.1 this with z | z
        · rw [hp] at z; cases z.1
        · exact z.2
    rw [h1, h2]
  · intro z
    constructor
    · intro hz
      have hG := mix_great (cls_or hP hQ) hf hz
      have eP : res P (mix (fun i => P i || Q i) z f) = res P z := by
        funext i
        unfold res mix
        cases e : P i
        · rfl
        · simp [e]
      have eQ : res Q (mix (fun i => P i || Q i) z f) = res Q z := by
        funext i
        unfold res mix
        cases e : Q i
        · rfl
        · simp [e]
      refine ⟨(res P z, res Q z), ⟨⟨?_, ?_, ?_⟩, ⟨?_, ?_, ?_⟩⟩, ?_⟩
      · intro i r h
        have h := res_some.1 h
        exact ⟨h.1, (hz.1 i r h.2).2⟩
      · intro i i' r h h'
        exact hz.2.1 _ _ _ (res_some.1 h).2 (res_some.1 h').2
      · show siz (sz 0) (res P z) = _
        rw [← eP]; exact cls_siz hP hG hf
      · intro i r h
        have h := res_some.1 h
        exact ⟨h.1, (hz.1 i r h.2).2⟩
      · intro i i' r h h'
        exact hz.2.1 _ _ _ (res_some.1 h).2 (res_some.1 h').2
      · show siz (sz 0) (res Q z) = _
        rw [← eQ]; exact cls_siz hQ hG hf
      · refine opt_ext (fun i r => ?_)
        show mix P (res P z) (res Q z) i = some r ↔ _
        rw [mix_some, res_some, res_some]
        constructor
        · rintro (h | h)
          · exact h.2.2
          · exact h.2.2
        · intro h
          have h1 : (P i || Q i) = true := (hz.1 i r h).1
          cases e : P i
          · rw [e, Bool.false_or] at h1
            exact Or.inr ⟨rfl, h1, h⟩
          · exact Or.inl ⟨rfl, rfl, h⟩
    · rintro ⟨⟨x, y⟩, ⟨hx, hy⟩, e⟩
      have hx : MS (UQ sz E P) (sz 0) (siz (sz 0) (res P f)) x := hx
      have hy : MS (UQ sz E Q) (sz 0) (siz (sz 0) (res Q f)) y := hy
      have e : mix P x y = z := e
      subst e
      have hM := mix_isM hP (fun i r h => (hx.1 i r h).2) (fun i r h => (hy.1 i r h).2) hx.2.1 hy.2.1
      refine ⟨?_, ?_, ?_⟩
      · intro i r h
        rcases mix_some.1 h with ⟨q1, q2⟩ | ⟨q1, q2⟩
        · exact ⟨by show (P i || Q i) = true; rw [q1]; rfl, (hx.1 i r q2).2⟩
        · exact ⟨by show (P i || Q i) = true; rw [(hy.1 i r q2).1, Bool.or_true], (hy.1 i r q2).2⟩
      · intro i i' r h h'
        exact Option.some.inj (((hM.1 _ _).1 h).symm.trans ((hM.1 _ _).1 h'))
      · rw [siz_mix, hsz]
        have e1 : res P x = x := opt_ext (fun i r => by rw [res_some]; exact ⟨fun q => q.2, fun q => ⟨(hx.1 i r q).1, q⟩⟩)
        have e2 : res (fun i => !P i) y = y := opt_ext (fun i r => by
          rw [res_some]
          refine ⟨fun q => q.2, fun q => ⟨?_, q⟩⟩
          cases e : P i
          · rfl
          · exact (hd i e (hy.1 i r q).1).elim)
        rw [e1, e2, hx.2.2, hy.2.2]
def GM (sz : Nat → Nat) (E : Nat → Nat → Bool) (f : Nat → Option Nat) : Prop := ∃ f', Great (sz 0) E f f'
theorem card_all {Q : Nat → Bool} {a : Nat} (hE : Rg (sz 0) (sz 1) E) (hf : Great (sz 0) E f f') (hQ : ∀ i, i < sz 0 → Q i = true) (ha : HasCard (MS (UQ sz E Q) (sz 0) (siz (sz 0) (res Q f))) a) : HasCard (GM sz E) a := by
  have er : ∀ z : Nat → Option Nat, (∀ i r, z i = some r → E i r = true) → res Q z = z := by
    intro z hz
    refine opt_ext (fun i r => ?_)
    rw [res_some]
    exact ⟨fun q => q.2, fun q => ⟨hQ i (hE _ _ (hz _ _ q)).1, q⟩⟩
  refine ha.congr (fun z => ?_)
  constructor
  · intro hz
    rw [er f hf.1.2] at hz
    refine ⟨inv z, great_same hf ⟨inv_iff hz.2.1, fun i j e => use_E (hz.1 i j e).2⟩ ?_⟩
    rw [hz.2.2]
    exact Nat.le_refl _
  · rintro ⟨z', hz⟩
    rw [er f hf.1.2]
    exact ⟨fun i r e => ⟨hQ i (hE _ _ (hz.1.2 _ _ e)).1, great_use hz e⟩, great_inj hz, great_siz hz hf⟩
theorem card_none (hE : Rg (sz 0) (sz 1) E) {Q : Nat → Bool} (hQ : ∀ i, Q i = false) : HasCard (MS (UQ sz E Q) (sz 0) (siz (sz 0) (res Q f))) 1 := by
  have e : res Q f = fun _ => none := opt_ext (fun i r => by rw [res_some, hQ i]; exact ⟨fun q => (by cases q.1), fun q => (by cases q)⟩)
  rw [e, siz_none]
  refine HasCard.one (a0 := fun _ => none) (fun z => ?_)
  constructor
  · intro hz
    funext i
    cases e : z i with
    | none => rfl
    | some r => have := (hz.1 i r e).1; rw [hQ] at this; cases this
  · intro e
    subst e
    exact ⟨fun i r e => (by cases e), fun i i' r e => (by cases e), siz_none⟩
theorem mis_share (hE : Rg (sz 0) (sz 1) E) {l l' r : Nat} (h : mis sz E 0 l) (h1 : Use sz E l r) (h2 : Use sz E l' r) : mis sz E 0 l' := by
  obtain ⟨g, g', hg, e⟩ := h2
  obtain ⟨x, hx, hm⟩ := mis_mate0 hE hg h (use_E h1)
  have := (hg.1.1 _ _).1 e
  rw [hx] at this
  have := Option.some.inj this
  rw [← this]; exact hm
theorem piece_siz (hE : Rg (sz 0) (sz 1) E) (hf : Great (sz 0) E f f') {P R : Nat → Bool} (hP : ∀ i, P i = true → i < sz 0) (hR : ∀ r, R r = true ↔ ∃ l, P l = true ∧ Use sz E l r) (hQ : Cls sz E P) (hm : (∀ l, P l = true → mis sz E 0 l) ∨ (∀ l, P l = true → ¬ mis sz E 0 l)) :
    siz (sz 0) (res P f) ≤ cnt (sz 0) P ∧ siz (sz 0) (res P f) ≤ cnt (sz 1) R ∧ (cnt (sz 0) P ≤ siz (sz 0) (res P f) ∨ cnt (sz 1) R ≤ siz (sz 0) (res P f)) := by
  refine ⟨?_, ?_, ?_⟩
  · refine cnt_mono (fun i h => ?_)
    obtain ⟨r, e⟩ := isSome_ex h
    exact (res_some.1 e).1
  · unfold siz
    refine cnt_inj (fun l => (res P f l).getD 0) _ _ _ ?_ ?_
    · intro i _ h
      obtain ⟨r, e⟩ := isSome_ex h
      have e1 : (res P f i).getD 0 = r := by rw [e]; rfl
      simp only [e1]
      have e2 := res_some.1 e
      have hu := great_use hf e2.2
      exact ⟨(hE _ _ (use_E hu)).2, (hR r).2 ⟨i, e2.1, hu⟩⟩
    · intro i j _ _ h h' hij
      obtain ⟨r, e⟩ := isSome_ex h
      obtain ⟨r', e'⟩ := isSome_ex h'
      have hij : (res P f i).getD 0 = (res P f j).getD 0 := hij
      rw [e, e'] at hij
      have hij : r = r' := hij
      subst hij
      exact great_inj hf _ _ _ (res_some.1 e).2 (res_some.1 e').2
  · rcases hm with hm | hm
    · refine Or.inr ?_
      rw [siz_eq (n := sz 0) (k := sz 1) (A := E) (f' := inv (res P f)) hE ⟨inv_iff (fun i i' r e e' => great_inj hf _ _ _ (res_some.1 e).2 (res_some.1 e').2), fun i j e => hf.1.2 _ _ (res_some.1 e).2⟩]
      refine cnt_mono (fun r h => ?_)
      obtain ⟨l, h1, h2⟩ := (hR r).1 h
      obtain ⟨x, hx, hmx⟩ := mis_mate0 hE hf (hm l h1) (use_E h2)
      have hx := (hf.1.1 _ _).2 hx
      have : res P f x = some r := res_some.2 ⟨hQ l x r h1 h2 (great_use hf hx), hx⟩
      rw [inv_iff (fun i i' r e e' => great_inj hf _ _ _ (res_some.1 e).2 (res_some.1 e').2)] at this
      rw [this]; rfl
    · refine Or.inl ?_
      refine cnt_mono (fun l h => ?_)
      cases e : f l with
      | none => exact (hm l h ⟨hP l h, f, f', hf, e⟩).elim
      | some r => rw [res_some.2 ⟨h, e⟩]; rfl
