section LEVEL
/-- a strict order -/
def SPO (U : Nat → Nat → Bool) : Prop := (∀ a, U a a = false) ∧ ∀ a b c, U a b = true → U b c = true → U a c = true
/-- what is left after k bottoms are gone -/
def rs (n : Nat) (U : Nat → Nat → Bool) : Nat → Nat → Prop
  | 0, t => t < n
  | k + 1, t => rs n U k t ∧ ∃ u, rs n U k u ∧ U u t = true
theorem rs_lt {n : Nat} {U : Nat → Nat → Bool} : ∀ (k t : Nat), rs n U k t → t < n
  | 0, _, h => h
  | k + 1, t, h => rs_lt k t h.1
variable {n : Nat} {U : Nat → Nat → Bool}
theorem cnt_sub_strict {p q : Nat → Bool} {x : Nat} (hx : x < n) (h : ∀ i, p i = true → q i = true) (h1 : q x = true) (h2 : p x = false) : cnt n p + 1 ≤ cnt n q := by
  rw [cnt_off hx h1]
  have : cnt n p ≤ cnt n (fun j => q j && !decide (j = x)) := cnt_mono (fun i hi => by
    rw [h i hi]
    by_cases e : i = x
    · subst e; rw [h2] at hi; cases hi
    · simp [e])
  omega
theorem rs_below (hU : SPO U) : ∀ (k t : Nat), rs n U k t → k ≤ cnt n (fun u => U u t)
  | 0, _, _ => Nat.zero_le _
  | k + 1, t, h => by
    obtain ⟨h1, u, h2, h3⟩ := h
    have ih := rs_below hU k u h2
    have := cnt_sub_strict (n := n) (p := fun w => U w u) (q := fun w => U w t) (x := u) (rs_lt k u h2) (fun i hi => hU.2 i u t hi h3) h3 (hU.1 u)
    omega
theorem rs_bound (hU : SPO U) {k t : Nat} (h : rs n U k t) : k < n := by
  have h1 := rs_below hU k t h
  have ht := rs_lt k t h
  have := cnt_sub_strict (n := n) (p := fun w => U w t) (q := fun _ => true) (x := t) ht (fun _ _ => rfl) rfl (hU.1 t)
  rw [cnt_true] at this
  omega
theorem rs_anti : ∀ {k t : Nat}, rs n U (k + 1) t → rs n U k t := fun h => h.1
theorem rs_up : ∀ (k a b : Nat), b < n → rs n U k a → U a b = true → rs n U (k + 1) b
  | 0, a, b, hb, ha, h => ⟨hb, a, ha, h⟩
  | k + 1, a, b, hb, ha, h => ⟨rs_up k a b hb ha.1 h, a, ha, h⟩
theorem cnt_anti {p : Nat → Bool} (h : ∀ k, p (k + 1) = true → p k = true) : ∀ k, k < n → (p k = true ↔ k < cnt n p) := by
  induction n with
  | zero => intro k hk; exact absurd hk (by omega)
  | succ n ih =>
    intro k hk
    have hle := cnt_le n p
    have down : ∀ d k, p (k + d) = true → p k = true := by
      intro d
      induction d with
      | zero => intro k hk; exact hk
      | succ d ihd => intro k hk; exact h k (ihd (k + 1) (by rw [show k + 1 + d = k + (d + 1) by omega]; exact hk))
    cases e : p n with
    | true =>
      have : cnt (n + 1) p = n + 1 := by
        have hall : cnt (n + 1) p = cnt (n + 1) (fun _ => true) := cnt_congr (fun i hi => down (n - i) i (by rw [show i + (n - i) = n by omega]; exact e))
        rw [hall, cnt_true]
      rw [this]
      exact ⟨fun _ => hk, fun _ => down (n - k) k (by rw [show k + (n - k) = n by omega]; exact e)⟩
    | false =>
      have : cnt (n + 1) p = cnt n p := by rw [cnt, e]; simp
      rw [this]
      by_cases ek : k = n
      · subst ek
        rw [e]
        constructor
        · intro z; cases z
        · intro z; omega
      · exact ih k (by omega)
/-- the level of a thing -/
noncomputable def lev (n : Nat) (U : Nat → Nat → Bool) (t : Nat) : Nat := cnt n (fun k => dc (rs n U (k + 1) t))
theorem rs_lev (hU : SPO U) {t : Nat} (ht : t < n) (k : Nat) : rs n U k t ↔ k ≤ lev n U t := by
  cases k with
  | zero => exact ⟨fun _ => Nat.zero_le _, fun _ => ht⟩
  | succ k =>
    rcases Nat.lt_or_ge k n with q | q
    · have := cnt_anti (n := n) (p := fun k => dc (rs n U (k + 1) t)) (fun k h => dc_iff.mpr (dc_iff.mp h).1) k q
      rw [dc_iff] at this
      exact this
    · constructor
      · intro z; have := rs_bound hU z; omega
      · intro z
        have := cnt_le n (fun k => dc (rs n U (k + 1) t))
        have : lev n U t ≤ n := this
        omega
theorem lev_lt (hU : SPO U) {t : Nat} (ht : t < n) : lev n U t < n := rs_bound hU ((rs_lev hU ht _).mpr (Nat.le_refl _))
theorem lev_up (hU : SPO U) (hR : Rg n n U) {a b : Nat} (h : U a b = true) : lev n U a < lev n U b := by
  obtain ⟨ha, hb⟩ := hR a b h
  exact (rs_lev hU hb _).mp (rs_up _ a b hb ((rs_lev hU ha _).mpr (Nat.le_refl _)) h)
theorem lev_pred (hU : SPO U) (hR : Rg n n U) {b k : Nat} (hb : b < n) (h : lev n U b = k + 1) : ∃ a, a < n ∧ U a b = true ∧ lev n U a = k := by
  obtain ⟨h1, u, h2, h3⟩ := (rs_lev hU hb (k + 1)).mpr (by omega)
  have hu := (hR u b h3).1
  have := (rs_lev hU hu k).mp h2
  have := lev_up hU hR h3
  exact ⟨u, hu, h3, by omega⟩
theorem rs_bottom (hU : SPO U) (hR : Rg n n U) {t k : Nat} (ht : t < n) : (rs n U k t ∧ ¬ ∃ u, rs n U k u ∧ U u t = true) ↔ lev n U t = k := by
  constructor
  · rintro ⟨h1, h2⟩
    have x1 := (rs_lev hU ht k).mp h1
    have x2 : ¬ k + 1 ≤ lev n U t := fun z => h2 ((rs_lev hU ht (k + 1)).mpr z).2
    omega
  · intro h
    refine ⟨(rs_lev hU ht k).mpr (by omega), fun ⟨u, h2, h3⟩ => ?_⟩
    have hu := (hR u t h3).1
    have := (rs_lev hU hu k).mp h2
    have := lev_up hU hR h3
    omega
/-- how many levels there are -/
def isHigh (n : Nat) (U : Nat → Nat → Bool) (H : Nat) : Prop := (∀ t, t < n → lev n U t < H) ∧ (0 < H → ∃ t, t < n ∧ lev n U t + 1 = H)
theorem high_unique {H K : Nat} (h : isHigh n U H) (k : isHigh n U K) : H = K := by
  rcases Nat.lt_trichotomy H K with q | q | q
  · obtain ⟨t, t1, t2⟩ := k.2 (by omega)
    have := h.1 t t1
    omega
  · exact q
  · obtain ⟨t, t1, t2⟩ := h.2 (by omega)
    have := k.1 t t1
    omega
variable {f f' : Nat → Option Nat}
/-- along a chain -/
def nxt (f : Nat → Option Nat) (a b : Nat) : Prop := f a = some b
theorem cl_head {R : Nat → Nat → Prop} {a c : Nat} : Cl R a c ↔ c = a ∨ ∃ b, R a b ∧ Cl R b c := by
  constructor
  · intro h
    refine h (fun c => c = a ∨ ∃ b, R a b ∧ Cl R b c) (Or.inl rfl) (fun x y q r => ?_)
    rcases q with q | ⟨b, q1, q2⟩
    · subst q; exact Or.inr ⟨y, r, Cl.rf⟩
    · exact Or.inr ⟨b, q1, q2.step r⟩
  · rintro (h | ⟨b, h1, h2⟩)
    · subst h; exact Cl.rf
    · exact (Cl.one h1).trans h2
theorem cl_tail {R : Nat → Nat → Prop} {a c : Nat} (h : Cl R a c) : c = a ∨ ∃ b, Cl R a b ∧ R b c :=
  (h (fun c => Cl R a c ∧ (c = a ∨ ∃ b, Cl R a b ∧ R b c)) ⟨Cl.rf, Or.inl rfl⟩ (fun x y q r => ⟨q.1.step r, Or.inr ⟨x, q.1, r⟩⟩)).2
theorem nxt_lev (hU : SPO U) (hR : Rg n n U) (hM : IsM U f f') {a b : Nat} (h : Cl (nxt f) a b) : b = a ∨ lev n U a < lev n U b :=
  h (fun b => b = a ∨ lev n U a < lev n U b) (Or.inl rfl) (fun x y q r => by
    have := lev_up hU hR (hM.2 x y r)
    rcases q with q | q
    · subst q; exact Or.inr this
    · exact Or.inr (by omega))
theorem nxt_U (hU : SPO U) (hM : IsM U f f') {a b : Nat} (h : Cl (nxt f) a b) : b = a ∨ U a b = true :=
  h (fun b => b = a ∨ U a b = true) (Or.inl rfl) (fun x y q r => by
    have := hM.2 x y r
    rcases q with q | q
    · subst q; exact Or.inr this
    · exact Or.inr (hU.2 a x y q this))
/-- a chain's first thing is one alone -/
theorem root_unique (hM : IsM U f f') {r r' x : Nat} (hr : f' r = none) (hr' : f' r' = none) (h : Cl (nxt f) r x) (h' : Cl (nxt f) r' x) : r = r' := by
  have key : ∀ x, Cl (nxt f) r x → Cl (nxt f) r' x → r = r' := fun x h h' => by
    have := h (fun x => ∀ r', f' r' = none → Cl (nxt f) r' x → r = r') (fun r' hr' h' => by
      rcases cl_tail h' with e | ⟨b, _, e2⟩
      · exact e
      · rw [(hM.1 b r).mp e2] at hr; cases hr) (fun y z q s r' hr' h' => by
      rcases cl_tail h' with e | ⟨b, e1, e2⟩
      · subst e
        rw [(hM.1 y z).mp s] at hr'; cases hr'
      · have e3 := (hM.1 b z).mp e2
        rw [(hM.1 y z).mp s] at e3
        cases e3
        exact q r' hr' e1)
    exact this r' hr' h'
  exact key x h h'
theorem root_ex (hU : SPO U) (hR : Rg n n U) (hM : IsM U f f') : ∀ d x, x < n → lev n U x ≤ d → ∃ r, r < n ∧ f' r = none ∧ Cl (nxt f) r x := by
  intro d
  induction d with
  | zero =>
    intro x hx hd
    cases e : f' x with
    | none => exact ⟨x, hx, e, Cl.rf⟩
    | some a =>
      have := lev_up hU hR (hM.2 a x ((hM.1 a x).mpr e))
      omega
  | succ d ih =>
    intro x hx hd
    cases e : f' x with
    | none => exact ⟨x, hx, e, Cl.rf⟩
    | some a =>
      have e' := (hM.1 a x).mpr e
      have h1 := hM.2 a x e'
      have := lev_up hU hR h1
      obtain ⟨r, r1, r2, r3⟩ := ih a (hR a x h1).1 (by omega)
      exact ⟨r, r1, r2, r3.step e'⟩
/-- chains' numbers -/
def isChain (n : Nat) (f f' : Nat → Option Nat) (c : Nat → Nat) : Prop := ∀ r x, r < n → f' r = none → Cl (nxt f) r x → c x = cnt r (fun j => (f' j).isNone)
theorem chain_unique (hU : SPO U) (hR : Rg n n U) (hM : IsM U f f') {c d : Nat → Nat} (hc : isChain n f f' c) (hd : isChain n f f' d) {x : Nat} (hx : x < n) : c x = d x := by
  obtain ⟨r, r1, r2, r3⟩ := root_ex hU hR hM _ x hx (Nat.le_refl _)
  rw [hc r x r1 r2 r3, hd r x r1 r2 r3]
end LEVEL
