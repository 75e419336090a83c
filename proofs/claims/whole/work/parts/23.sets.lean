section SETS
/-- the long whose bits are the members -/
def ofBn (p : Nat → Bool) : Nat → Int64
  | 0 => 0
  | n + 1 => if p n then ofBn p n ||| (1 <<< ((nI n).toInt64 &&& 63)) else ofBn p n
theorem bt_ofBn (p : Nat → Bool) (n : Nat) (hn : n ≤ 64) (k : Nat) : bt (ofBn p n) k = (decide (k < n) && p k) := by
  induction n with
  | zero => simp [ofBn, bt_zero]
  | succ n ih =>
    unfold ofBn
    by_cases hp : p n = true
    · rw [if_pos hp, bt_or, ih (by omega), bt_bit (by omega)]
      by_cases e : k = n
      · subst e; simp [hp]
      · by_cases h1 : k < n
        · simp [h1, e]; omega
        · have : ¬ k < n + 1 := by omega
          simp [h1, this, e]
    · rw [if_neg hp, ih (by omega)]
      by_cases e : k = n
      · subst e; simp at hp; simp [hp]
      · by_cases h1 : k < n
        · have : k < n + 1 := by omega
          simp [h1, this]
        · have : ¬ k < n + 1 := by omega
          simp [h1, this]
noncomputable def ofP (P : Nat → Prop) : Int64 := ofBn (fun k => @decide (P k) (Classical.propDecidable _)) 64
theorem bt_ofP {P : Nat → Prop} {k : Nat} : bt (ofP P) k = true ↔ k < 64 ∧ P k := by
  unfold ofP
  rw [bt_ofBn _ _ (by omega)]
  simp
theorem eq_ofP {x : Int64} {P : Nat → Prop} (h : ∀ k, k < 64 → (bt x k = true ↔ P k)) : x = ofP P := by
  apply bt_ext
  intro k hk
  have h1 := h k hk
  have h2 := bt_ofP (P := P) (k := k)
  cases e1 : bt x k <;> cases e2 : bt (ofP P) k
  · rfl
  · rw [e1] at h1
    exact absurd (h1.mpr (h2.mp e2).2) (by decide)
  · rw [e1] at h1
    rw [e2] at h2
    exact absurd (h2.mpr ⟨hk, h1.mp rfl⟩) (by decide)
  · rfl
/-- a set that isn't empty has a least member -/
theorem bt_least {x : Int64} (h : x ≠ 0) : ∃ k, k < 64 ∧ bt x k = true ∧ ∀ j, j < k → bt x j = false := by
  have h1 : ∃ k, bt x k = true := by
    apply Classical.byContradiction
    intro hn
    apply h
    apply bt_ext
    intro k hk
    rw [bt_zero]
    cases e : bt x k with
    | false => rfl
    | true => exact absurd ⟨k, e⟩ hn
  obtain ⟨k, h2, h3⟩ := pk_least (fun k => bt x k = true) h1
  refine ⟨k, ?_, h2, fun j hj => ?_⟩
  · rcases Nat.lt_or_ge k 64 with q | q
    · exact q
    · rw [bt_big q] at h2; cases h2
  · cases e : bt x j with
    | false => rfl
    | true => exact absurd e (h3 j hj)
theorem cnt_pos {n : Nat} {p : Nat → Bool} : 0 < cnt n p ↔ ∃ i, i < n ∧ p i = true := by
  induction n with
  | zero => simp [cnt]
  | succ n ih =>
    rw [cnt]
    constructor
    · intro h
      by_cases hp : p n = true
      · exact ⟨n, by omega, hp⟩
      · rw [if_neg hp] at h
        obtain ⟨i, h1, h2⟩ := ih.mp (by omega)
        exact ⟨i, by omega, h2⟩
    · rintro ⟨i, h1, h2⟩
      rcases Nat.lt_or_ge i n with q | q
      · have := ih.mpr ⟨i, q, h2⟩; omega
      · have e : i = n := by omega
        subst e; rw [if_pos h2]; omega
theorem cnt_off {n k : Nat} {p : Nat → Bool} (hk : k < n) (hp : p k = true) : cnt n p = cnt n (fun j => p j && !decide (j = k)) + 1 := by
  induction n with
  | zero => omega
  | succ n ih =>
    rw [cnt, cnt]
    rcases Nat.lt_or_ge k n with q | q
    · rw [ih q]
      have : ¬ n = k := by omega
      simp [this]; omega
    · have e : k = n := by omega
      subst e
      have : cnt k p = cnt k (fun j => p j && !decide (j = k)) := cnt_congr (fun i hi => by
        have : ¬ i = k := by omega
        simp [this])
      rw [← this]; simp [hp]
theorem cnt_le (n : Nat) (p : Nat → Bool) : cnt n p ≤ n := by
  induction n with
  | zero => exact Nat.le_refl _
  | succ n ih => rw [cnt]; split <;> omega
theorem cnt_mono {n : Nat} {p q : Nat → Bool} (h : ∀ i, p i = true → q i = true) : cnt n p ≤ cnt n q := by
  induction n with
  | zero => exact Nat.le_refl _
  | succ n ih =>
    rw [cnt, cnt]
    by_cases hp : p n = true
    · rw [if_pos hp, if_pos (h n hp)]; omega
    · rw [if_neg hp]; split <;> omega
theorem cnt_zero {n : Nat} {p : Nat → Bool} : cnt n p = 0 ↔ ∀ i, i < n → p i = false := by
  constructor
  · intro h i hi
    cases e : p i with
    | false => rfl
    | true => have := cnt_pos.mpr ⟨i, hi, e⟩; omega
  · intro h
    cases e : cnt n p with
    | zero => rfl
    | succ k =>
      obtain ⟨i, h1, h2⟩ := cnt_pos.mp (show 0 < cnt n p by omega)
      rw [h i h1] at h2; cases h2
end SETS
