section BITS
/-- bit k of a long -/
def bt (x : Int64) (k : Nat) : Bool := x.toBitVec.getLsbD k
def tn (x : Int64) : Nat := x.toBitVec.toNat
theorem tn_lt (x : Int64) : tn x < 18446744073709551616 := x.toBitVec.isLt
theorem tn_inj {x z : Int64} (h : tn x = tn z) : x = z := Int64.toBitVec_inj.mp (BitVec.eq_of_toNat_eq h)
theorem bt_tn (x : Int64) (k : Nat) : bt x k = (tn x).testBit k := rfl
theorem bt_big {x : Int64} {k : Nat} (h : 64 ≤ k) : bt x k = false := BitVec.getLsbD_of_ge _ _ h
theorem bt_ext {x z : Int64} (h : ∀ k, k < 64 → bt x k = bt z k) : x = z := Int64.toBitVec_inj.mp (BitVec.eq_of_getLsbD_eq (fun k hk => h k hk))
theorem bt_and (x z : Int64) (k : Nat) : bt (x &&& z) k = (bt x k && bt z k) := by simp [bt]
theorem bt_or (x z : Int64) (k : Nat) : bt (x ||| z) k = (bt x k || bt z k) := by simp [bt]
theorem bt_xor (x z : Int64) (k : Nat) : bt (x ^^^ z) k = (bt x k ^^ bt z k) := by simp [bt]
theorem bt_zero (k : Nat) : bt 0 k = false := by simp [bt]
theorem bt_m1 {k : Nat} (h : k < 64) : bt (-1) k = true := by
  have e : (-1 : Int64).toBitVec = BitVec.allOnes 64 := by decide
  unfold bt
  rw [e, BitVec.getLsbD_allOnes]
  exact decide_eq_true h
theorem bt_not (x : Int64) (k : Nat) : bt (x ^^^ (-1)) k = (!bt x k && decide (k < 64)) := by
  rw [bt_xor]
  by_cases h : k < 64
  · rw [bt_m1 h]; simp [h]
  · rw [bt_big (by omega), bt_big (by omega)]; simp [h]
theorem ush_n : ∀ k : Nat, k < 64 → ((nI k).toInt64.toUInt64 &&& Int64.toUInt64 63).toNat = k := by decide +kernel
theorem shl_n : ∀ k : Nat, k < 64 → (((nI k).toInt64 &&& 63).toBitVec.smod 64).toNat = k := by decide +kernel
theorem bt_shl {k : Nat} (hk : k < 64) (x : Int64) (j : Nat) : bt (x <<< ((nI k).toInt64 &&& 63)) j = (decide (j < 64) && !decide (j < k) && bt x (j - k)) := by
  unfold bt
  rw [Int64.toBitVec_shiftLeft]
  rw [BitVec.shiftLeft_eq', BitVec.getLsbD_shiftLeft]
  rw [shl_n k hk]
theorem bt_one (k : Nat) : bt 1 k = decide (k = 0) := by
  rw [bt_tn]
  have e : tn 1 = 1 := by decide
  rw [e]
  cases k with
  | zero => rfl
  | succ k => simp [Nat.testBit_succ]
theorem bt_bit {k : Nat} (hk : k < 64) (j : Nat) : bt (1 <<< ((nI k).toInt64 &&& 63)) j = decide (j = k) := by
  rw [bt_shl hk, bt_one]
  by_cases h1 : j = k
  · subst h1; simp [hk]
  · by_cases h2 : j < k
    · simp [h1, h2]
    · have : ¬ j - k = 0 := by omega
      simp [h1, this]
theorem tn_ushr (w : Int64) (s : UInt64) {j : Nat} (hj : j < 64) (hs : s.toNat = j) : tn (w.toUInt64 >>> s).toInt64 = tn w / 2 ^ j := by
  show (w.toUInt64 >>> s).toNat = _
  rw [UInt64.toNat_shiftRight, hs, Nat.mod_eq_of_lt hj, Nat.shiftRight_eq_div_pow]
  rfl
theorem tn_and (x z : Int64) : tn (x &&& z) = tn x &&& tn z := by
  unfold tn
  rw [Int64.toBitVec_and, BitVec.toNat_and]
theorem tn_add (x z : Int64) : tn (x + z) = (tn x + tn z) % 18446744073709551616 := by
  unfold tn
  rw [Int64.toBitVec_add, BitVec.toNat_add]
theorem tn_sub (x z : Int64) (h : tn z ≤ tn x) : tn (x - z) = tn x - tn z := by
  have h1 := tn_lt x
  unfold tn at *
  rw [Int64.toBitVec_sub, BitVec.toNat_sub]
  omega
theorem bt_has {x : Int64} {k : Nat} (hk : k < 64) : ((x.toUInt64 >>> ((nI k).toInt64.toUInt64 &&& Int64.toUInt64 63)).toInt64 &&& 1) = 0 ↔ bt x k = false := by
  have e : tn ((x.toUInt64 >>> ((nI k).toInt64.toUInt64 &&& Int64.toUInt64 63)).toInt64 &&& 1) = tn x / 2 ^ k % 2 := by
    rw [tn_and, tn_ushr x _ hk (ush_n k hk), show tn 1 = 1 by decide, Nat.and_one_is_mod]
  rw [bt_tn, Nat.testBit_eq_decide_div_mod_eq, decide_eq_false_iff_not]
  constructor
  · intro h
    rw [h, show tn 0 = 0 by decide] at e
    omega
  · intro h
    apply tn_inj
    rw [e, show tn 0 = 0 by decide]
    omega
/-- how many i < n have p -/
def cnt : Nat → (Nat → Bool) → Nat
  | 0, _ => 0
  | n + 1, p => cnt n p + if p n then 1 else 0
theorem cnt_low (n : Nat) (p : Nat → Bool) : cnt (n + 1) p = (if p 0 then 1 else 0) + cnt n (fun k => p (k + 1)) := by
  induction n with
  | zero => simp [cnt]
  | succ n ih => rw [cnt, ih, cnt]; omega
/-- sums of digits -/
def p2 : Nat → Nat → Nat
  | 0, _ => 0
  | n + 1, x => x % 2 + p2 n (x / 2)
theorem p2_cnt (n : Nat) : ∀ x, p2 n x = cnt n (fun k => x.testBit k) := by
  induction n with
  | zero => intro x; rfl
  | succ n ih =>
    intro x
    rw [p2, ih, cnt_low]
    have e1 : (fun k => (x / 2).testBit k) = (fun k => x.testBit (k + 1)) := by
      funext k; rw [Nat.testBit_succ]
    rw [e1]
    have e2 : x % 2 = if x.testBit 0 then 1 else 0 := by
      rw [Nat.testBit_zero]
      rcases Nat.mod_two_eq_zero_or_one x with h | h <;> simp [h]
    rw [e2]
def M5 : Nat → Nat
  | 0 => 0
  | n + 1 => 4 * M5 n + 1
def M3 : Nat → Nat
  | 0 => 0
  | n + 1 => 16 * M3 n + 3
def MF : Nat → Nat
  | 0 => 0
  | n + 1 => 256 * MF n + 15
def d4 : Nat → Nat → Nat
  | 0, _ => 0
  | n + 1, x => x % 4 + d4 n (x / 4)
def d16 : Nat → Nat → Nat
  | 0, _ => 0
  | n + 1, x => x % 16 + d16 n (x / 16)
def d256 : Nat → Nat → Nat
  | 0, _ => 0
  | n + 1, x => x % 256 + d256 n (x / 256)
/-- all digits at most c -/
def dl (b c : Nat) : Nat → Nat → Prop
  | 0, x => x = 0
  | n + 1, x => x % b ≤ c ∧ dl b c n (x / b)
theorem and_split (k a b : Nat) : a &&& b = 2 ^ k * (a / 2 ^ k &&& b / 2 ^ k) + (a % 2 ^ k &&& b % 2 ^ k) := by
  rw [← Nat.and_div_two_pow, ← Nat.and_mod_two_pow]
  exact (Nat.div_add_mod _ _).symm
theorem stA (n : Nat) : ∀ x, x < 4 ^ n → (x / 2 &&& M5 n) ≤ x ∧ d4 n (x - (x / 2 &&& M5 n)) = p2 (2 * n) x ∧ dl 4 2 n (x - (x / 2 &&& M5 n)) := by
  induction n with
  | zero =>
    intro x hx
    have : x = 0 := by simpa using hx
    subst this
    exact ⟨by simp [M5], rfl, by simp [M5, dl]⟩
  | succ n ih =>
    intro x hx
    have hx4 : x / 4 < 4 ^ n := by rw [Nat.pow_succ] at hx; omega
    obtain ⟨i1, i2, i3⟩ := ih (x / 4) hx4
    have e : (x / 2 &&& M5 (n + 1)) = 4 * (x / 4 / 2 &&& M5 n) + x / 2 % 2 := by
      rw [and_split 2]
      have a1 : x / 2 / 2 ^ 2 = x / 4 / 2 := by omega
      have a2 : M5 (n + 1) / 2 ^ 2 = M5 n := by rw [M5]; omega
      have a3 : M5 (n + 1) % 2 ^ 2 = 1 := by rw [M5]; omega
      rw [a1, a2, a3, Nat.and_one_is_mod]
      omega
    generalize (x / 4 / 2 &&& M5 n) = A at e i1 i2 i3
    have s1 : x - (x / 2 &&& M5 (n + 1)) = 4 * (x / 4 - A) + (x % 4 - x % 4 / 2) := by rw [e]; omega
    refine ⟨by rw [e]; omega, ?_, ?_⟩
    · rw [s1, d4]
      have b1 : (4 * (x / 4 - A) + (x % 4 - x % 4 / 2)) / 4 = x / 4 - A := by omega
      have b2 : (4 * (x / 4 - A) + (x % 4 - x % 4 / 2)) % 4 = x % 4 - x % 4 / 2 := by omega
      rw [b1, b2, i2, show 2 * (n + 1) = 2 * n + 1 + 1 by omega, p2, p2, show x / 2 / 2 = x / 4 by omega]
      omega
    · rw [s1, dl]
      have b1 : (4 * (x / 4 - A) + (x % 4 - x % 4 / 2)) / 4 = x / 4 - A := by omega
      have b2 : (4 * (x / 4 - A) + (x % 4 - x % 4 / 2)) % 4 = x % 4 - x % 4 / 2 := by omega
      rw [b1, b2]
      exact ⟨by omega, i3⟩
theorem stB (n : Nat) : ∀ x, dl 4 2 (2 * n) x → d16 n ((x &&& M3 n) + (x / 4 &&& M3 n)) = d4 (2 * n) x ∧ dl 16 4 n ((x &&& M3 n) + (x / 4 &&& M3 n)) := by
  induction n with
  | zero =>
    intro x hx
    have : x = 0 := hx
    subst this
    exact ⟨rfl, by simp [M3, dl]⟩
  | succ n ih =>
    intro x hx
    rw [show 2 * (n + 1) = 2 * n + 1 + 1 by omega, dl, dl] at hx
    obtain ⟨h1, h2, h3⟩ := hx
    have e0 : x / 4 / 4 = x / 16 := by omega
    rw [e0] at h3
    obtain ⟨i1, i2⟩ := ih (x / 16) h3
    have a2 : M3 (n + 1) / 2 ^ 4 = M3 n := by rw [M3]; omega
    have a3 : M3 (n + 1) % 2 ^ 4 = 2 ^ 2 - 1 := by rw [M3]; omega
    have e1 : (x &&& M3 (n + 1)) = 16 * (x / 16 &&& M3 n) + x % 4 := by
      rw [and_split 4, a2, a3, Nat.and_two_pow_sub_one_eq_mod, show x / 2 ^ 4 = x / 16 from rfl]; omega
    have e2 : (x / 4 &&& M3 (n + 1)) = 16 * (x / 16 / 4 &&& M3 n) + x / 4 % 4 := by
      rw [and_split 4, a2, a3, Nat.and_two_pow_sub_one_eq_mod, show x / 4 / 2 ^ 4 = x / 16 / 4 by omega]; omega
    rw [e1, e2]
    generalize (x / 16 &&& M3 n) = A at *
    generalize (x / 16 / 4 &&& M3 n) = B at *
    have s1 : 16 * A + x % 4 + (16 * B + x / 4 % 4) = 16 * (A + B) + (x % 4 + x / 4 % 4) := by omega
    have b1 : (16 * (A + B) + (x % 4 + x / 4 % 4)) / 16 = A + B := by omega
    have b2 : (16 * (A + B) + (x % 4 + x / 4 % 4)) % 16 = x % 4 + x / 4 % 4 := by omega
    refine ⟨?_, ?_⟩
    · rw [s1, d16, b1, b2, i1, show 2 * (n + 1) = 2 * n + 1 + 1 by omega, d4, d4, e0]; omega
    · rw [s1, dl, b1, b2]; exact ⟨by omega, i2⟩
theorem dl_mod {b c n x : Nat} (h : dl b c n x) : x % b ≤ c := by
  cases n with
  | zero => rw [show x = 0 from h]; simp
  | succ n => exact h.1
theorem stC (n : Nat) : ∀ x, dl 16 4 (2 * n) x → d256 n ((x + x / 16) &&& MF n) = d16 (2 * n) x ∧ dl 256 8 n ((x + x / 16) &&& MF n) := by
  induction n with
  | zero =>
    intro x hx
    have : x = 0 := hx
    subst this
    exact ⟨rfl, by simp [MF, dl]⟩
  | succ n ih =>
    intro x hx
    rw [show 2 * (n + 1) = 2 * n + 1 + 1 by omega, dl, dl] at hx
    obtain ⟨h1, h2, h3⟩ := hx
    have e0 : x / 16 / 16 = x / 256 := by omega
    rw [e0] at h3
    obtain ⟨i1, i2⟩ := ih (x / 256) h3
    have h4 := dl_mod h3
    have a2 : MF (n + 1) / 2 ^ 8 = MF n := by rw [MF]; omega
    have a3 : MF (n + 1) % 2 ^ 8 = 2 ^ 4 - 1 := by rw [MF]; omega
    have e1 : ((x + x / 16) &&& MF (n + 1)) = 256 * ((x / 256 + x / 256 / 16) &&& MF n) + (x % 16 + x / 16 % 16) := by
      rw [and_split 8, a2, a3, Nat.and_two_pow_sub_one_eq_mod, show (x + x / 16) / 2 ^ 8 = x / 256 + x / 256 / 16 by omega]; omega
    rw [e1]
    generalize ((x / 256 + x / 256 / 16) &&& MF n) = A at *
    have b1 : (256 * A + (x % 16 + x / 16 % 16)) / 256 = A := by omega
    have b2 : (256 * A + (x % 16 + x / 16 % 16)) % 256 = x % 16 + x / 16 % 16 := by omega
    refine ⟨?_, ?_⟩
    · rw [d256, b1, b2, i1, show 2 * (n + 1) = 2 * n + 1 + 1 by omega, d16, d16, e0]; omega
    · rw [dl, b1, b2]; exact ⟨by omega, i2⟩
/-- a set's least member -/
theorem bt_pred {x : Int64} {k : Nat} (h1 : bt x k = true) (h2 : ∀ j, j < k → bt x j = false) (j : Nat) : bt (x - 1) j = (decide (j < k) || (bt x j && !decide (j = k))) := by
  have hk : k < 64 := by
    rcases Nat.lt_or_ge k 64 with h | h
    · exact h
    · rw [bt_big h] at h1; cases h1
  have hX : tn x = 2 ^ k * (tn x / 2 ^ k) + 0 := by
    have : tn x % 2 ^ k = 0 := by
      apply Nat.eq_of_testBit_eq
      intro i
      rw [Nat.testBit_mod_two_pow, Nat.zero_testBit]
      by_cases hi : i < k
      · have := h2 i hi; rw [bt_tn] at this; simp [this]
      · simp [hi]
    have := Nat.div_add_mod (tn x) (2 ^ k)
    omega
  have hodd : tn x / 2 ^ k % 2 = 1 := by
    rw [bt_tn, Nat.testBit_eq_decide_div_mod_eq] at h1
    simpa using h1
  generalize hQ : tn x / 2 ^ k = Q at hX hodd
  have hpos : 0 < 2 ^ k := Nat.two_pow_pos k
  have h1x : tn (1 : Int64) ≤ tn x := by
    rw [show tn 1 = 1 by decide, hX]
    have : 1 ≤ Q := by omega
    have := Nat.mul_le_mul_left (2 ^ k) this
    omega
  have hP : tn (x - 1) = 2 ^ k * (Q - 1) + (2 ^ k - 1) := by
    rw [tn_sub _ _ h1x, show tn 1 = 1 by decide, hX]
    have : 2 ^ k * Q = 2 ^ k * (Q - 1) + 2 ^ k := by
      rw [← Nat.mul_succ]; congr 1; omega
    omega
  rw [bt_tn, hP, Nat.testBit_two_pow_mul_add _ (by omega)]
  by_cases hj : j < k
  · rw [if_pos hj, Nat.testBit_two_pow_sub_one]; simp [hj]
  · rw [if_neg hj, bt_tn, hX, Nat.testBit_two_pow_mul_add _ hpos, if_neg hj]
    by_cases e : j = k
    · subst e
      simp only [Nat.sub_self, Nat.testBit_zero]
      have : (Q - 1) % 2 = 0 := by omega
      simp [this]
    · obtain ⟨i, hi⟩ : ∃ i, j - k = i + 1 := ⟨j - k - 1, by omega⟩
      rw [hi, Nat.testBit_succ, Nat.testBit_succ, show (Q - 1) / 2 = Q / 2 by omega]
      simp [hj, e]
theorem bt_neg {x : Int64} (j : Nat) : bt (-x) j = (!bt (x - 1) j && decide (j < 64)) := by
  have e : -x = (x - 1) ^^^ (-1) := by
    apply Int64.toBitVec_inj.mp
    rw [Int64.toBitVec_neg, Int64.toBitVec_xor, Int64.toBitVec_sub, show (-1 : Int64).toBitVec = BitVec.allOnes 64 by decide, show (1 : Int64).toBitVec = 1#64 by decide, BitVec.xor_allOnes, BitVec.not_sub_one_eq_not_add_one]
    rw [BitVec.neg_eq_not_add]
  rw [e, bt_not]
theorem bt_low {x : Int64} {k : Nat} (h1 : bt x k = true) (h2 : ∀ j, j < k → bt x j = false) (j : Nat) : bt (x &&& (-x)) j = decide (j = k) := by
  rw [bt_and, bt_neg, bt_pred h1 h2]
  by_cases hj : j < k
  · rw [h2 j hj]; simp; omega
  · by_cases e : j = k
    · subst e
      have hk : j < 64 := by
        rcases Nat.lt_or_ge j 64 with h | h
        · exact h
        · rw [bt_big h] at h1; cases h1
      simp [h1, hk]
    · cases hx : bt x j <;> simp [hj, e]
theorem bt_mask {x : Int64} {k : Nat} (h1 : bt x k = true) (h2 : ∀ j, j < k → bt x j = false) (j : Nat) : bt ((x &&& (-x)) - 1) j = decide (j < k) := by
  have e := bt_low h1 h2
  rw [bt_pred (x := x &&& (-x)) (k := k) (by rw [e]; simp) (fun i hi => by rw [e]; simp; omega), e]
  by_cases hj : j < k <;> by_cases ek : j = k <;> simp [hj, ek]
theorem bt_rest {x : Int64} {k : Nat} (h1 : bt x k = true) (h2 : ∀ j, j < k → bt x j = false) (j : Nat) : bt (x &&& (x - 1)) j = (bt x j && !decide (j = k)) := by
  rw [bt_and, bt_pred h1 h2]
  by_cases hj : j < k
  · rw [h2 j hj]; simp
  · cases bt x j <;> simp [hj]
theorem cnt_lt {n k : Nat} (h : k ≤ n) : cnt n (fun j => decide (j < k)) = k := by
  induction n with
  | zero => have : k = 0 := by omega
            subst this; rfl
  | succ n ih =>
    rw [cnt]
    rcases Nat.lt_or_ge n k with h1 | h1
    · have e : k = n + 1 := by omega
      subst e
      have : ∀ m, m ≤ n + 1 → cnt m (fun j => decide (j < n + 1)) = m := by
        intro m
        induction m with
        | zero => intro _; rfl
        | succ m ih2 => intro hm; rw [cnt, ih2 (by omega)]; simp; omega
      rw [this n (by omega)]; simp
    · rw [ih (by omega)]; simp; omega
theorem cnt_congr {n : Nat} {p q : Nat → Bool} (h : ∀ i, i < n → p i = q i) : cnt n p = cnt n q := by
  induction n with
  | zero => rfl
  | succ n ih => rw [cnt, cnt, ih (fun i hi => h i (by omega)), h n (by omega)]
end BITS
