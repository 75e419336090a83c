theorem shr_nat {v s : Nat} (hv : v < 2 ^ 31) (hs : s < 17) : nI v >>> (nI s &&& 31) = nI (v / 2 ^ s) := by
  refine t3_inj ?_
  have h31 : ∀ s, s < 17 → ((nI s &&& 31 : Int32).toBitVec.smod 32).toNat = s := by decide
  have e1 : t3 (nI v >>> (nI s &&& 31)) = ((nI v).toBitVec.sshiftRight' ((nI s &&& 31 : Int32).toBitVec.smod 32)).toNat := rfl
  have hq : v / 2 ^ s ≤ v := Nat.div_le_self _ _
  rw [e1, t3_nI (by omega), BitVec.sshiftRight', h31 s hs, BitVec.sshiftRight_eq_of_msb_false, BitVec.toNat_ushiftRight, show (nI v).toBitVec.toNat = v from t3_nI (by omega), Nat.shiftRight_eq_div_pow]
  rw [BitVec.msb_eq_decide, show (nI v).toBitVec.toNat = v from t3_nI (by omega)]
  exact decide_eq_false (by omega)
theorem nI_and1 {v : Nat} (hv : v < 2 ^ 31) : nI v &&& 1 = nI (v % 2) := by
  refine t3_inj ?_
  rw [t3_and, t3_nI (by omega), t3_nI (by omega), show t3 1 = 1 from rfl, Nat.and_one_is_mod]
theorem bit_sh {k r : Nat} (hk : k < 65536) (hr : r < 16) : ((nI k >>> (nI r &&& 31)) &&& 1) = 0 ↔ k.testBit r = false := by
  have hq : k / 2 ^ r ≤ k := Nat.div_le_self _ _
  rw [shr_nat (by omega) (by omega), nI_and1 (by omega), ← nI_0, nI_eq (by omega) (by omega), Nat.testBit_eq_decide_div_mod_eq]
  constructor
  · intro e; exact decide_eq_false (by omega)
  · intro e
    have := of_decide_eq_false e
    omega
theorem lg_le {w : Nat} (hw : w < 2 ^ 63) : lg_cmp (c64 w) 0 ≤ 0 ↔ w = 0 := by
  have e : (c64 w).toInt = w := by
    show (Int64.ofNat w).toInt = w
    rw [Int64.toInt_ofNat_of_lt (by omega)]
  constructor
  · intro h
    unfold lg_cmp at h
    split at h
    · exact absurd h (by decide)
    · next q =>
      have q2 : ¬ (0 : Int64) < c64 w := q
      rw [Int64.lt_iff_toInt_lt, e, show (0 : Int64).toInt = 0 from rfl] at q2
      omega
  · intro h
    subst h
    decide
variable {G : GG} {h h' : PH} {y n : Nat} {sz : Nat → Nat} {E U : Nat → Nat → Bool}
theorem m_bits {x : Nat} (hx : x < 65536) : Ev G m_X6_bits [.int (nI x)] h 0 0 (Ret (some (.int (nI (pc x)))) h) := by
  refine Ev.of pn_X6_bits (Nat.le_of_ble_eq_true rfl) ?_
  refine s_X6_bits_0 ?_
  have loop : ∀ d c, c + d = 16 → RR G (hN h + 0) (hS h + 0) m_X6_bits 4 [some (.int (nI x)), some (.int (nI (cnt c (fun k => x.testBit k)))), some (.int (nI (x / 2 ^ c)))] [] h (fun v h' => Ret (some (.int (nI (pc x)))) h v h' ∧ hN h' = hN h + 0 ∧ hS h' = hS h + 0) := by
    have done : ∀ c, c ≤ 16 → x / 2 ^ c = 0 → cnt c (fun k => x.testBit k) = pc x := by
      intro c hc e
      refine (cnt_cut (n := 16) (m := c) hc (fun i h1 _ => ?_)).symm
      have : x < 2 ^ c := by
        rcases Nat.lt_or_ge x (2 ^ c) with q | q
        · exact q
        · have := Nat.div_pos q (Nat.two_pow_pos c); omega
      exact bit_big this h1
    intro d
    induction d with
    | zero =>
      intro c e
      have e : c = 16 := by omega
      subst e
      have e0 : x / 2 ^ 16 = 0 := Nat.div_eq_of_lt hx
      refine s_X6_bits_4 (fun _ => ?_) (fun z => (z (by rw [e0]; decide)).elim)
      rw [done 16 (Nat.le_refl _) e0]; exact Zok
    | succ d ih =>
      intro c e
      have hq : x / 2 ^ c ≤ x := Nat.div_le_self _ _
      refine s_X6_bits_4 (fun z => ?_) (fun _ => ?_)
      · rw [← nI_0] at z
        have := (nI_leI (by omega) (by omega)).1 z
        rw [done c (by omega) (Nat.le_zero.1 this)]; exact Zok
      · have a := ih (c + 1) (by omega)
        have e1 : nI (x / 2 ^ c) >>> (1 &&& 31) = nI (x / 2 ^ (c + 1)) := by
          have := shr_nat (v := x / 2 ^ c) (s := 1) (by omega) (by decide)
          rw [show (1 : Int32) = nI 1 by decide, this, Nat.div_div_eq_div_mul, ← Nat.pow_add]
        have e2 : nI (cnt c (fun k => x.testBit k)) + (nI (x / 2 ^ c) &&& 1) = nI (cnt (c + 1) (fun k => x.testBit k)) := by
          rw [nI_and1 (by omega), cnt_s, ← nI_add]
          congr 2
          rw [Nat.testBit_eq_decide_div_mod_eq]
          rcases (by omega : x / 2 ^ c % 2 = 0 ∨ x / 2 ^ c % 2 = 1) with q | q
          · rw [q]; rfl
          · rw [q]; rfl
        rw [e1, e2]; exact a
  have := loop 16 0 (by omega)
  rw [Nat.pow_zero, Nat.div_one] at this
  exact this
def AR (h : PH) (y m : Nat) (F : Nat → Nat) : Prop := ∀ z, z < 2 ^ m → hJ h (y + 10) z = c64 (F z)
theorem AR.congr {m : Nat} {F F' : Nat → Nat} (a : AR h y m F) (he : ∀ z, z < 2 ^ m → F z = F' z) : AR h y m F' := fun z hz => by rw [a z hz, he z hz]
