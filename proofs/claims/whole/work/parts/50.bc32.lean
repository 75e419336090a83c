def t3 (x : Int32) : Nat := x.toBitVec.toNat
theorem t3_lt (x : Int32) : t3 x < 4294967296 := x.toBitVec.isLt
theorem t3_inj {x z : Int32} (h : t3 x = t3 z) : x = z := Int32.toBitVec_inj.1 (BitVec.eq_of_toNat_eq h)
theorem t3_nI {n : Nat} (h : n < 4294967296) : t3 (nI n) = n := by
  show (BitVec.ofNat 32 n).toNat = n
  rw [BitVec.toNat_ofNat]; exact Nat.mod_eq_of_lt h
theorem nI_t3 (x : Int32) : x = nI (t3 x) := t3_inj (by rw [t3_nI (t3_lt x)])
theorem t3_and (x z : Int32) : t3 (x &&& z) = t3 x &&& t3 z := by
  unfold t3; rw [Int32.toBitVec_and, BitVec.toNat_and]
theorem t3_or (x z : Int32) : t3 (x ||| z) = t3 x ||| t3 z := by
  unfold t3; rw [Int32.toBitVec_or, BitVec.toNat_or]
theorem t3_xor (x z : Int32) : t3 (x ^^^ z) = t3 x ^^^ t3 z := by
  unfold t3; rw [Int32.toBitVec_xor, BitVec.toNat_xor]
theorem t3_add (x z : Int32) : t3 (x + z) = (t3 x + t3 z) % 4294967296 := by
  unfold t3; rw [Int32.toBitVec_add, BitVec.toNat_add]
theorem t3_sub (x z : Int32) (h : t3 z ≤ t3 x) : t3 (x - z) = t3 x - t3 z := by
  have h1 := t3_lt x
  unfold t3 at *
  rw [Int32.toBitVec_sub, BitVec.toNat_sub]
  omega
theorem t3_ushr (w : Int32) (s : UInt32) {j : Nat} (hj : j < 32) (hs : s.toNat = j) : t3 (w.toUInt32 >>> s).toInt32 = t3 w / 2 ^ j := by
  show (w.toUInt32 >>> s).toNat = _
  rw [UInt32.toNat_shiftRight, hs, Nat.mod_eq_of_lt hj, Nat.shiftRight_eq_div_pow]
  rfl
theorem us3 (x : Int32) (n : Int32) (k : Nat) (hk : k < 32) (hn : (Int32.toUInt32 n &&& Int32.toUInt32 31).toNat = k) : t3 (Int32.toUInt32 x >>> (Int32.toUInt32 n &&& Int32.toUInt32 31)).toInt32 = t3 x / 2 ^ k := t3_ushr x _ hk hn
theorem fin4 {w : Nat} (h : dl 256 8 4 w) : w + w / 256 < 4294967296 ∧ (w + w / 256) + (w + w / 256) / 65536 < 4294967296 ∧ ((w + w / 256) + (w + w / 256) / 65536) % 64 = d256 4 w := by
  obtain ⟨b0, b1, b2, b3, hz⟩ := h
  have g0 := dvm w
  have g1 := dvm (w / 256)
  have g2 := dvm (w / 256 / 256)
  have g3 := dvm (w / 256 / 256 / 256)
  have hz : w / 256 / 256 / 256 / 256 = 0 := hz
  rw [hz] at g3
  have md : d256 4 w = w % 256 + (w / 256 % 256) + (w / 256 / 256 % 256) + (w / 256 / 256 / 256 % 256) := by
    simp only [d256, Nat.add_zero, Nat.add_assoc]
  rw [md, fq1 g0 g1 g2 b0 b1 b2]
  clear md
  generalize w / 256 = w1 at *
  generalize w1 / 256 = w2 at *
  generalize w2 / 256 = w3 at *
  generalize w % 256 = c0 at *
  generalize w1 % 256 = c1 at *
  generalize w2 % 256 = c2 at *
  generalize w3 % 256 = c3 at *
  have m2 : w2 ≤ 2056 := by omega
  have m1 : w1 ≤ 526344 := by omega
  refine ⟨by omega, by omega, ?_⟩
  have e : w + w1 + (w2 + w3) = (c0 + c1 + c2 + c3) + 64 * (4 * (w1 + w2 + w3)) := by omega
  rw [e, Nat.add_mul_mod_self_left]
  exact Nat.mod_eq_of_lt (by omega)
set_option maxHeartbeats 4000000 in
theorem ev_bc32 {G : GG} {h : PH} (x : Int32) : Ev G m_J6_bitCount_0f7a4 [.int x] h 0 0 (Ret (some (.int (nI (cnt 32 (fun k => (t3 x).testBit k))))) h) := by
  refine Ev.of pn_J6_bitCount_0f7a4 (Nat.le_of_ble_eq_true rfl) ?_
  have hx := t3_lt x
  obtain ⟨a1, a2, a3⟩ := stA 16 (t3 x) (by omega)
  rw [show M5 16 = 1431655765 by decide] at a1 a2 a3
  have eA : t3 (x - (((Int32.toUInt32 x >>> (Int32.toUInt32 1 &&& Int32.toUInt32 31)).toInt32) &&& 1431655765)) = t3 x - (t3 x / 2 &&& 1431655765) := by
    have e1 : t3 (((Int32.toUInt32 x >>> (Int32.toUInt32 1 &&& Int32.toUInt32 31)).toInt32) &&& 1431655765) = t3 x / 2 &&& 1431655765 := by
      rw [t3_and, us3 x 1 1 (by decide) (by decide), show t3 1431655765 = 1431655765 by decide]
    rw [t3_sub _ _ (by rw [e1]; exact a1), e1]
  refine s_J6_bitCount_0f7a4_0 ?_
  rw [← eA] at a2 a3
  generalize (x - (((Int32.toUInt32 x >>> (Int32.toUInt32 1 &&& Int32.toUInt32 31)).toInt32) &&& 1431655765)) = A at *
  obtain ⟨b1, b2⟩ := stB 8 (t3 A) a3
  rw [show M3 8 = 858993459 by decide] at b1 b2
  have eB : t3 ((A &&& 858993459) + (((Int32.toUInt32 A >>> (Int32.toUInt32 2 &&& Int32.toUInt32 31)).toInt32) &&& 858993459)) = (t3 A &&& 858993459) + (t3 A / 4 &&& 858993459) := by
    have q1 : (t3 A &&& 858993459) ≤ 858993459 := Nat.and_le_right
    have q2 : (t3 A / 4 &&& 858993459) ≤ 858993459 := Nat.and_le_right
    rw [t3_add, t3_and, t3_and, us3 A 2 2 (by decide) (by decide), show t3 858993459 = 858993459 by decide, show (2 : Nat) ^ 2 = 4 by decide]
    omega
  refine s_J6_bitCount_0f7a4_10 ?_
  rw [← eB] at b1 b2
  generalize ((A &&& 858993459) + (((Int32.toUInt32 A >>> (Int32.toUInt32 2 &&& Int32.toUInt32 31)).toInt32) &&& 858993459)) = B at *
  obtain ⟨c1, c2⟩ := stC 4 (t3 B) b2
  rw [show MF 4 = 252645135 by decide] at c1 c2
  have hB := dl16 8 (t3 B) b2
  have eC : t3 ((B + (Int32.toUInt32 B >>> (Int32.toUInt32 4 &&& Int32.toUInt32 31)).toInt32) &&& 252645135) = (t3 B + t3 B / 16) &&& 252645135 := by
    rw [t3_and, t3_add, us3 B 4 4 (by decide) (by decide), show t3 252645135 = 252645135 by decide, show (2 : Nat) ^ 4 = 16 by decide]
    have e0 : (t3 B + t3 B / 16) % 4294967296 = t3 B + t3 B / 16 := Nat.mod_eq_of_lt (by omega)
    rw [e0]
  refine s_J6_bitCount_0f7a4_24 ?_
  rw [← eC] at c1 c2
  generalize ((B + (Int32.toUInt32 B >>> (Int32.toUInt32 4 &&& Int32.toUInt32 31)).toInt32) &&& 252645135) = C at *
  obtain ⟨f1, f2, f4⟩ := fin4 c2
  refine s_J6_bitCount_0f7a4_34 ?_
  have e1 : t3 (C + (Int32.toUInt32 C >>> (Int32.toUInt32 8 &&& Int32.toUInt32 31)).toInt32) = t3 C + t3 C / 256 := by
    rw [t3_add, us3 C 8 8 (by decide) (by decide), show (2 : Nat) ^ 8 = 256 by decide]; omega
  rw [← e1] at f2 f4
  generalize (C + (Int32.toUInt32 C >>> (Int32.toUInt32 8 &&& Int32.toUInt32 31)).toInt32) = D1 at *
  refine s_J6_bitCount_0f7a4_41 ?_
  have e2 : t3 (D1 + (Int32.toUInt32 D1 >>> (Int32.toUInt32 16 &&& Int32.toUInt32 31)).toInt32) = t3 D1 + t3 D1 / 65536 := by
    rw [t3_add, us3 D1 16 16 (by decide) (by decide), show (2 : Nat) ^ 16 = 65536 by decide]; omega
  rw [← e2] at f4
  generalize (D1 + (Int32.toUInt32 D1 >>> (Int32.toUInt32 16 &&& Int32.toUInt32 31)).toInt32) = D2 at *
  refine s_J6_bitCount_0f7a4_48 ?_
  rw [pk_and D2 (m := 63) 6 (by decide), show (2 : Nat) ^ 6 = 64 by decide, show D2.toBitVec.toNat = t3 D2 from rfl, f4, c1, b1, a2, p2_cnt]
  exact Zok
/-- how many bits a number below 2^16 has -/
def pc (x : Nat) : Nat := cnt 16 (fun k => x.testBit k)
theorem bit_big {x k K : Nat} (h : x < 2 ^ K) (hk : K ≤ k) : x.testBit k = false :=
  Nat.testBit_lt_two_pow (Nat.lt_of_lt_of_le h (Nat.pow_le_pow_right (by decide) hk))
theorem ev_pc {G : GG} {h : PH} {x : Nat} (hx : x < 65536) : Ev G m_J6_bitCount_0f7a4 [.int (nI x)] h 0 0 (Ret (some (.int (nI (pc x)))) h) := by
  have e := ev_bc32 (G := G) (h := h) (nI x)
  rw [t3_nI (by omega), cnt_cut (n := 32) (m := 16) (by decide) (fun i h1 _ => bit_big (K := 16) hx h1)] at e
  exact e
theorem nI_or {x z : Nat} (hx : x < 2 ^ 31) (hz : z < 2 ^ 31) : nI x ||| nI z = nI (x ||| z) := by
  refine t3_inj ?_
  have := Nat.or_lt_two_pow hx hz
  rw [t3_or, t3_nI (by omega), t3_nI (by omega), t3_nI (by omega)]
theorem pow_lt31 {c : Nat} (h : c ≤ 16) : 2 ^ c ≤ 65536 := Nat.pow_le_pow_right (by decide) h
theorem shl_1 : ∀ c, c < 17 → (1 <<< (nI c &&& 31) : Int32) = nI (2 ^ c) := by decide
theorem shl_d : ∀ c, c < 17 → nI (2 ^ c) <<< (1 &&& 31) = nI (2 ^ (c + 1)) := by decide
theorem nat_bit (c j : Nat) : (2 ^ c).testBit j = decide (j = c) := by
  rw [Nat.testBit_two_pow]; exact decide_eq_decide.2 ⟨fun e => e.symm, fun e => e.symm⟩
theorem free_bit {w x : Nat} {c : Nat} (hc : c < 16) (hx : x < 4294967296) (hw : w < 4294967296) : ((nI w &&& (nI x ^^^ (-1))) &&& nI (2 ^ c)) = 0 ↔ ¬ (w.testBit c = true ∧ x.testBit c = false) := by
  have hp := pow_lt31 (c := c) (by omega)
  have e : t3 ((nI w &&& (nI x ^^^ (-1))) &&& nI (2 ^ c)) = (w &&& (x ^^^ 4294967295)) &&& 2 ^ c := by
    rw [t3_and, t3_and, t3_xor, t3_nI (by omega), t3_nI (by omega), t3_nI (by omega)]; rfl
  have hb : ∀ j, ((w &&& (x ^^^ 4294967295)) &&& 2 ^ c).testBit j = ((w.testBit c && !x.testBit c) && decide (j = c)) := by
    intro j
    rw [Nat.testBit_and, Nat.testBit_and, Nat.testBit_xor, nat_bit]
    by_cases q : j = c
    · subst q
      have : (4294967295 : Nat).testBit j = true := by
        rw [show (4294967295 : Nat) = 2 ^ 32 - 1 by decide, Nat.testBit_two_pow_sub_one]
        exact decide_eq_true (by omega)
      rw [this]; simp
    · rw [decide_eq_false q]; simp
  constructor
  · intro h hn
    have : t3 ((nI w &&& (nI x ^^^ (-1))) &&& nI (2 ^ c)) = 0 := by rw [h]; rfl
    rw [e] at this
    have h2 := hb c
    rw [this, hn.1, hn.2] at h2
    simp at h2
  · intro h
    refine t3_inj ?_
    rw [e, show t3 0 = 0 from rfl]
    refine Nat.eq_of_testBit_eq (fun j => ?_)
    rw [hb, Nat.zero_testBit]
    cases h1 : w.testBit c
    · rfl
    · cases h2 : x.testBit c
      · exact (h ⟨h1, h2⟩).elim
      · rfl
theorem or_bit {x c : Nat} (j : Nat) : (x ||| 2 ^ c).testBit j = adU (fun k => x.testBit k) c j := by
  rw [Nat.testBit_or, nat_bit]; rfl
theorem or_gt {x c : Nat} (h : x.testBit c = false) : x < x ||| 2 ^ c := by
  rcases Nat.lt_or_ge x (x ||| 2 ^ c) with q | q
  · exact q
  · have h1 : x ≤ x ||| 2 ^ c := Nat.left_le_or
    have : x = x ||| 2 ^ c := by omega
    have h2 := or_bit (x := x) (c := c) c
    rw [← this, h] at h2
    unfold adU at h2
    rw [decide_eq_true rfl, Bool.or_true] at h2; cases h2
theorem or_lt {x c K : Nat} (hx : x < 2 ^ K) (hc : c < K) : x ||| 2 ^ c < 2 ^ K := Nat.or_lt_two_pow hx (Nat.pow_lt_pow_right (by decide) hc)
theorem pc_or {x c : Nat} (hc : c < 16) (h : x.testBit c = false) : pc (x ||| 2 ^ c) = pc x + 1 := by
  unfold pc
  rw [cnt_off (k := c) hc (by rw [or_bit]; unfold adU; rw [decide_eq_true rfl, Bool.or_true])]
  congr 1
  refine cnt_congr (fun i _ => ?_)
  rw [or_bit]
  unfold adU
  by_cases q : i = c
  · subst q; rw [h, decide_eq_true rfl]; simp
  · rw [decide_eq_false q]; simp
