section LEAF
variable {G : GG} {h : PH}
theorem Zok {v : Option Value} : (fun v' h' => Ret v h v' h' ∧ hN h' = hN h + 0 ∧ hS h' = hS h + 0) v h := ⟨⟨rfl, rfl⟩, rfl, rfl⟩
theorem ev_isOneOfTwo (x : Int32) : Ev G m_X5_isOneOfTwo [.int x] h 0 0 (Ret (some (.int (if x = 0 ∨ x = 1 then 1 else 0))) h) := by
  refine Ev.of pn_X5_isOneOfTwo (Nat.le_of_ble_eq_true rfl) ?_
  refine s_X5_isOneOfTwo_0 (fun q => ?_) (fun q1 q2 => ?_) (fun q1 q2 => ?_)
  · rw [if_pos (Or.inl q)]; exact Zok
  · rw [if_neg (by rintro (e | e); exact q1 e; exact q2 e)]; exact Zok
  · rw [if_pos (Or.inr q2)]; exact Zok
theorem lg0 {x z : Int64} : lg_cmp x z = 0 ↔ x = z := by
  unfold lg_cmp
  constructor
  · intro h
    split at h
    · cases h
    · split at h
      · assumption
      · cases h
  · intro h
    subst h
    have : ¬ x > x := by
      show ¬ x < x
      rw [Int64.lt_iff_toInt_lt]; omega
    simp [this]
theorem ev_contains (x : Int64) {k : Nat} (hk : k < 64) : Ev G m_X5_contains [.long x, .int (nI k)] h 0 0 (Ret (some (.int (if bt x k then 1 else 0))) h) := by
  refine Ev.of pn_X5_contains (Nat.le_of_ble_eq_true rfl) ?_
  refine s_X5_contains_0 (fun q => ?_) (fun q => ?_)
  · have := (bt_has hk).mp (lg0.mp q)
    rw [this]; exact Zok
  · have : bt x k = true := by
      cases e : bt x k with
      | true => rfl
      | false => exact absurd (lg0.mpr ((bt_has hk).mpr e)) q
    rw [this]; exact Zok
theorem us1 (x : Int64) (n : Int32) (k : Nat) (hk : k < 64) (hn : ((Int32.toInt64 n).toUInt64 &&& Int64.toUInt64 63).toNat = k) : tn (Int64.toUInt64 x >>> ((Int32.toInt64 n).toUInt64 &&& Int64.toUInt64 63)).toInt64 = tn x / 2 ^ k := tn_ushr x _ hk hn
theorem dl16 {c : Nat} : ∀ (n x : Nat), dl 16 c n x → 15 * x ≤ c * (16 ^ n - 1)
  | 0, x, h => by rw [show x = 0 from h]; simp
  | n + 1, x, h => by
    have ih := dl16 n (x / 16) h.2
    have h1 := h.1
    have hp : 0 < 16 ^ n := Nat.pos_of_ne_zero (by simp)
    have e : c * (16 ^ (n + 1) - 1) = 16 * (c * (16 ^ n - 1)) + 15 * c := by
      rw [Nat.pow_succ, show 16 ^ n * 16 - 1 = 16 * (16 ^ n - 1) + 15 by omega, Nat.mul_add]
      rw [Nat.mul_left_comm, Nat.mul_comm c 15]
    omega
theorem fq1 {w w1 w2 w3 c0 c1 c2 : Nat} (g0 : w = c0 + 256 * w1) (g1 : w1 = c1 + 256 * w2) (g2 : w2 = c2 + 256 * w3) (b0 : c0 ≤ 8) (b1 : c1 ≤ 8) (b2 : c2 ≤ 8) : (w + w1) / 65536 = w2 + w3 := by omega
theorem fq2 {w w1 w2 w3 w4 w5 w6 w7 c0 c1 c2 c3 c4 c5 c6 : Nat} (g0 : w = c0 + 256 * w1) (g1 : w1 = c1 + 256 * w2) (g2 : w2 = c2 + 256 * w3) (g3 : w3 = c3 + 256 * w4) (g4 : w4 = c4 + 256 * w5) (g5 : w5 = c5 + 256 * w6) (g6 : w6 = c6 + 256 * w7) (b0 : c0 ≤ 8) (b1 : c1 ≤ 8) (b2 : c2 ≤ 8) (b3 : c3 ≤ 8) (b4 : c4 ≤ 8) (b5 : c5 ≤ 8) (b6 : c6 ≤ 8) : (w + w1 + (w2 + w3)) / 4294967296 = w4 + w5 + (w6 + w7) := by
  have e : w + w1 + (w2 + w3) = ((c0 + c1 + c2 + c3) + 256 * (c1 + c2 + c3 + c4) + 65536 * (c2 + c3 + c4 + c5) + 16777216 * (c3 + c4 + c5 + c6)) + 4294967296 * (w4 + w5 + (w6 + w7)) := by omega
  rw [e, Nat.add_mul_div_left _ _ (by decide), Nat.div_eq_of_lt (by omega), Nat.zero_add]
theorem fq3 {w w1 w2 w3 w4 w5 w6 w7 c0 c1 c2 c3 c4 c5 c6 c7 : Nat} (g0 : w = c0 + 256 * w1) (g1 : w1 = c1 + 256 * w2) (g2 : w2 = c2 + 256 * w3) (g3 : w3 = c3 + 256 * w4) (g4 : w4 = c4 + 256 * w5) (g5 : w5 = c5 + 256 * w6) (g6 : w6 = c6 + 256 * w7) (g7 : w7 = c7) (b0 : c0 ≤ 8) (b1 : c1 ≤ 8) (b2 : c2 ≤ 8) (b3 : c3 ≤ 8) (b4 : c4 ≤ 8) (b5 : c5 ≤ 8) (b6 : c6 ≤ 8) (b7 : c7 ≤ 8) :
    w ≤ 578721382704613384 ∧ w1 ≤ 578721382704613384 ∧ w2 + w3 + w4 + w5 + w6 + w7 ≤ 578721382704613384 ∧ (w + w1 + (w2 + w3) + (w4 + w5 + (w6 + w7))) % 128 = c0 + c1 + c2 + c3 + c4 + c5 + c6 + c7 := by
  have m6 : w6 ≤ 2056 := by omega
  have m5 : w5 ≤ 526344 := by omega
  have m4 : w4 ≤ 134744072 := by omega
  have m3 : w3 ≤ 34494482440 := by omega
  have m2 : w2 ≤ 8830587504648 := by omega
  have m1 : w1 ≤ 2260630401189896 := by omega
  refine ⟨by omega, by omega, by omega, ?_⟩
  have e : w + w1 + (w2 + w3) + (w4 + w5 + (w6 + w7)) = (c0 + c1 + c2 + c3 + c4 + c5 + c6 + c7) + 128 * (2 * (w1 + w2 + w3 + w4 + w5 + w6 + w7)) := by omega
  rw [e, Nat.add_mul_mod_self_left]
  exact Nat.mod_eq_of_lt (by omega)
theorem dvm (w : Nat) : w = w % 256 + 256 * (w / 256) := (Nat.mod_add_div w 256).symm
theorem fin8 {w : Nat} (h : dl 256 8 8 w) : w + w / 256 < 18446744073709551616 ∧ (w + w / 256) + (w + w / 256) / 65536 < 18446744073709551616 ∧ ((w + w / 256) + (w + w / 256) / 65536) + ((w + w / 256) + (w + w / 256) / 65536) / 4294967296 < 18446744073709551616 ∧
    (((w + w / 256) + (w + w / 256) / 65536) + ((w + w / 256) + (w + w / 256) / 65536) / 4294967296) % 128 = d256 8 w := by
  obtain ⟨b0, b1, b2, b3, b4, b5, b6, b7, hz⟩ := h
  have g0 := dvm w
  have g1 := dvm (w / 256)
  have g2 := dvm (w / 256 / 256)
  have g3 := dvm (w / 256 / 256 / 256)
  have g4 := dvm (w / 256 / 256 / 256 / 256)
  have g5 := dvm (w / 256 / 256 / 256 / 256 / 256)
  have g6 := dvm (w / 256 / 256 / 256 / 256 / 256 / 256)
  have g7 := dvm (w / 256 / 256 / 256 / 256 / 256 / 256 / 256)
  have hz : w / 256 / 256 / 256 / 256 / 256 / 256 / 256 / 256 = 0 := hz
  rw [hz] at g7
  rw [fq1 g0 g1 g2 b0 b1 b2, fq2 g0 g1 g2 g3 g4 g5 g6 b0 b1 b2 b3 b4 b5 b6]
  obtain ⟨m1, m2, m3, m4⟩ := fq3 g0 g1 g2 g3 g4 g5 g6 g7 b0 b1 b2 b3 b4 b5 b6 b7
  have md : d256 8 w = w % 256 + (w / 256 % 256) + (w / 256 / 256 % 256) + (w / 256 / 256 / 256 % 256) + (w / 256 / 256 / 256 / 256 % 256) + (w / 256 / 256 / 256 / 256 / 256 % 256) + (w / 256 / 256 / 256 / 256 / 256 / 256 % 256) + (w / 256 / 256 / 256 / 256 / 256 / 256 / 256 % 256) := by
    simp only [d256, Nat.add_zero, Nat.add_assoc]
  rw [md]
  clear md
  generalize w / 256 = w1 at *
  generalize w1 / 256 = w2 at *
  generalize w2 / 256 = w3 at *
  generalize w3 / 256 = w4 at *
  generalize w4 / 256 = w5 at *
  generalize w5 / 256 = w6 at *
  exact ⟨by omega, by omega, by omega, m4⟩
theorem ti32 (x : Int64) : (Int64.toInt32 x &&& 127) = nI (tn x % 128) := by
  have e := pk_and (Int64.toInt32 x) (m := 127) 7 (by decide)
  rw [e]
  have e2 : (Int64.toInt32 x).toBitVec.toNat = tn x % 4294967296 := by
    rw [Int64.toBitVec_toInt32, BitVec.signExtend_eq_setWidth_of_le _ (by decide), BitVec.toNat_setWidth]
    rfl
  rw [e2, show (2 : Nat) ^ 7 = 128 by decide, show tn x % 4294967296 % 128 = tn x % 128 by omega]
set_option maxHeartbeats 4000000 in
theorem ev_bc64 (x : Int64) : Ev G m_J13_bitCount_95d88 [.long x] h 0 0 (Ret (some (.int (nI (cnt 64 (bt x))))) h) := by
  refine Ev.of pn_J13_bitCount_95d88 (Nat.le_of_ble_eq_true rfl) ?_
  have hx := tn_lt x
  obtain ⟨a1, a2, a3⟩ := stA 32 (tn x) (by omega)
  rw [show M5 32 = 6148914691236517205 by decide] at a1 a2 a3
  have eA : tn (x - (((Int64.toUInt64 x >>> ((Int32.toInt64 1).toUInt64 &&& Int64.toUInt64 63)).toInt64) &&& 6148914691236517205)) = tn x - (tn x / 2 &&& 6148914691236517205) := by
    have e1 : tn (((Int64.toUInt64 x >>> ((Int32.toInt64 1).toUInt64 &&& Int64.toUInt64 63)).toInt64) &&& 6148914691236517205) = tn x / 2 &&& 6148914691236517205 := by
      rw [tn_and, us1 x 1 1 (by decide) (by decide), show tn 6148914691236517205 = 6148914691236517205 by decide]
    rw [tn_sub _ _ (by rw [e1]; exact a1), e1]
  refine s_J13_bitCount_95d88_0 ?_
  rw [← eA] at a2 a3
  generalize (x - (((Int64.toUInt64 x >>> ((Int32.toInt64 1).toUInt64 &&& Int64.toUInt64 63)).toInt64) &&& 6148914691236517205)) = A at *
  obtain ⟨b1, b2⟩ := stB 16 (tn A) a3
  rw [show M3 16 = 3689348814741910323 by decide] at b1 b2
  have eB : tn ((A &&& 3689348814741910323) + (((Int64.toUInt64 A >>> ((Int32.toInt64 2).toUInt64 &&& Int64.toUInt64 63)).toInt64) &&& 3689348814741910323)) = (tn A &&& 3689348814741910323) + (tn A / 4 &&& 3689348814741910323) := by
    have q1 : (tn A &&& 3689348814741910323) ≤ 3689348814741910323 := Nat.and_le_right
    have q2 : (tn A / 4 &&& 3689348814741910323) ≤ 3689348814741910323 := Nat.and_le_right
    rw [tn_add, tn_and, tn_and, us1 A 2 2 (by decide) (by decide), show tn 3689348814741910323 = 3689348814741910323 by decide, show (2 : Nat) ^ 2 = 4 by decide]
    omega
  refine s_J13_bitCount_95d88_10 ?_
  rw [← eB] at b1 b2
  generalize ((A &&& 3689348814741910323) + (((Int64.toUInt64 A >>> ((Int32.toInt64 2).toUInt64 &&& Int64.toUInt64 63)).toInt64) &&& 3689348814741910323)) = B at *
  obtain ⟨c1, c2⟩ := stC 8 (tn B) b2
  rw [show MF 8 = 1085102592571150095 by decide] at c1 c2
  have hB := dl16 16 (tn B) b2
  have eC : tn ((B + (Int64.toUInt64 B >>> ((Int32.toInt64 4).toUInt64 &&& Int64.toUInt64 63)).toInt64) &&& 1085102592571150095) = (tn B + tn B / 16) &&& 1085102592571150095 := by
    rw [tn_and, tn_add, us1 B 4 4 (by decide) (by decide), show tn 1085102592571150095 = 1085102592571150095 by decide, show (2 : Nat) ^ 4 = 16 by decide]
    have e0 : (tn B + tn B / 16) % 18446744073709551616 = tn B + tn B / 16 := Nat.mod_eq_of_lt (by omega)
    rw [e0]
  refine s_J13_bitCount_95d88_24 ?_
  rw [← eC] at c1 c2
  generalize ((B + (Int64.toUInt64 B >>> ((Int32.toInt64 4).toUInt64 &&& Int64.toUInt64 63)).toInt64) &&& 1085102592571150095) = C at *
  obtain ⟨f1, f2, f3, f4⟩ := fin8 c2
  refine s_J13_bitCount_95d88_34 ?_
  have e1 : tn (C + (Int64.toUInt64 C >>> ((Int32.toInt64 8).toUInt64 &&& Int64.toUInt64 63)).toInt64) = tn C + tn C / 256 := by
    rw [tn_add, us1 C 8 8 (by decide) (by decide), show (2 : Nat) ^ 8 = 256 by decide]; omega
  rw [← e1] at f2 f3 f4
  generalize (C + (Int64.toUInt64 C >>> ((Int32.toInt64 8).toUInt64 &&& Int64.toUInt64 63)).toInt64) = D1 at *
  refine s_J13_bitCount_95d88_41 ?_
  have e2 : tn (D1 + (Int64.toUInt64 D1 >>> ((Int32.toInt64 16).toUInt64 &&& Int64.toUInt64 63)).toInt64) = tn D1 + tn D1 / 65536 := by
    rw [tn_add, us1 D1 16 16 (by decide) (by decide), show (2 : Nat) ^ 16 = 65536 by decide]; omega
  rw [← e2] at f3 f4
  generalize (D1 + (Int64.toUInt64 D1 >>> ((Int32.toInt64 16).toUInt64 &&& Int64.toUInt64 63)).toInt64) = D2 at *
  refine s_J13_bitCount_95d88_48 ?_
  have e3 : tn (D2 + (Int64.toUInt64 D2 >>> ((Int32.toInt64 32).toUInt64 &&& Int64.toUInt64 63)).toInt64) = tn D2 + tn D2 / 4294967296 := by
    rw [tn_add, us1 D2 32 32 (by decide) (by decide), show (2 : Nat) ^ 32 = 4294967296 by decide]; omega
  rw [← e3] at f4
  generalize (D2 + (Int64.toUInt64 D2 >>> ((Int32.toInt64 32).toUInt64 &&& Int64.toUInt64 63)).toInt64) = D3 at *
  refine s_J13_bitCount_95d88_55 ?_
  rw [ti32, f4, c1, b1, a2, p2_cnt]
  exact Zok
theorem ev_lowest {x : Int64} {k : Nat} (h1 : bt x k = true) (h2 : ∀ j, j < k → bt x j = false) : Ev G m_X5_lowest [.long x] h 0 0 (Ret (some (.int (nI k))) h) := by
  have hk : k < 64 := by
    rcases Nat.lt_or_ge k 64 with h | h
    · exact h
    · rw [bt_big h] at h1; cases h1
  refine Ev.of pn_X5_lowest (Nat.le_of_ble_eq_true rfl) ?_
  have e := ev_bc64 (G := G) (h := h) ((x &&& (-x)) - 1)
  have ec : cnt 64 (bt ((x &&& (-x)) - 1)) = k := by
    rw [← cnt_lt (n := 64) (k := k) (by omega)]
    exact cnt_congr (fun i _ => bt_mask h1 h2 i)
  rw [ec] at e
  exact s_X5_lowest_0 e Zok
end LEAF
