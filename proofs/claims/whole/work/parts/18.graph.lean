section GRAPH
def b2i (b : Bool) : Int32 := if b then 1 else 0
theorem b2i_0 {b : Bool} : b2i b = 0 ↔ b = false := by cases b <;> decide
theorem b2i_n {b : Bool} : ¬ b2i b = 0 ↔ b = true := by cases b <;> decide
def inB (x : Int32) (n : Nat) : Bool := !decide (x < 0) && decide (x.toNatClampNeg < n)
theorem inB_iff {x : Int32} {n : Nat} : inB x n = true ↔ vp_in x n := by
  unfold inB vp_in
  simp only [Bool.and_eq_true, Bool.not_eq_true', decide_eq_false_iff_not, decide_eq_true_eq]
  constructor
  · rintro ⟨a, b⟩ (c | c)
    · exact a c
    · omega
  · intro h
    exact ⟨fun q => h (Or.inl q), Nat.not_le.mp fun q => h (Or.inr q)⟩
theorem inB_nI {k n : Nat} (hk : k < 2 ^ 31) : inB (nI k) n = decide (k < n) := by
  unfold inB
  rw [nI_clamp hk]
  simp [nI_pos hk]
/-- a Graph at g, for at most m nodes a side -/
def GL (h : PH) (g m : Nat) : Prop := hK h g = 11 ∧ hK h (g + 1) = 2 ∧ hL h (g + 1) = 2 ∧ hK h (g + 2) = 6 ∧ hL h (g + 2) = 2 ∧ (∀ s, s < 2 → hK h (g + 3 + s) = 3 ∧ hL h (g + 3 + s) = m ∧ hR h (g + 2) s = g + 3 + s) ∧ hR h g 1 = g + 1 ∧ hR h g 2 = g + 2 ∧ hI h g 0 = nI m ∧ m ≤ 50
/-- whether there is an edge, seen from a side -/
def ad (E : Nat → Nat → Bool) (s i j : Nat) : Bool := if s = 0 then E i j else E j i
/-- what it holds: sizes, edges -/
def GS (h : PH) (g m : Nat) (sz : Nat → Nat) (E : Nat → Nat → Bool) : Prop := GL h g m ∧ (∀ s, s < 2 → hI h (g + 1) s = nI (sz s) ∧ sz s ≤ m) ∧ (∀ s, s < 2 → ∀ i, i < m → ∀ j, bt (hJ h (g + 3 + s) i) j = ad E s i j) ∧ ∀ l r, E l r = true → l < sz 0 ∧ r < sz 1
def holdB (sz : Nat → Nat) (sd nd : Int32) : Bool := (decide (sd = 0) && inB nd (sz 0)) || (decide (sd = 1) && inB nd (sz 1))
variable {G : GG} {h : PH} {g m : Nat} {sz : Nat → Nat} {E : Nat → Nat → Bool}
theorem sd_nI {sd : Int32} (q : sd = 0 ∨ sd = 1) : ∃ s, s < 2 ∧ sd = nI s := by
  rcases q with rfl | rfl
  · exact ⟨0, by decide, by decide⟩
  · exact ⟨1, by decide, by decide⟩
theorem holdB_nI {s : Nat} (hs : s < 2) (nd : Int32) : holdB sz (nI s) nd = inB nd (sz s) := by
  match s, hs with
  | 0, _ => simp [holdB, show nI 0 = 0 by decide]
  | 1, _ => simp [holdB, show nI 1 = 1 by decide]
theorem ge_nI {n : Nat} {x : Int32} (hn : n < 2 ^ 31) (hx : ¬ x < 0) : nI n ≤ x ↔ ¬ x.toNatClampNeg < n := by
  obtain ⟨j, hj, rfl⟩ := nI_of hx
  rw [nI_clamp hj, nI_leI hn hj]; omega
theorem ev_holds (hg : GS h g m sz E) (sd nd : Int32) : Ev G m_X1_holds [.ref g, .int sd, .int nd] h 0 0 (Ret (some (.int (b2i (holdB sz sd nd)))) h) := by
  obtain ⟨⟨k0, k1, l1, k2, l2, kr, r1, r2, im, hm⟩, hs, hb, hE⟩ := hg
  refine Ev.of pn_X1_holds (Nat.le_of_ble_eq_true rfl) ?_
  refine s_X1_holds_0 (ev_isOneOfTwo sd) (fun q => ?_) (fun q1 q2 => ?_) k0 (by rw [r1]; omega) (by rw [r1]; exact k1) (fun q1 q2 => ?_) (fun q1 q2 q3 => ?_) (fun q1 q2 q3 => ?_)
  · have : ¬ (sd = 0 ∨ sd = 1) := by
      intro z; rw [if_pos z] at q; cases q
    have e : holdB sz sd nd = false := by
      unfold holdB
      simp
      exact ⟨fun z => absurd (Or.inl z) this, fun z => absurd (Or.inr z) this⟩
    rw [e]; exact Zok
  · have e : holdB sz sd nd = false := by simp [holdB, inB, q2]
    rw [e]; exact Zok
  all_goals
    have q0 : sd = 0 ∨ sd = 1 := by
      by_cases z : sd = 0 ∨ sd = 1
      · exact z
      · rw [if_neg z] at q1; exact absurd rfl q1
    obtain ⟨s, hs2, rfl⟩ := sd_nI q0
  · rw [r1, l1]; exact vp_in_nI hs2 (by decide)
  · rw [r1, nI_clamp (by omega), (hs s hs2).1, ge_nI (by have := (hs s hs2).2; omega) q2] at q3
    have e : holdB sz (nI s) nd = false := by rw [holdB_nI hs2]; simp [inB, q3]
    rw [e]; exact Zok
  · rw [r1, nI_clamp (by omega), (hs s hs2).1, ge_nI (by have := (hs s hs2).2; omega) q2] at q3
    have e : holdB sz (nI s) nd = true := by
      rw [holdB_nI hs2]
      have : nd.toNatClampNeg < sz s := by omega
      simp [inB, q2, this]
    rw [e]; exact Zok
theorem ev_sizeOf (hg : GS h g m sz E) {s : Nat} (hs2 : s < 2) : Ev G m_X1_sizeOf [.ref g, .int (nI s)] h 0 0 (Ret (some (.int (nI (sz s)))) h) := by
  obtain ⟨⟨k0, k1, l1, k2, l2, kr, r1, r2, im, hm⟩, hs, hb, hE⟩ := hg
  have q0 : nI s = 0 ∨ nI s = 1 := by
    match s, hs2 with
    | 0, _ => exact Or.inl (by decide)
    | 1, _ => exact Or.inr (by decide)
  have e1 := ev_isOneOfTwo (G := G) (h := h) (nI s)
  rw [if_pos q0] at e1
  refine Ev.of pn_X1_sizeOf (Nat.le_of_ble_eq_true rfl) ?_
  refine s_X1_sizeOf_0 e1 (fun q => absurd q (by decide)) k0 (by rw [r1]; omega) (by rw [r1]; exact k1) (fun _ => by rw [r1, l1]; exact vp_in_nI hs2 (by decide)) (fun _ => ?_)
  rw [r1, nI_clamp (by omega), (hs s hs2).1]; exact Zok
def allv (n : Nat) : Int64 := (1 <<< (Int32.toInt64 (nI n) &&& 63)) - 1
theorem bt_all {n : Nat} (hn : n < 64) (j : Nat) : bt (allv n) j = decide (j < n) := by
  unfold allv
  rw [bt_pred (k := n) (by rw [bt_bit hn]; simp) (fun i hi => by rw [bt_bit hn]; simp; omega), bt_bit hn]
  by_cases h1 : j < n <;> by_cases h2 : j = n <;> simp [h1, h2]
theorem ev_all (hg : GS h g m sz E) {s : Nat} (hs2 : s < 2) : Ev G m_X1_all [.ref g, .int (nI s)] h 0 0 (Ret (some (.long (allv (sz s)))) h) := by
  obtain ⟨⟨k0, k1, l1, k2, l2, kr, r1, r2, im, hm⟩, hs, hb, hE⟩ := hg
  have q0 : nI s = 0 ∨ nI s = 1 := by
    match s, hs2 with
    | 0, _ => exact Or.inl (by decide)
    | 1, _ => exact Or.inr (by decide)
  have e1 := ev_isOneOfTwo (G := G) (h := h) (nI s)
  rw [if_pos q0] at e1
  refine Ev.of pn_X1_all (Nat.le_of_ble_eq_true rfl) ?_
  refine s_X1_all_0 e1 (fun q => absurd q (by decide)) k0 (by rw [r1]; omega) (by rw [r1]; exact k1) (fun _ => by rw [r1, l1]; exact vp_in_nI hs2 (by decide)) (fun _ => ?_)
  rw [r1, nI_clamp (by omega), (hs s hs2).1]; exact Zok
theorem ev_across (hg : GS h g m sz E) {s k : Nat} (hs2 : s < 2) (hk : k < sz s) : Ev G m_X1_across [.ref g, .int (nI s), .int (nI k)] h 0 0 (Ret (some (.long (hJ h (g + 3 + s) k))) h) := by
  have e1 := ev_holds (G := G) hg (nI s) (nI k)
  obtain ⟨⟨k0, k1, l1, k2, l2, kr, r1, r2, im, hm⟩, hs, hb, hE⟩ := hg
  have hkm : k < m := Nat.lt_of_lt_of_le hk (hs s hs2).2
  have e2 : holdB sz (nI s) (nI k) = true := by rw [holdB_nI hs2, inB_nI (by omega)]; simp [hk]
  rw [e2] at e1
  obtain ⟨a1, a2, a3⟩ := kr s hs2
  have ei : Int32.toNatClampNeg (nI s) = s := nI_clamp (by omega)
  refine Ev.of pn_X1_across (Nat.le_of_ble_eq_true rfl) ?_
  refine s_X1_across_0 e1 k0 (fun q => absurd q (by decide)) (by rw [r2]; omega) (Or.inr (by rw [r2]; exact k2)) (fun _ => by rw [r2, l2]; exact vp_in_nI hs2 (by decide)) (fun _ => by rw [r2, ei, a3]; omega) (fun _ => by rw [r2, ei, a3]; exact a1) (fun _ => by rw [r2, ei, a3, a2]; exact vp_in_nI hkm (by omega)) (fun _ => ?_)
  rw [r2, ei, a3, nI_clamp (by omega)]; exact Zok
theorem ev_joins (hg : GS h g m sz E) (a b : Int32) : Ev G m_X1_joins [.ref g, .int a, .int b] h 0 0 (Ret (some (.int (b2i (inB a (sz 0) && inB b (sz 1) && E a.toNatClampNeg b.toNatClampNeg)))) h) := by
  have e1 := ev_holds (G := G) hg (nI 0) a
  have e2 := ev_holds (G := G) hg (nI 1) b
  rw [holdB_nI (by decide)] at e1 e2
  obtain ⟨⟨k0, k1, l1, k2, l2, kr, r1, r2, im, hm⟩, hs, hb, hE⟩ := hg
  obtain ⟨a1, a2, a3⟩ := kr 0 (by decide)
  refine Ev.of pn_X1_joins (Nat.le_of_ble_eq_true rfl) ?_
  by_cases ha : inB a (sz 0) = true
  · have hva := inB_iff.mp ha
    obtain ⟨i, hi, rfl⟩ := vp_in_of hva (by have := (hs 0 (by decide)).2; omega)
    have him : i < m := Nat.lt_of_lt_of_le hi (hs 0 (by decide)).2
    by_cases hbb : inB b (sz 1) = true
    · have hvb := inB_iff.mp hbb
      obtain ⟨j, hj, rfl⟩ := vp_in_of hvb (by have := (hs 1 (by decide)).2; omega)
      have hjm : j < m := Nat.lt_of_lt_of_le hj (hs 1 (by decide)).2
      have e3 := ev_contains (G := G) (h := h) (hJ h (g + 3) i) (k := j) (by omega)
      have e4 : bt (hJ h (g + 3) i) j = E i j := by
        have := hb 0 (by decide) i him j
        simpa [ad] using this
      rw [e4] at e3
      have ec : (inB (nI i) (sz 0) && inB (nI j) (sz 1) && E (nI i).toNatClampNeg (nI j).toNatClampNeg) = E i j := by
        rw [ha, hbb, nI_clamp (by omega), nI_clamp (by omega)]; simp
      rw [ec]
      refine s_X1_joins_0 (x1 := b2i (inB (nI i) (sz 0))) (x2 := b2i (inB (nI j) (sz 1))) (x3 := b2i (E i j)) e1 k0 (fun q => by rw [b2i_0, ha] at q; cases q) (fun _ => e2) (fun _ q => by rw [b2i_0, hbb] at q; cases q) (by rw [r2]; omega) (Or.inr (by rw [r2]; exact k2)) (fun _ _ => by rw [r2, l2]; exact vp_in_nI (n := 0) (by decide) (by decide)) (by rw [r2, a3]; omega) (by rw [r2, a3]; exact a1) (fun _ _ => by rw [r2, a3, a2]; exact vp_in_nI him (by omega)) (fun _ _ => ?_) (fun _ _ q => ?_) (fun _ _ q => ?_)
      · rw [r2, a3, nI_clamp (by omega)]; exact e3
      · rw [b2i_0.mp q]; exact Zok
      · rw [b2i_n.mp q]; exact Zok
    · have hbf : inB b (sz 1) = false := by simpa using hbb
      rw [hbf] at e2 ⊢
      refine s_X1_joins_0 (x1 := b2i (inB (nI i) (sz 0))) (x2 := b2i false) (x3 := 0) e1 k0 (fun q => by rw [b2i_0, ha] at q; cases q) (fun _ => e2) (fun _ q => ?_) (by rw [r2]; omega) (Or.inr (by rw [r2]; exact k2)) (fun _ q => absurd rfl q) (by rw [r2, a3]; omega) (by rw [r2, a3]; exact a1) (fun _ q => absurd rfl q) (fun _ q => absurd rfl q) (fun _ q => absurd rfl q) (fun _ q => absurd rfl q)
      simp only [Bool.and_false, Bool.false_and]
      exact Zok
  · have haf : inB a (sz 0) = false := by simpa using ha
    rw [haf] at e1 ⊢
    refine s_X1_joins_0 (x1 := b2i false) (x2 := 0) (x3 := 0) e1 k0 (fun q => ?_) (fun q => absurd rfl q) (fun q => absurd rfl q) (by rw [r2]; omega) (Or.inr (by rw [r2]; exact k2)) (fun q => absurd rfl q) (by rw [r2, a3]; omega) (by rw [r2, a3]; exact a1) (fun q => absurd rfl q) (fun q => absurd rfl q) (fun q => absurd rfl q) (fun q => absurd rfl q)
    simp only [Bool.false_and]
    exact Zok
end GRAPH
