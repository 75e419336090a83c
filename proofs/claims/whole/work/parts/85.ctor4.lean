section AGM
variable {h h' : PH} {y n : Nat} {sz : Nat → Nat} {E U : Nat → Nat → Bool}
theorem ML.ag (hm : ML h y) (a : AG y (y + 27) h h') : ML h' y := by
  obtain ⟨q1, q2, q3⟩ := hm
  refine ⟨(a y (Nat.le_refl _) (by omega)).1.trans q1, q2, fun e he => ?_⟩
  have lt : ∀ e, e ∈ mtab → e.2.1 < 27 := by decide
  have h1 := lt e he
  obtain ⟨z1, z2, z3⟩ := q3 e he
  obtain ⟨w1, w2, -⟩ := a (y + e.2.1) (by omega) (by omega)
  exact ⟨((a y (Nat.le_refl _) (by omega)).2.2.1 _).trans z1, w1.trans z2, w2.trans z3⟩
theorem MOK.ag (hk : MOK h y sz E n U) (a : AG y (y + 27) h h') : MOK h' y sz E n U := by
  have f : ∀ j, hI h' y j = hI h y j := (a y (Nat.le_refl _) (by omega)).2.2.2.1
  have fJ : ∀ j, hJ h' y j = hJ h y j := (a y (Nat.le_refl _) (by omega)).2.2.2.2
  have c : ∀ o, o < 27 → ∀ j, hI h' (y + o) j = hI h (y + o) j := fun o ho => (a (y + o) (by omega) (by omega)).2.2.2.1
  obtain ⟨⟨m1, ⟨g1, g2, g3, g4, g5, g6⟩, m3, m4⟩, u1, ⟨t1, t2, t3, t4⟩, u3, u4⟩ := hk
  refine ⟨⟨m1.ag a, ⟨(f 0).trans g1, (f 1).trans g2, g3, g4, fun l r hl hr => (c 1 (by decide) _).trans (g5 l r hl hr), g6⟩, by rw [f 3]; exact m3, fun z => ?_⟩, u1.ag a, ⟨(f 17).trans t1, t2, fun l r hl hr => (c 11 (by decide) _).trans (t3 l r hl hr), t4⟩, by rw [f 19]; exact u3, fun z => ?_⟩
  · rw [f 3] at z
    obtain ⟨⟨q1, q2, q3, q4, ⟨q5, q6, q7⟩, q8⟩, w⟩ := m4 z
    refine ⟨⟨(f 4).trans q1, fun i hi => ⟨(c 2 (by decide) i).trans (q2 i hi).1, (c 3 (by decide) i).trans (q2 i hi).2⟩, ⟨fun l hl => (c 4 (by decide) l).trans (q3.1 l hl), fun r hr => (c 5 (by decide) r).trans (q3.2 r hr)⟩, ⟨fun l hl => (c 6 (by decide) l).trans (q4.1 l hl), fun r hr => (c 7 (by decide) r).trans (q4.2 r hr)⟩, ⟨fun i j hi hj => (c 9 (by decide) _).trans (q5 i j hi hj), (f 13).trans q6, fun l hl => (c 8 (by decide) l).trans (q7 l hl)⟩, q8⟩, fun v => ?_⟩
    rw [f 14] at v
    rw [fJ 15]; exact w v
  · rw [f 19] at z
    obtain ⟨q1, q2, q3⟩ := u4 z
    refine ⟨(f 20).trans q1, fun t ht => ?_, q3⟩
    rw [c 12 (by decide), c 13 (by decide), c 14 (by decide), c 15 (by decide), c 16 (by decide)]
    exact q2 t ht
end AGM
section STG
variable {h h1 : PH} {x kd n k a : Nat}
theorem nA_ag : AG 0 (hN h) h (nA h kd n) := fun a _ q => ⟨if_neg (by omega), if_neg (by omega), fun j => congrFun (if_neg (c := a = hN h) (by omega)) j, fun j => congrFun (if_neg (c := a = hN h) (by omega)) j, fun j => congrFun (if_neg (c := a = hN h) (by omega)) j⟩
theorem nA_k : hK (nA h kd n) (hN h) = kd := if_pos rfl
theorem nA_i (j : Nat) : hI (nA h kd n) (hN h) j = 0 := congrFun (if_pos (c := hN h = hN h) rfl) j
theorem stg (hx : x < hN h) (g : AG 0 (hN h) (nA h kd n) h1) : AG (x + 1) (hN h) h (sR h1 x k (hN h)) ∧ hK (sR h1 x k (hN h)) x = hK h x ∧ hR (sR h1 x k (hN h)) x k = hN h ∧ (∀ j, j ≠ k → hR (sR h1 x k (hN h)) x j = hR h x j) ∧ (∀ z, AG (x + 1) z h1 (sR h1 x k (hN h))) ∧ AG 0 x h (sR h1 x k (hN h)) := by
  have g2 : AG 0 (hN h) h h1 := nA_ag.trans g
  have s : ∀ z, AG (x + 1) z h1 (sR h1 x k (hN h)) := fun z a p q => ⟨rfl, rfl, fun j => if_neg (by omega), fun _ => rfl, fun _ => rfl⟩
  refine ⟨(g2.sub (Nat.zero_le _) (Nat.le_refl _)).trans (s _), (g2 x (Nat.zero_le _) hx).1, if_pos ⟨rfl, rfl⟩, fun j hj => (if_neg (fun z => hj z.2)).trans ((g2 x (Nat.zero_le _) hx).2.2.1 j), s, (g2.sub (Nat.le_refl _) (by omega)).trans sR_ag⟩
end STG
theorem TQ.ag {h h' : PH} {t b g : Nat} (hq : TQ h t b g) (a : AG t (t + 4) h h') : TQ h' t b g := by
  obtain ⟨q1, q2, q3, q4, q5, q6, ⟨q7, q8⟩, ⟨q9, q10⟩, q11, q12⟩ := hq
  have r := (a t (Nat.le_refl _) (by omega)).2.2.1
  have c1 := a (t + 1) (by omega) (by omega)
  have c2 := a (t + 2) (by omega) (by omega)
  have c3 := a (t + 3) (by omega) (by omega)
  exact ⟨(a t (Nat.le_refl _) (by omega)).1.trans q1, (r 0).trans q2, (r 1).trans q3, (r 2).trans q4, (r 3).trans q5, (r 4).trans q6, ⟨c1.1.trans q7, c1.2.1.trans q8⟩, ⟨c2.1.trans q9, c2.2.1.trans q10⟩, c3.1.trans q11, c3.2.1.trans q12⟩
/-- the bench as it is made: its first k objects -/
def CI (h : PH) (x k : Nat) : Prop := hK h x = 15 ∧
  (0 < k → hR h x 0 = x + 1 ∧ GS h (x + 1) 50 (fun _ => 0) (fun _ _ => false) ∧ hI h (x + 1) 3 = 0) ∧ (1 < k → hR h x 1 = x + 6 ∧ PL h (x + 6) (x + 1) 50 ∧ hI h (x + 6) 8 = -1) ∧ (2 < k → hR h x 2 = x + 17 ∧ BL h (x + 17) (x + 6) (x + 1) ∧ hI h (x + 17) 7 = -1) ∧ (3 < k → hR h x 3 = x + 22 ∧ TQ h (x + 22) (x + 17) (x + 1) ∧ hI h (x + 22) 6 = -1) ∧
  (4 < k → hR h x 4 = x + 26 ∧ GS h (x + 26) 40 (fun _ => 0) (fun _ _ => false) ∧ hI h (x + 26) 3 = 0) ∧ (5 < k → hR h x 5 = x + 31 ∧ PL h (x + 31) (x + 26) 40 ∧ hI h (x + 31) 8 = -1) ∧ (6 < k → hR h x 6 = x + 42 ∧ OL h (x + 42) (x + 31) (x + 26) ∧ hI h (x + 42) 5 = -1)
/-- where the k-th object stands -/
def cAt : Nat → Nat
  | 0 => 1
  | 1 => 6
  | 2 => 17
  | 3 => 22
  | 4 => 26
  | 5 => 31
  | 6 => 42
  | _ => 45
theorem CI.ag {h h' : PH} {x k : Nat} (hc : CI h x k) (hk : k ≤ 7) (a : AG (x + 1) (x + cAt k) h h') (e1 : hK h' x = hK h x) (e2 : ∀ j, j < k → hR h' x j = hR h x j) : CI h' x k := by
  have mono : ∀ i, i < k → cAt (i + 1) ≤ cAt k := by
    have : ∀ k, k ≤ 7 → ∀ i, i < k → cAt (i + 1) ≤ cAt k := by decide
    exact this k hk
  have ii : ∀ o, 1 ≤ o → o < cAt k → ∀ j, hI h' (x + o) j = hI h (x + o) j := fun o h1 h2 => (a (x + o) (by omega) (by omega)).2.2.2.1
  obtain ⟨q, q0, q1, q2, q3, q4, q5, q6⟩ := hc
  refine ⟨e1.trans q, fun z => ?_, fun z => ?_, fun z => ?_, fun z => ?_, fun z => ?_, fun z => ?_, fun z => ?_⟩
  · have := mono 0 z
    have m : 6 ≤ cAt k := this
    obtain ⟨w1, w2, w3⟩ := q0 z
    exact ⟨(e2 0 z).trans w1, w2.ag (a.sub (by omega) (by omega)), (ii 1 (by decide) (by omega) 3).trans w3⟩
  · have := mono 1 z
    have m : 17 ≤ cAt k := this
    obtain ⟨w1, w2, w3⟩ := q1 z
    exact ⟨(e2 1 z).trans w1, w2.ag (a.sub (by omega) (by omega)), (ii 6 (by decide) (by omega) 8).trans w3⟩
  · have := mono 2 z
    have m : 22 ≤ cAt k := this
    obtain ⟨w1, w2, w3⟩ := q2 z
    exact ⟨(e2 2 z).trans w1, w2.ag (a.sub (by omega) (by omega)), (ii 17 (by decide) (by omega) 7).trans w3⟩
  · have := mono 3 z
    have m : 26 ≤ cAt k := this
    obtain ⟨w1, w2, w3⟩ := q3 z
    exact ⟨(e2 3 z).trans w1, w2.ag (a.sub (by omega) (by omega)), (ii 22 (by decide) (by omega) 6).trans w3⟩
  · have := mono 4 z
    have m : 31 ≤ cAt k := this
    obtain ⟨w1, w2, w3⟩ := q4 z
    exact ⟨(e2 4 z).trans w1, w2.ag (a.sub (by omega) (by omega)), (ii 26 (by decide) (by omega) 3).trans w3⟩
  · have := mono 5 z
    have m : 42 ≤ cAt k := this
    obtain ⟨w1, w2, w3⟩ := q5 z
    exact ⟨(e2 5 z).trans w1, w2.ag (a.sub (by omega) (by omega)), (ii 31 (by decide) (by omega) 8).trans w3⟩
  · have := mono 6 z
    have m : 45 ≤ cAt k := this
    obtain ⟨w1, w2, w3⟩ := q6 z
    exact ⟨(e2 6 z).trans w1, w2.ag (a.sub (by omega) (by omega)), (ii 42 (by decide) (by omega) 5).trans w3⟩
theorem CI.cok {h h' : PH} {x B : Nat} (hc : CI h x 7) (hx : 0 < x) (a : AG 0 (x + 45) h h') (hB : x + 45 ≤ B) (hB2 : B ≤ hN h') : COK h' x B 1 0 (fun _ => 0) (fun _ _ => false) 0 (fun _ _ => false) := by
  have hc := hc.ag (Nat.le_refl _) (a.sub (Nat.zero_le _) (Nat.le_refl _)) (a x (Nat.zero_le _) (by omega)).1 (fun j _ => (a x (Nat.zero_le _) (by omega)).2.2.1 j)
  obtain ⟨q, q0, q1, q2, q3, q4, q5, q6⟩ := hc
  obtain ⟨a1, a2, a3⟩ := q0 (by decide)
  obtain ⟨b1, b2, b3⟩ := q1 (by decide)
  obtain ⟨c1, c2, c3⟩ := q2 (by decide)
  obtain ⟨d1, ⟨t1, t2, t3, t4, t5, t6, t7, t8, t9, t10⟩, d3⟩ := q3 (by decide)
  obtain ⟨e1, e2, e3⟩ := q4 (by decide)
  obtain ⟨f1, f2, f3⟩ := q5 (by decide)
  obtain ⟨g1, g2, g3⟩ := q6 (by decide)
  have no : ∀ v : Int32, v = -1 → v ≠ nI 0 := fun v z w => by rw [z] at w; exact absurd w (by decide)
  refine ⟨0, 0, Nat.le_refl _, Nat.le_refl _, ⟨q, a1, b1, c1, d1, e1, f1, g1, hx, hB, hB2⟩, ⟨a2, b2, c2, ⟨t1, t2, t3, t4, t5, t7, t8, by omega, by omega, by omega, by omega, by omega, hB2⟩, ⟨x + 22 + 3, t6, t9, t10, Or.inl rfl, by omega, 0, by decide, rfl⟩, a3, ⟨Or.inl b3, fun z => (no _ b3 z).elim⟩, ⟨Or.inl c3, fun z => (no _ c3 z).elim⟩, Or.inl d3, fun z => (no _ d3 z).elim⟩, ⟨e2, f2, g2, ⟨fun _ => rfl, fun _ _ _ z => (by cases z)⟩, e3, ⟨Or.inl f3, fun z => (no _ f3 z).elim⟩, Or.inl g3, fun z => (no _ g3 z).elim⟩⟩
theorem k_bench {G : GG} {h : PH} {x : Nat} (hN0 : hN h = x + 1) (hk : hK h x = 15) (hx : 0 < x) : Ev G m_X5_init [.ref x] h 44 936 (RV (fun h' => AG 0 x h h' ∧ CI h' x 7)) := by
  refine Ev.of pn_X5_init (Nat.le_of_ble_eq_true rfl) ?_
  have c0 : CI h x 0 := ⟨hk, fun z => absurd z (by decide), fun z => absurd z (by decide), fun z => absurd z (by decide), fun z => absurd z (by decide), fun z => absurd z (by decide), fun z => absurd z (by decide), fun z => absurd z (by decide)⟩
  have n0 : hN h = x + 1 := hN0
  have s0 : hS h = hS h + 0 := rfl
  have g0 : AG 0 x h h := AG.rf
  refine s_X5_init_0 (mc1 := 4) (ms1 := 104) (P1 := (fun hz => AG 0 (hN h) (nA h 11 4) hz ∧ GS hz (hN h) 50 (fun _ => 0) (fun _ _ => false) ∧ hI hz (hN h) 3 = 0)) (by omega) (by omega) (by omega) (by omega) (k_graph (m := 50) rfl nA_k nA_i (by omega) (by decide) (by decide)) (fun a0 q0 p0 t0 => ?_)
  obtain ⟨qa0, qb0, qc0⟩ := q0
  obtain ⟨d01, d02, d03, d04, d05, d06⟩ := stg (x := x) (k := 0) (by omega) qa0
  refine s_X5_init_14 ((qa0 x (Nat.zero_le _) (by omega)).1.trans ((nA_ag x (Nat.zero_le _) (by omega)).1.trans c0.1)) (by omega) ?_
  have n1 : hN (sR a0 x 0 (hN h)) = x + 6 := by show hN a0 = _; omega
  have s1 : hS (sR a0 x 0 (hN h)) = hS h + 108 := by show hS a0 = _; omega
  have g1 : AG 0 x h (sR a0 x 0 (hN h)) := g0.trans d06
  have b0 : CI (sR a0 x 0 (hN h)) x 0 := c0.ag (by decide) (d01.sub (Nat.le_refl _) (by show x + 1 ≤ _; omega)) d02 (fun j hj => d04 j (by omega))
  rw [n0] at qb0 qc0
  have c1 : CI (sR a0 x 0 (hN h)) x 1 := ⟨b0.1, fun _ => ⟨d03.trans n0, qb0.ag ((d05 _).sub (by omega) (Nat.le_refl _)), ((d05 (x + 1 + 1) (x + 1) (by omega) (by omega)).2.2.2.1 _).trans qc0⟩, fun z => absurd z (by decide), fun z => absurd z (by decide), fun z => absurd z (by decide), fun z => absurd z (by decide), fun z => absurd z (by decide), fun z => absurd z (by decide)⟩
  clear d01 d02 d03 d04 d05 d06 qa0 qb0 qc0 b0 c0 n0 s0 g0
  skip
  generalize (sR a0 x 0 (hN h)) = h1 at *
  clear p0 t0
  have r1_0 : hR (nA h1 13 9) x 0 = x + 1 := ((nA_ag x (Nat.zero_le _) (by omega)).2.2.1 0).trans (c1.2.1 (by decide)).1
  refine s_X5_init_17 (mc1 := 10) (ms1 := 214) (P1 := (fun hz => AG 0 (hN h1) (nA h1 13 9) hz ∧ PL hz (hN h1) (x + 1) 50 ∧ hI hz (hN h1) 8 = -1)) (by omega) (by omega) ((nA_ag x (Nat.zero_le _) (by omega)).1.trans c1.1) (by rw [r1_0]; omega) (by omega) (by omega) (by rw [r1_0]; exact k_pair (m := 50) rfl nA_k (by omega) ((c1.2.1 (by decide)).2.1.1.ag (nA_ag.sub (Nat.zero_le _) (by omega))) (by omega) (by decide)) (fun a1 q1 p1 t1 => ?_)
  obtain ⟨qa1, qb1, qc1⟩ := q1
  obtain ⟨d11, d12, d13, d14, d15, d16⟩ := stg (x := x) (k := 1) (by omega) qa1
  refine s_X5_init_29 ((qa1 x (Nat.zero_le _) (by omega)).1.trans ((nA_ag x (Nat.zero_le _) (by omega)).1.trans c1.1)) (by omega) ?_
  have n2 : hN (sR a1 x 1 (hN h1)) = x + 17 := by show hN a1 = _; omega
  have s2 : hS (sR a1 x 1 (hN h1)) = hS h + 331 := by show hS a1 = _; omega
  have g2 : AG 0 x h (sR a1 x 1 (hN h1)) := g1.trans d16
  have b1 : CI (sR a1 x 1 (hN h1)) x 1 := c1.ag (by decide) (d11.sub (Nat.le_refl _) (by show x + 6 ≤ _; omega)) d12 (fun j hj => d14 j (by omega))
  rw [n1] at qb1 qc1
  have c2 : CI (sR a1 x 1 (hN h1)) x 2 := ⟨b1.1, fun _ => b1.2.1 (by decide), fun _ => ⟨d13.trans n1, qb1.ag ((d15 _).sub (by omega) (Nat.le_refl _)), ((d15 (x + 6 + 1) (x + 6) (by omega) (by omega)).2.2.2.1 _).trans qc1⟩, fun z => absurd z (by decide), fun z => absurd z (by decide), fun z => absurd z (by decide), fun z => absurd z (by decide), fun z => absurd z (by decide)⟩
  clear d11 d12 d13 d14 d15 d16 qa1 qb1 qc1 b1 c1 n1 s1 g1
  clear r1_0
  generalize (sR a1 x 1 (hN h1)) = h2 at *
  clear p1 t1
  have r2_0 : hR (nA h2 10 8) x 0 = x + 1 := ((nA_ag x (Nat.zero_le _) (by omega)).2.2.1 0).trans (c2.2.1 (by decide)).1
  have r2_1 : hR (nA h2 10 8) x 1 = x + 6 := ((nA_ag x (Nat.zero_le _) (by omega)).2.2.1 1).trans (c2.2.2.1 (by decide)).1
  refine s_X5_init_32 (mc1 := 4) (ms1 := 200) (P1 := (fun hz => AG 0 (hN h2) (nA h2 10 8) hz ∧ BL hz (hN h2) (x + 6) (x + 1) ∧ hI hz (hN h2) 7 = -1)) (by omega) (by omega) ((nA_ag x (Nat.zero_le _) (by omega)).1.trans c2.1) (by rw [r2_0]; omega) (by rw [r2_1]; omega) (by omega) (by omega) (by rw [r2_0, r2_1]; exact k_blocks rfl nA_k (by omega) (by omega) (by omega)) (fun a2 q2 p2 t2 => ?_)
  obtain ⟨qa2, qb2, qc2⟩ := q2
  obtain ⟨d21, d22, d23, d24, d25, d26⟩ := stg (x := x) (k := 2) (by omega) qa2
  refine s_X5_init_48 ((qa2 x (Nat.zero_le _) (by omega)).1.trans ((nA_ag x (Nat.zero_le _) (by omega)).1.trans c2.1)) (by omega) ?_
  have n3 : hN (sR a2 x 2 (hN h2)) = x + 22 := by show hN a2 = _; omega
  have s3 : hS (sR a2 x 2 (hN h2)) = hS h + 539 := by show hS a2 = _; omega
  have g3 : AG 0 x h (sR a2 x 2 (hN h2)) := g2.trans d26
  have b2 : CI (sR a2 x 2 (hN h2)) x 2 := c2.ag (by decide) (d21.sub (Nat.le_refl _) (by show x + 17 ≤ _; omega)) d22 (fun j hj => d24 j (by omega))
  rw [n2] at qb2 qc2
  have c3 : CI (sR a2 x 2 (hN h2)) x 3 := ⟨b2.1, fun _ => b2.2.1 (by decide), fun _ => b2.2.2.1 (by decide), fun _ => ⟨d23.trans n2, qb2.ag ((d25 _).sub (by omega) (Nat.le_refl _)), ((d25 (x + 17 + 1) (x + 17) (by omega) (by omega)).2.2.2.1 _).trans qc2⟩, fun z => absurd z (by decide), fun z => absurd z (by decide), fun z => absurd z (by decide), fun z => absurd z (by decide)⟩
  clear d21 d22 d23 d24 d25 d26 qa2 qb2 qc2 b2 c2 n2 s2 g2
  clear r2_0 r2_1
  generalize (sR a2 x 2 (hN h2)) = h3 at *
  clear p2 t2
  have r3_0 : hR (nA h3 14 7) x 0 = x + 1 := ((nA_ag x (Nat.zero_le _) (by omega)).2.2.1 0).trans (c3.2.1 (by decide)).1
  have r3_2 : hR (nA h3 14 7) x 2 = x + 17 := ((nA_ag x (Nat.zero_le _) (by omega)).2.2.1 2).trans (c3.2.2.2.1 (by decide)).1
  refine s_X5_init_51 (mc1 := 3) (ms1 := 33) (P1 := (fun hz => AG 0 (hN h3) (nA h3 14 7) hz ∧ TQ hz (hN h3) (x + 17) (x + 1) ∧ hI hz (hN h3) 6 = -1)) (by omega) (by omega) ((nA_ag x (Nat.zero_le _) (by omega)).1.trans c3.1) (by rw [r3_0]; omega) (by rw [r3_2]; omega) (by omega) (by omega) (by rw [r3_0, r3_2]; exact k_tally rfl nA_k (by omega) (by omega)) (fun a3 q3 p3 t3 => ?_)
  obtain ⟨qa3, qb3, qc3⟩ := q3
  obtain ⟨d31, d32, d33, d34, d35, d36⟩ := stg (x := x) (k := 3) (by omega) qa3
  refine s_X5_init_67 ((qa3 x (Nat.zero_le _) (by omega)).1.trans ((nA_ag x (Nat.zero_le _) (by omega)).1.trans c3.1)) (by omega) ?_
  have n4 : hN (sR a3 x 3 (hN h3)) = x + 26 := by show hN a3 = _; omega
  have s4 : hS (sR a3 x 3 (hN h3)) = hS h + 579 := by show hS a3 = _; omega
  have g4 : AG 0 x h (sR a3 x 3 (hN h3)) := g3.trans d36
  have b3 : CI (sR a3 x 3 (hN h3)) x 3 := c3.ag (by decide) (d31.sub (Nat.le_refl _) (by show x + 22 ≤ _; omega)) d32 (fun j hj => d34 j (by omega))
  rw [n3] at qb3 qc3
  have c4 : CI (sR a3 x 3 (hN h3)) x 4 := ⟨b3.1, fun _ => b3.2.1 (by decide), fun _ => b3.2.2.1 (by decide), fun _ => b3.2.2.2.1 (by decide), fun _ => ⟨d33.trans n3, qb3.ag ((d35 _).sub (by omega) (Nat.le_refl _)), ((d35 (x + 22 + 1) (x + 22) (by omega) (by omega)).2.2.2.1 _).trans qc3⟩, fun z => absurd z (by decide), fun z => absurd z (by decide), fun z => absurd z (by decide)⟩
  clear d31 d32 d33 d34 d35 d36 qa3 qb3 qc3 b3 c3 n3 s3 g3
  clear r3_0 r3_2
  generalize (sR a3 x 3 (hN h3)) = h4 at *
  clear p3 t3
  refine s_X5_init_70 (mc1 := 4) (ms1 := 84) (P1 := (fun hz => AG 0 (hN h4) (nA h4 11 4) hz ∧ GS hz (hN h4) 40 (fun _ => 0) (fun _ _ => false) ∧ hI hz (hN h4) 3 = 0)) (by omega) (by omega) (by omega) (by omega) (k_graph (m := 40) rfl nA_k nA_i (by omega) (by decide) (by decide)) (fun a4 q4 p4 t4 => ?_)
  obtain ⟨qa4, qb4, qc4⟩ := q4
  obtain ⟨d41, d42, d43, d44, d45, d46⟩ := stg (x := x) (k := 4) (by omega) qa4
  refine s_X5_init_80 ((qa4 x (Nat.zero_le _) (by omega)).1.trans ((nA_ag x (Nat.zero_le _) (by omega)).1.trans c4.1)) (by omega) ?_
  have n5 : hN (sR a4 x 4 (hN h4)) = x + 31 := by show hN a4 = _; omega
  have s5 : hS (sR a4 x 4 (hN h4)) = hS h + 667 := by show hS a4 = _; omega
  have g5 : AG 0 x h (sR a4 x 4 (hN h4)) := g4.trans d46
  have b4 : CI (sR a4 x 4 (hN h4)) x 4 := c4.ag (by decide) (d41.sub (Nat.le_refl _) (by show x + 26 ≤ _; omega)) d42 (fun j hj => d44 j (by omega))
  rw [n4] at qb4 qc4
  have c5 : CI (sR a4 x 4 (hN h4)) x 5 := ⟨b4.1, fun _ => b4.2.1 (by decide), fun _ => b4.2.2.1 (by decide), fun _ => b4.2.2.2.1 (by decide), fun _ => b4.2.2.2.2.1 (by decide), fun _ => ⟨d43.trans n4, qb4.ag ((d45 _).sub (by omega) (Nat.le_refl _)), ((d45 (x + 26 + 1) (x + 26) (by omega) (by omega)).2.2.2.1 _).trans qc4⟩, fun z => absurd z (by decide), fun z => absurd z (by decide)⟩
  clear d41 d42 d43 d44 d45 d46 qa4 qb4 qc4 b4 c4 n4 s4 g4
  skip
  generalize (sR a4 x 4 (hN h4)) = h5 at *
  clear p4 t4
  have r5_4 : hR (nA h5 13 9) x 4 = x + 26 := ((nA_ag x (Nat.zero_le _) (by omega)).2.2.1 4).trans (c5.2.2.2.2.2.1 (by decide)).1
  refine s_X5_init_83 (mc1 := 10) (ms1 := 174) (P1 := (fun hz => AG 0 (hN h5) (nA h5 13 9) hz ∧ PL hz (hN h5) (x + 26) 40 ∧ hI hz (hN h5) 8 = -1)) (by omega) (by omega) ((nA_ag x (Nat.zero_le _) (by omega)).1.trans c5.1) (by rw [r5_4]; omega) (by omega) (by omega) (by rw [r5_4]; exact k_pair (m := 40) rfl nA_k (by omega) ((c5.2.2.2.2.2.1 (by decide)).2.1.1.ag (nA_ag.sub (Nat.zero_le _) (by omega))) (by omega) (by decide)) (fun a5 q5 p5 t5 => ?_)
  obtain ⟨qa5, qb5, qc5⟩ := q5
  obtain ⟨d51, d52, d53, d54, d55, d56⟩ := stg (x := x) (k := 5) (by omega) qa5
  refine s_X5_init_95 ((qa5 x (Nat.zero_le _) (by omega)).1.trans ((nA_ag x (Nat.zero_le _) (by omega)).1.trans c5.1)) (by omega) ?_
  have n6 : hN (sR a5 x 5 (hN h5)) = x + 42 := by show hN a5 = _; omega
  have s6 : hS (sR a5 x 5 (hN h5)) = hS h + 850 := by show hS a5 = _; omega
  have g6 : AG 0 x h (sR a5 x 5 (hN h5)) := g5.trans d56
  have b5 : CI (sR a5 x 5 (hN h5)) x 5 := c5.ag (by decide) (d51.sub (Nat.le_refl _) (by show x + 31 ≤ _; omega)) d52 (fun j hj => d54 j (by omega))
  rw [n5] at qb5 qc5
  have c6 : CI (sR a5 x 5 (hN h5)) x 6 := ⟨b5.1, fun _ => b5.2.1 (by decide), fun _ => b5.2.2.1 (by decide), fun _ => b5.2.2.2.1 (by decide), fun _ => b5.2.2.2.2.1 (by decide), fun _ => b5.2.2.2.2.2.1 (by decide), fun _ => ⟨d53.trans n5, qb5.ag ((d55 _).sub (by omega) (Nat.le_refl _)), ((d55 (x + 31 + 1) (x + 31) (by omega) (by omega)).2.2.2.1 _).trans qc5⟩, fun z => absurd z (by decide)⟩
  clear d51 d52 d53 d54 d55 d56 qa5 qb5 qc5 b5 c5 n5 s5 g5
  clear r5_4
  generalize (sR a5 x 5 (hN h5)) = h6 at *
  clear p5 t5
  have r6_4 : hR (nA h6 12 6) x 4 = x + 26 := ((nA_ag x (Nat.zero_le _) (by omega)).2.2.1 4).trans (c6.2.2.2.2.2.1 (by decide)).1
  have r6_5 : hR (nA h6 12 6) x 5 = x + 31 := ((nA_ag x (Nat.zero_le _) (by omega)).2.2.1 5).trans (c6.2.2.2.2.2.2.1 (by decide)).1
  refine s_X5_init_98 (mc1 := 2) (ms1 := 80) (P1 := (fun hz => AG 0 (hN h6) (nA h6 12 6) hz ∧ OL hz (hN h6) (x + 31) (x + 26) ∧ hI hz (hN h6) 5 = -1)) (by omega) (by omega) ((nA_ag x (Nat.zero_le _) (by omega)).1.trans c6.1) (by rw [r6_4]; omega) (by rw [r6_5]; omega) (by omega) (by omega) (by rw [r6_4, r6_5]; exact k_order rfl nA_k (by omega) (by omega) (by omega)) (fun a6 q6 p6 t6 => ?_)
  obtain ⟨qa6, qb6, qc6⟩ := q6
  obtain ⟨d61, d62, d63, d64, d65, d66⟩ := stg (x := x) (k := 6) (by omega) qa6
  refine s_X5_init_114 ((qa6 x (Nat.zero_le _) (by omega)).1.trans ((nA_ag x (Nat.zero_le _) (by omega)).1.trans c6.1)) (by omega) ?_
  have n7 : hN (sR a6 x 6 (hN h6)) = x + 45 := by show hN a6 = _; omega
  have s7 : hS (sR a6 x 6 (hN h6)) = hS h + 936 := by show hS a6 = _; omega
  have g7 : AG 0 x h (sR a6 x 6 (hN h6)) := g6.trans d66
  have b6 : CI (sR a6 x 6 (hN h6)) x 6 := c6.ag (by decide) (d61.sub (Nat.le_refl _) (by show x + 42 ≤ _; omega)) d62 (fun j hj => d64 j (by omega))
  rw [n6] at qb6 qc6
  have c7 : CI (sR a6 x 6 (hN h6)) x 7 := ⟨b6.1, fun _ => b6.2.1 (by decide), fun _ => b6.2.2.1 (by decide), fun _ => b6.2.2.2.1 (by decide), fun _ => b6.2.2.2.2.1 (by decide), fun _ => b6.2.2.2.2.2.1 (by decide), fun _ => b6.2.2.2.2.2.2.1 (by decide), fun _ => ⟨d63.trans n6, qb6.ag ((d65 _).sub (by omega) (Nat.le_refl _)), ((d65 (x + 42 + 1) (x + 42) (by omega) (by omega)).2.2.2.1 _).trans qc6⟩⟩
  clear d61 d62 d63 d64 d65 d66 qa6 qb6 qc6 b6 c6 n6 s6 g6
  clear r6_4 r6_5
  generalize (sR a6 x 6 (hN h6)) = h7 at *
  clear p6 t6
  exact s_X5_init_117 ⟨⟨rfl, g7, c7⟩, by omega, by omega⟩
