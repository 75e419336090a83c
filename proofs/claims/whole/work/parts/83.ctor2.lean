/-- the tally as it is made -/
def TQ (h : PH) (t b g : Nat) : Prop := hK h t = 14 ∧ hR h t 0 = g ∧ hR h t 1 = b ∧ hR h t 2 = t + 1 ∧ hR h t 3 = t + 2 ∧ hR h t 4 = t + 3 ∧ (hK h (t + 1) = 3 ∧ hL h (t + 1) = 16) ∧ (hK h (t + 2) = 2 ∧ hL h (t + 2) = 16) ∧ hK h (t + 3) = 3 ∧ hL h (t + 3) = 1
theorem lt_off {h : PH} {o k c : Nat} (e : hN h = o + c) (q : k < c) : o + k < hN h := by omega
theorem lt_off0 {h : PH} {o c : Nat} (e : hN h = o + c) (q : 0 < c) : o < hN h := by omega
theorem ne_off {o k : Nat} (q : 0 < k) : o + k ≠ o := by omega
theorem ne_0 {h : PH} {o c : Nat} (e : hN h = o + c) (q : 0 < c) : hN h ≠ 0 := by omega
variable {G : GG} {h : PH} {o g p m : Nat}
theorem k_blocks (hN0 : hN h = o + 1) (hk : hK h o = 10) (hg : 0 < g) (hp : 0 < p) (hpo : p + 11 ≤ o) : Ev G m_X0_init [.ref o, .ref g, .ref p] h 4 200 (RV (fun h' => AG 0 o h h' ∧ BL h' o p g ∧ hI h' o 7 = -1)) := by
  refine Ev.of pn_X0_init (Nat.le_of_ble_eq_true rfl) ?_
  refine s_X0_init_0 hk (by omega) ?_
  show RR _ _ _ _ _ _ _ (sR h o 0 g) _
  have q1_0 : hK (sR h o 0 g) o = 10 := hk
  have q1_1 : hR (sR h o 0 g) o 0 = g := if_pos ⟨rfl, rfl⟩
  have n1 : hN (sR h o 0 g) = o + 1 := hN0
  have s1 : hS (sR h o 0 g) = hS h + (0) := rfl
  have g1 : AG 0 o h (sR h o 0 g) := AG.trans AG.rf sR_ag
  generalize (sR h o 0 g) = h1 at *
  refine s_X0_init_9 q1_0 (by omega) ?_
  show RR _ _ _ _ _ _ _ (sR h1 o 1 p) _
  have q2_0 : hK (sR h1 o 1 p) o = 10 := q1_0
  have q2_1 : hR (sR h1 o 1 p) o 0 = g := (if_neg (fun z => absurd z.2 (by decide))).trans q1_1
  have q2_2 : hR (sR h1 o 1 p) o 1 = p := if_pos ⟨rfl, rfl⟩
  have n2 : hN (sR h1 o 1 p) = o + 1 := n1
  have s2 : hS (sR h1 o 1 p) = hS h + (0) := s1
  have g2 : AG 0 o h (sR h1 o 1 p) := AG.trans g1 sR_ag
  generalize (sR h1 o 1 p) = h2 at *
  refine s_X0_init_14 (by rw [n2]; omega) (by rw [s2]; omega) ((ins_K (h := h2) (o := o) (s := 2) (kd := 3) (n := 50) (lt_off0 n2 (by decide))).trans q2_0) (ne_0 n2 (by decide)) ?_
  show RR _ _ _ _ _ _ _ (ins h2 o 2 3 50) _
  have q3_0 : hK (ins h2 o 2 3 50) o = 10 := (ins_K (lt_off0 n2 (by decide))).trans q2_0
  have q3_1 : hR (ins h2 o 2 3 50) o 0 = g := (ins_R (lt_off0 n2 (by decide)) (fun z => absurd z.2 (by decide))).trans q2_1
  have q3_2 : hR (ins h2 o 2 3 50) o 1 = p := (ins_R (lt_off0 n2 (by decide)) (fun z => absurd z.2 (by decide))).trans q2_2
  have q3_3 : hR (ins h2 o 2 3 50) o 2 = o + 1 := ins_r.trans n2
  have q3_4 : hK (ins h2 o 2 3 50) (o + 1) = 3 := by rw [← n2]; exact ins_k
  have q3_5 : hL (ins h2 o 2 3 50) (o + 1) = 50 := by rw [← n2]; exact ins_l
  have n3 : hN (ins h2 o 2 3 50) = o + 2 := by rw [ins_N, n2]
  have s3 : hS (ins h2 o 2 3 50) = hS h + (0 + 50) := by rw [ins_S]; omega
  have g3 : AG 0 o h (ins h2 o 2 3 50) := AG.trans g2 (ins_ag (lt_off0 n2 (by decide)))
  generalize (ins h2 o 2 3 50) = h3 at *
  refine s_X0_init_22 (by rw [n3]; omega) (by rw [s3]; omega) ((ins_K (h := h3) (o := o) (s := 3) (kd := 2) (n := 50) (lt_off0 n3 (by decide))).trans q3_0) (ne_0 n3 (by decide)) ?_
  show RR _ _ _ _ _ _ _ (ins h3 o 3 2 50) _
  have q4_0 : hK (ins h3 o 3 2 50) o = 10 := (ins_K (lt_off0 n3 (by decide))).trans q3_0
  have q4_1 : hR (ins h3 o 3 2 50) o 0 = g := (ins_R (lt_off0 n3 (by decide)) (fun z => absurd z.2 (by decide))).trans q3_1
  have q4_2 : hR (ins h3 o 3 2 50) o 1 = p := (ins_R (lt_off0 n3 (by decide)) (fun z => absurd z.2 (by decide))).trans q3_2
  have q4_3 : hR (ins h3 o 3 2 50) o 2 = o + 1 := (ins_R (lt_off0 n3 (by decide)) (fun z => absurd z.2 (by decide))).trans q3_3
  have q4_4 : hK (ins h3 o 3 2 50) (o + 1) = 3 := (ins_K (lt_off n3 (by decide))).trans q3_4
  have q4_5 : hL (ins h3 o 3 2 50) (o + 1) = 50 := (ins_L (lt_off n3 (by decide))).trans q3_5
  have q4_6 : hR (ins h3 o 3 2 50) o 3 = o + 2 := ins_r.trans n3
  have q4_7 : hK (ins h3 o 3 2 50) (o + 2) = 2 := by rw [← n3]; exact ins_k
  have q4_8 : hL (ins h3 o 3 2 50) (o + 2) = 50 := by rw [← n3]; exact ins_l
  have n4 : hN (ins h3 o 3 2 50) = o + 3 := by rw [ins_N, n3]
  have s4 : hS (ins h3 o 3 2 50) = hS h + (0 + 50 + 50) := by rw [ins_S]; omega
  have g4 : AG 0 o h (ins h3 o 3 2 50) := AG.trans g3 (ins_ag (lt_off0 n3 (by decide)))
  generalize (ins h3 o 3 2 50) = h4 at *
  refine s_X0_init_30 (by rw [n4]; omega) (by rw [s4]; omega) ((ins_K (h := h4) (o := o) (s := 4) (kd := 3) (n := 50) (lt_off0 n4 (by decide))).trans q4_0) (ne_0 n4 (by decide)) ?_
  show RR _ _ _ _ _ _ _ (ins h4 o 4 3 50) _
  have q5_0 : hK (ins h4 o 4 3 50) o = 10 := (ins_K (lt_off0 n4 (by decide))).trans q4_0
  have q5_1 : hR (ins h4 o 4 3 50) o 0 = g := (ins_R (lt_off0 n4 (by decide)) (fun z => absurd z.2 (by decide))).trans q4_1
  have q5_2 : hR (ins h4 o 4 3 50) o 1 = p := (ins_R (lt_off0 n4 (by decide)) (fun z => absurd z.2 (by decide))).trans q4_2
  have q5_3 : hR (ins h4 o 4 3 50) o 2 = o + 1 := (ins_R (lt_off0 n4 (by decide)) (fun z => absurd z.2 (by decide))).trans q4_3
  have q5_4 : hK (ins h4 o 4 3 50) (o + 1) = 3 := (ins_K (lt_off n4 (by decide))).trans q4_4
  have q5_5 : hL (ins h4 o 4 3 50) (o + 1) = 50 := (ins_L (lt_off n4 (by decide))).trans q4_5
  have q5_6 : hR (ins h4 o 4 3 50) o 3 = o + 2 := (ins_R (lt_off0 n4 (by decide)) (fun z => absurd z.2 (by decide))).trans q4_6
  have q5_7 : hK (ins h4 o 4 3 50) (o + 2) = 2 := (ins_K (lt_off n4 (by decide))).trans q4_7
  have q5_8 : hL (ins h4 o 4 3 50) (o + 2) = 50 := (ins_L (lt_off n4 (by decide))).trans q4_8
  have q5_9 : hR (ins h4 o 4 3 50) o 4 = o + 3 := ins_r.trans n4
  have q5_10 : hK (ins h4 o 4 3 50) (o + 3) = 3 := by rw [← n4]; exact ins_k
  have q5_11 : hL (ins h4 o 4 3 50) (o + 3) = 50 := by rw [← n4]; exact ins_l
  have n5 : hN (ins h4 o 4 3 50) = o + 4 := by rw [ins_N, n4]
  have s5 : hS (ins h4 o 4 3 50) = hS h + (0 + 50 + 50 + 50) := by rw [ins_S]; omega
  have g5 : AG 0 o h (ins h4 o 4 3 50) := AG.trans g4 (ins_ag (lt_off0 n4 (by decide)))
  generalize (ins h4 o 4 3 50) = h5 at *
  refine s_X0_init_38 (by rw [n5]; omega) (by rw [s5]; omega) ((ins_K (h := h5) (o := o) (s := 5) (kd := 3) (n := 50) (lt_off0 n5 (by decide))).trans q5_0) (ne_0 n5 (by decide)) ?_
  show RR _ _ _ _ _ _ _ (ins h5 o 5 3 50) _
  have q6_0 : hK (ins h5 o 5 3 50) o = 10 := (ins_K (lt_off0 n5 (by decide))).trans q5_0
  have q6_1 : hR (ins h5 o 5 3 50) o 0 = g := (ins_R (lt_off0 n5 (by decide)) (fun z => absurd z.2 (by decide))).trans q5_1
  have q6_2 : hR (ins h5 o 5 3 50) o 1 = p := (ins_R (lt_off0 n5 (by decide)) (fun z => absurd z.2 (by decide))).trans q5_2
  have q6_3 : hR (ins h5 o 5 3 50) o 2 = o + 1 := (ins_R (lt_off0 n5 (by decide)) (fun z => absurd z.2 (by decide))).trans q5_3
  have q6_4 : hK (ins h5 o 5 3 50) (o + 1) = 3 := (ins_K (lt_off n5 (by decide))).trans q5_4
  have q6_5 : hL (ins h5 o 5 3 50) (o + 1) = 50 := (ins_L (lt_off n5 (by decide))).trans q5_5
  have q6_6 : hR (ins h5 o 5 3 50) o 3 = o + 2 := (ins_R (lt_off0 n5 (by decide)) (fun z => absurd z.2 (by decide))).trans q5_6
  have q6_7 : hK (ins h5 o 5 3 50) (o + 2) = 2 := (ins_K (lt_off n5 (by decide))).trans q5_7
  have q6_8 : hL (ins h5 o 5 3 50) (o + 2) = 50 := (ins_L (lt_off n5 (by decide))).trans q5_8
  have q6_9 : hR (ins h5 o 5 3 50) o 4 = o + 3 := (ins_R (lt_off0 n5 (by decide)) (fun z => absurd z.2 (by decide))).trans q5_9
  have q6_10 : hK (ins h5 o 5 3 50) (o + 3) = 3 := (ins_K (lt_off n5 (by decide))).trans q5_10
  have q6_11 : hL (ins h5 o 5 3 50) (o + 3) = 50 := (ins_L (lt_off n5 (by decide))).trans q5_11
  have q6_12 : hR (ins h5 o 5 3 50) o 5 = o + 4 := ins_r.trans n5
  have q6_13 : hK (ins h5 o 5 3 50) (o + 4) = 3 := by rw [← n5]; exact ins_k
  have q6_14 : hL (ins h5 o 5 3 50) (o + 4) = 50 := by rw [← n5]; exact ins_l
  have n6 : hN (ins h5 o 5 3 50) = o + 5 := by rw [ins_N, n5]
  have s6 : hS (ins h5 o 5 3 50) = hS h + (0 + 50 + 50 + 50 + 50) := by rw [ins_S]; omega
  have g6 : AG 0 o h (ins h5 o 5 3 50) := AG.trans g5 (ins_ag (lt_off0 n5 (by decide)))
  generalize (ins h5 o 5 3 50) = h6 at *
  refine s_X0_init_46 q6_0 ?_
  show RR _ _ _ _ _ _ _ (sI h6 o 6 0) _
  have q7_0 : hK (sI h6 o 6 0) o = 10 := q6_0
  have q7_1 : hR (sI h6 o 6 0) o 0 = g := q6_1
  have q7_2 : hR (sI h6 o 6 0) o 1 = p := q6_2
  have q7_3 : hR (sI h6 o 6 0) o 2 = o + 1 := q6_3
  have q7_4 : hK (sI h6 o 6 0) (o + 1) = 3 := q6_4
  have q7_5 : hL (sI h6 o 6 0) (o + 1) = 50 := q6_5
  have q7_6 : hR (sI h6 o 6 0) o 3 = o + 2 := q6_6
  have q7_7 : hK (sI h6 o 6 0) (o + 2) = 2 := q6_7
  have q7_8 : hL (sI h6 o 6 0) (o + 2) = 50 := q6_8
  have q7_9 : hR (sI h6 o 6 0) o 4 = o + 3 := q6_9
  have q7_10 : hK (sI h6 o 6 0) (o + 3) = 3 := q6_10
  have q7_11 : hL (sI h6 o 6 0) (o + 3) = 50 := q6_11
  have q7_12 : hR (sI h6 o 6 0) o 5 = o + 4 := q6_12
  have q7_13 : hK (sI h6 o 6 0) (o + 4) = 3 := q6_13
  have q7_14 : hL (sI h6 o 6 0) (o + 4) = 50 := q6_14
  have q7_15 : hI (sI h6 o 6 0) o 6 = 0 := sI_eq
  have n7 : hN (sI h6 o 6 0) = o + 5 := n6
  have s7 : hS (sI h6 o 6 0) = hS h + (0 + 50 + 50 + 50 + 50) := s6
  have g7 : AG 0 o h (sI h6 o 6 0) := AG.trans g6 sI_ag
  generalize (sI h6 o 6 0) = h7 at *
  refine s_X0_init_51 q7_0 ?_
  show RR _ _ _ _ _ _ _ (sI h7 o 7 (-1)) _
  have q8_0 : hK (sI h7 o 7 (-1)) o = 10 := q7_0
  have q8_1 : hR (sI h7 o 7 (-1)) o 0 = g := q7_1
  have q8_2 : hR (sI h7 o 7 (-1)) o 1 = p := q7_2
  have q8_3 : hR (sI h7 o 7 (-1)) o 2 = o + 1 := q7_3
  have q8_4 : hK (sI h7 o 7 (-1)) (o + 1) = 3 := q7_4
  have q8_5 : hL (sI h7 o 7 (-1)) (o + 1) = 50 := q7_5
  have q8_6 : hR (sI h7 o 7 (-1)) o 3 = o + 2 := q7_6
  have q8_7 : hK (sI h7 o 7 (-1)) (o + 2) = 2 := q7_7
  have q8_8 : hL (sI h7 o 7 (-1)) (o + 2) = 50 := q7_8
  have q8_9 : hR (sI h7 o 7 (-1)) o 4 = o + 3 := q7_9
  have q8_10 : hK (sI h7 o 7 (-1)) (o + 3) = 3 := q7_10
  have q8_11 : hL (sI h7 o 7 (-1)) (o + 3) = 50 := q7_11
  have q8_12 : hR (sI h7 o 7 (-1)) o 5 = o + 4 := q7_12
  have q8_13 : hK (sI h7 o 7 (-1)) (o + 4) = 3 := q7_13
  have q8_14 : hL (sI h7 o 7 (-1)) (o + 4) = 50 := q7_14
  have q8_15 : hI (sI h7 o 7 (-1)) o 6 = 0 := (sI_nk (by decide)).trans q7_15
  have q8_16 : hI (sI h7 o 7 (-1)) o 7 = (-1) := sI_eq
  have n8 : hN (sI h7 o 7 (-1)) = o + 5 := n7
  have s8 : hS (sI h7 o 7 (-1)) = hS h + (0 + 50 + 50 + 50 + 50) := s7
  have g8 : AG 0 o h (sI h7 o 7 (-1)) := AG.trans g7 sI_ag
  generalize (sI h7 o 7 (-1)) = h8 at *
  exact s_X0_init_56 ⟨⟨rfl, g8, ⟨q8_0, q8_1, q8_2, q8_3, q8_6, q8_9, ⟨q8_4, q8_5⟩, ⟨q8_7, q8_8⟩, ⟨q8_10, q8_11⟩, hp, hpo, q8_12, q8_13, q8_14⟩, q8_16⟩, by rw [n8, hN0], by rw [s8]⟩
theorem k_order (hN0 : hN h = o + 1) (hk : hK h o = 12) (hg : 0 < g) (hp : 0 < p) (hpo : p + 11 ≤ o) : Ev G m_X2_init [.ref o, .ref g, .ref p] h 2 80 (RV (fun h' => AG 0 o h h' ∧ OL h' o p g ∧ hI h' o 5 = -1)) := by
  refine Ev.of pn_X2_init (Nat.le_of_ble_eq_true rfl) ?_
  refine s_X2_init_0 hk (by omega) ?_
  show RR _ _ _ _ _ _ _ (sR h o 0 g) _
  have q1_0 : hK (sR h o 0 g) o = 12 := hk
  have q1_1 : hR (sR h o 0 g) o 0 = g := if_pos ⟨rfl, rfl⟩
  have n1 : hN (sR h o 0 g) = o + 1 := hN0
  have s1 : hS (sR h o 0 g) = hS h + (0) := rfl
  have g1 : AG 0 o h (sR h o 0 g) := AG.trans AG.rf sR_ag
  generalize (sR h o 0 g) = h1 at *
  refine s_X2_init_9 q1_0 (by omega) ?_
  show RR _ _ _ _ _ _ _ (sR h1 o 1 p) _
  have q2_0 : hK (sR h1 o 1 p) o = 12 := q1_0
  have q2_1 : hR (sR h1 o 1 p) o 0 = g := (if_neg (fun z => absurd z.2 (by decide))).trans q1_1
  have q2_2 : hR (sR h1 o 1 p) o 1 = p := if_pos ⟨rfl, rfl⟩
  have n2 : hN (sR h1 o 1 p) = o + 1 := n1
  have s2 : hS (sR h1 o 1 p) = hS h + (0) := s1
  have g2 : AG 0 o h (sR h1 o 1 p) := AG.trans g1 sR_ag
  generalize (sR h1 o 1 p) = h2 at *
  refine s_X2_init_14 (by rw [n2]; omega) (by rw [s2]; omega) ((ins_K (h := h2) (o := o) (s := 2) (kd := 2) (n := 40) (lt_off0 n2 (by decide))).trans q2_0) (ne_0 n2 (by decide)) ?_
  show RR _ _ _ _ _ _ _ (ins h2 o 2 2 40) _
  have q3_0 : hK (ins h2 o 2 2 40) o = 12 := (ins_K (lt_off0 n2 (by decide))).trans q2_0
  have q3_1 : hR (ins h2 o 2 2 40) o 0 = g := (ins_R (lt_off0 n2 (by decide)) (fun z => absurd z.2 (by decide))).trans q2_1
  have q3_2 : hR (ins h2 o 2 2 40) o 1 = p := (ins_R (lt_off0 n2 (by decide)) (fun z => absurd z.2 (by decide))).trans q2_2
  have q3_3 : hR (ins h2 o 2 2 40) o 2 = o + 1 := ins_r.trans n2
  have q3_4 : hK (ins h2 o 2 2 40) (o + 1) = 2 := by rw [← n2]; exact ins_k
  have q3_5 : hL (ins h2 o 2 2 40) (o + 1) = 40 := by rw [← n2]; exact ins_l
  have n3 : hN (ins h2 o 2 2 40) = o + 2 := by rw [ins_N, n2]
  have s3 : hS (ins h2 o 2 2 40) = hS h + (0 + 40) := by rw [ins_S]; omega
  have g3 : AG 0 o h (ins h2 o 2 2 40) := AG.trans g2 (ins_ag (lt_off0 n2 (by decide)))
  generalize (ins h2 o 2 2 40) = h3 at *
  refine s_X2_init_22 (by rw [n3]; omega) (by rw [s3]; omega) ((ins_K (h := h3) (o := o) (s := 3) (kd := 2) (n := 40) (lt_off0 n3 (by decide))).trans q3_0) (ne_0 n3 (by decide)) ?_
  show RR _ _ _ _ _ _ _ (ins h3 o 3 2 40) _
  have q4_0 : hK (ins h3 o 3 2 40) o = 12 := (ins_K (lt_off0 n3 (by decide))).trans q3_0
  have q4_1 : hR (ins h3 o 3 2 40) o 0 = g := (ins_R (lt_off0 n3 (by decide)) (fun z => absurd z.2 (by decide))).trans q3_1
  have q4_2 : hR (ins h3 o 3 2 40) o 1 = p := (ins_R (lt_off0 n3 (by decide)) (fun z => absurd z.2 (by decide))).trans q3_2
  have q4_3 : hR (ins h3 o 3 2 40) o 2 = o + 1 := (ins_R (lt_off0 n3 (by decide)) (fun z => absurd z.2 (by decide))).trans q3_3
  have q4_4 : hK (ins h3 o 3 2 40) (o + 1) = 2 := (ins_K (lt_off n3 (by decide))).trans q3_4
  have q4_5 : hL (ins h3 o 3 2 40) (o + 1) = 40 := (ins_L (lt_off n3 (by decide))).trans q3_5
  have q4_6 : hR (ins h3 o 3 2 40) o 3 = o + 2 := ins_r.trans n3
  have q4_7 : hK (ins h3 o 3 2 40) (o + 2) = 2 := by rw [← n3]; exact ins_k
  have q4_8 : hL (ins h3 o 3 2 40) (o + 2) = 40 := by rw [← n3]; exact ins_l
  have n4 : hN (ins h3 o 3 2 40) = o + 3 := by rw [ins_N, n3]
  have s4 : hS (ins h3 o 3 2 40) = hS h + (0 + 40 + 40) := by rw [ins_S]; omega
  have g4 : AG 0 o h (ins h3 o 3 2 40) := AG.trans g3 (ins_ag (lt_off0 n3 (by decide)))
  generalize (ins h3 o 3 2 40) = h4 at *
  refine s_X2_init_30 q4_0 ?_
  show RR _ _ _ _ _ _ _ (sI h4 o 4 0) _
  have q5_0 : hK (sI h4 o 4 0) o = 12 := q4_0
  have q5_1 : hR (sI h4 o 4 0) o 0 = g := q4_1
  have q5_2 : hR (sI h4 o 4 0) o 1 = p := q4_2
  have q5_3 : hR (sI h4 o 4 0) o 2 = o + 1 := q4_3
  have q5_4 : hK (sI h4 o 4 0) (o + 1) = 2 := q4_4
  have q5_5 : hL (sI h4 o 4 0) (o + 1) = 40 := q4_5
  have q5_6 : hR (sI h4 o 4 0) o 3 = o + 2 := q4_6
  have q5_7 : hK (sI h4 o 4 0) (o + 2) = 2 := q4_7
  have q5_8 : hL (sI h4 o 4 0) (o + 2) = 40 := q4_8
  have q5_9 : hI (sI h4 o 4 0) o 4 = 0 := sI_eq
  have n5 : hN (sI h4 o 4 0) = o + 3 := n4
  have s5 : hS (sI h4 o 4 0) = hS h + (0 + 40 + 40) := s4
  have g5 : AG 0 o h (sI h4 o 4 0) := AG.trans g4 sI_ag
  generalize (sI h4 o 4 0) = h5 at *
  refine s_X2_init_35 q5_0 ?_
  show RR _ _ _ _ _ _ _ (sI h5 o 5 (-1)) _
  have q6_0 : hK (sI h5 o 5 (-1)) o = 12 := q5_0
  have q6_1 : hR (sI h5 o 5 (-1)) o 0 = g := q5_1
  have q6_2 : hR (sI h5 o 5 (-1)) o 1 = p := q5_2
  have q6_3 : hR (sI h5 o 5 (-1)) o 2 = o + 1 := q5_3
  have q6_4 : hK (sI h5 o 5 (-1)) (o + 1) = 2 := q5_4
  have q6_5 : hL (sI h5 o 5 (-1)) (o + 1) = 40 := q5_5
  have q6_6 : hR (sI h5 o 5 (-1)) o 3 = o + 2 := q5_6
  have q6_7 : hK (sI h5 o 5 (-1)) (o + 2) = 2 := q5_7
  have q6_8 : hL (sI h5 o 5 (-1)) (o + 2) = 40 := q5_8
  have q6_9 : hI (sI h5 o 5 (-1)) o 4 = 0 := (sI_nk (by decide)).trans q5_9
  have q6_10 : hI (sI h5 o 5 (-1)) o 5 = (-1) := sI_eq
  have n6 : hN (sI h5 o 5 (-1)) = o + 3 := n5
  have s6 : hS (sI h5 o 5 (-1)) = hS h + (0 + 40 + 40) := s5
  have g6 : AG 0 o h (sI h5 o 5 (-1)) := AG.trans g5 sI_ag
  generalize (sI h5 o 5 (-1)) = h6 at *
  exact s_X2_init_40 ⟨⟨rfl, g6, ⟨q6_0, q6_1, q6_2, q6_3, q6_6, ⟨q6_4, q6_5⟩, ⟨q6_7, q6_8⟩, hp, hpo⟩, q6_10⟩, by rw [n6, hN0], by rw [s6]⟩
theorem k_tally (hN0 : hN h = o + 1) (hk : hK h o = 14) (hg : 0 < g) (hp : 0 < p) : Ev G m_X4_init [.ref o, .ref g, .ref p] h 3 33 (RV (fun h' => AG 0 o h h' ∧ TQ h' o p g ∧ hI h' o 6 = -1)) := by
  refine Ev.of pn_X4_init (Nat.le_of_ble_eq_true rfl) ?_
  refine s_X4_init_0 hk (by omega) ?_
  show RR _ _ _ _ _ _ _ (sR h o 0 g) _
  have q1_0 : hK (sR h o 0 g) o = 14 := hk
  have q1_1 : hR (sR h o 0 g) o 0 = g := if_pos ⟨rfl, rfl⟩
  have n1 : hN (sR h o 0 g) = o + 1 := hN0
  have s1 : hS (sR h o 0 g) = hS h + (0) := rfl
  have g1 : AG 0 o h (sR h o 0 g) := AG.trans AG.rf sR_ag
  generalize (sR h o 0 g) = h1 at *
  refine s_X4_init_9 q1_0 (by omega) ?_
  show RR _ _ _ _ _ _ _ (sR h1 o 1 p) _
  have q2_0 : hK (sR h1 o 1 p) o = 14 := q1_0
  have q2_1 : hR (sR h1 o 1 p) o 0 = g := (if_neg (fun z => absurd z.2 (by decide))).trans q1_1
  have q2_2 : hR (sR h1 o 1 p) o 1 = p := if_pos ⟨rfl, rfl⟩
  have n2 : hN (sR h1 o 1 p) = o + 1 := n1
  have s2 : hS (sR h1 o 1 p) = hS h + (0) := s1
  have g2 : AG 0 o h (sR h1 o 1 p) := AG.trans g1 sR_ag
  generalize (sR h1 o 1 p) = h2 at *
  refine s_X4_init_14 (by rw [n2]; omega) (by rw [s2]; omega) ((ins_K (h := h2) (o := o) (s := 2) (kd := 3) (n := 16) (lt_off0 n2 (by decide))).trans q2_0) (ne_0 n2 (by decide)) ?_
  show RR _ _ _ _ _ _ _ (ins h2 o 2 3 16) _
  have q3_0 : hK (ins h2 o 2 3 16) o = 14 := (ins_K (lt_off0 n2 (by decide))).trans q2_0
  have q3_1 : hR (ins h2 o 2 3 16) o 0 = g := (ins_R (lt_off0 n2 (by decide)) (fun z => absurd z.2 (by decide))).trans q2_1
  have q3_2 : hR (ins h2 o 2 3 16) o 1 = p := (ins_R (lt_off0 n2 (by decide)) (fun z => absurd z.2 (by decide))).trans q2_2
  have q3_3 : hR (ins h2 o 2 3 16) o 2 = o + 1 := ins_r.trans n2
  have q3_4 : hK (ins h2 o 2 3 16) (o + 1) = 3 := by rw [← n2]; exact ins_k
  have q3_5 : hL (ins h2 o 2 3 16) (o + 1) = 16 := by rw [← n2]; exact ins_l
  have n3 : hN (ins h2 o 2 3 16) = o + 2 := by rw [ins_N, n2]
  have s3 : hS (ins h2 o 2 3 16) = hS h + (0 + 16) := by rw [ins_S]; omega
  have g3 : AG 0 o h (ins h2 o 2 3 16) := AG.trans g2 (ins_ag (lt_off0 n2 (by decide)))
  generalize (ins h2 o 2 3 16) = h3 at *
  refine s_X4_init_22 (by rw [n3]; omega) (by rw [s3]; omega) ((ins_K (h := h3) (o := o) (s := 3) (kd := 2) (n := 16) (lt_off0 n3 (by decide))).trans q3_0) (ne_0 n3 (by decide)) ?_
  show RR _ _ _ _ _ _ _ (ins h3 o 3 2 16) _
  have q4_0 : hK (ins h3 o 3 2 16) o = 14 := (ins_K (lt_off0 n3 (by decide))).trans q3_0
  have q4_1 : hR (ins h3 o 3 2 16) o 0 = g := (ins_R (lt_off0 n3 (by decide)) (fun z => absurd z.2 (by decide))).trans q3_1
  have q4_2 : hR (ins h3 o 3 2 16) o 1 = p := (ins_R (lt_off0 n3 (by decide)) (fun z => absurd z.2 (by decide))).trans q3_2
  have q4_3 : hR (ins h3 o 3 2 16) o 2 = o + 1 := (ins_R (lt_off0 n3 (by decide)) (fun z => absurd z.2 (by decide))).trans q3_3
  have q4_4 : hK (ins h3 o 3 2 16) (o + 1) = 3 := (ins_K (lt_off n3 (by decide))).trans q3_4
  have q4_5 : hL (ins h3 o 3 2 16) (o + 1) = 16 := (ins_L (lt_off n3 (by decide))).trans q3_5
  have q4_6 : hR (ins h3 o 3 2 16) o 3 = o + 2 := ins_r.trans n3
  have q4_7 : hK (ins h3 o 3 2 16) (o + 2) = 2 := by rw [← n3]; exact ins_k
  have q4_8 : hL (ins h3 o 3 2 16) (o + 2) = 16 := by rw [← n3]; exact ins_l
  have n4 : hN (ins h3 o 3 2 16) = o + 3 := by rw [ins_N, n3]
  have s4 : hS (ins h3 o 3 2 16) = hS h + (0 + 16 + 16) := by rw [ins_S]; omega
  have g4 : AG 0 o h (ins h3 o 3 2 16) := AG.trans g3 (ins_ag (lt_off0 n3 (by decide)))
  generalize (ins h3 o 3 2 16) = h4 at *
  refine s_X4_init_30 (by rw [n4]; omega) (by rw [s4]; omega) ((ins_K (h := h4) (o := o) (s := 4) (kd := 3) (n := 1) (lt_off0 n4 (by decide))).trans q4_0) (ne_0 n4 (by decide)) ?_
  show RR _ _ _ _ _ _ _ (ins h4 o 4 3 1) _
  have q5_0 : hK (ins h4 o 4 3 1) o = 14 := (ins_K (lt_off0 n4 (by decide))).trans q4_0
  have q5_1 : hR (ins h4 o 4 3 1) o 0 = g := (ins_R (lt_off0 n4 (by decide)) (fun z => absurd z.2 (by decide))).trans q4_1
  have q5_2 : hR (ins h4 o 4 3 1) o 1 = p := (ins_R (lt_off0 n4 (by decide)) (fun z => absurd z.2 (by decide))).trans q4_2
  have q5_3 : hR (ins h4 o 4 3 1) o 2 = o + 1 := (ins_R (lt_off0 n4 (by decide)) (fun z => absurd z.2 (by decide))).trans q4_3
  have q5_4 : hK (ins h4 o 4 3 1) (o + 1) = 3 := (ins_K (lt_off n4 (by decide))).trans q4_4
  have q5_5 : hL (ins h4 o 4 3 1) (o + 1) = 16 := (ins_L (lt_off n4 (by decide))).trans q4_5
  have q5_6 : hR (ins h4 o 4 3 1) o 3 = o + 2 := (ins_R (lt_off0 n4 (by decide)) (fun z => absurd z.2 (by decide))).trans q4_6
  have q5_7 : hK (ins h4 o 4 3 1) (o + 2) = 2 := (ins_K (lt_off n4 (by decide))).trans q4_7
  have q5_8 : hL (ins h4 o 4 3 1) (o + 2) = 16 := (ins_L (lt_off n4 (by decide))).trans q4_8
  have q5_9 : hR (ins h4 o 4 3 1) o 4 = o + 3 := ins_r.trans n4
  have q5_10 : hK (ins h4 o 4 3 1) (o + 3) = 3 := by rw [← n4]; exact ins_k
  have q5_11 : hL (ins h4 o 4 3 1) (o + 3) = 1 := by rw [← n4]; exact ins_l
  have n5 : hN (ins h4 o 4 3 1) = o + 4 := by rw [ins_N, n4]
  have s5 : hS (ins h4 o 4 3 1) = hS h + (0 + 16 + 16 + 1) := by rw [ins_S]; omega
  have g5 : AG 0 o h (ins h4 o 4 3 1) := AG.trans g4 (ins_ag (lt_off0 n4 (by decide)))
  generalize (ins h4 o 4 3 1) = h5 at *
  refine s_X4_init_37 q5_0 ?_
  show RR _ _ _ _ _ _ _ (sJ h5 o 5 1) _
  have q6_0 : hK (sJ h5 o 5 1) o = 14 := q5_0
  have q6_1 : hR (sJ h5 o 5 1) o 0 = g := q5_1
  have q6_2 : hR (sJ h5 o 5 1) o 1 = p := q5_2
  have q6_3 : hR (sJ h5 o 5 1) o 2 = o + 1 := q5_3
  have q6_4 : hK (sJ h5 o 5 1) (o + 1) = 3 := q5_4
  have q6_5 : hL (sJ h5 o 5 1) (o + 1) = 16 := q5_5
  have q6_6 : hR (sJ h5 o 5 1) o 3 = o + 2 := q5_6
  have q6_7 : hK (sJ h5 o 5 1) (o + 2) = 2 := q5_7
  have q6_8 : hL (sJ h5 o 5 1) (o + 2) = 16 := q5_8
  have q6_9 : hR (sJ h5 o 5 1) o 4 = o + 3 := q5_9
  have q6_10 : hK (sJ h5 o 5 1) (o + 3) = 3 := q5_10
  have q6_11 : hL (sJ h5 o 5 1) (o + 3) = 1 := q5_11
  have q6_12 : hJ (sJ h5 o 5 1) o 5 = 1 := sJ_eq
  have n6 : hN (sJ h5 o 5 1) = o + 4 := n5
  have s6 : hS (sJ h5 o 5 1) = hS h + (0 + 16 + 16 + 1) := s5
  have g6 : AG 0 o h (sJ h5 o 5 1) := AG.trans g5 sJ_ag
  generalize (sJ h5 o 5 1) = h6 at *
  refine s_X4_init_42 q6_0 ?_
  show RR _ _ _ _ _ _ _ (sI h6 o 6 (-1)) _
  have q7_0 : hK (sI h6 o 6 (-1)) o = 14 := q6_0
  have q7_1 : hR (sI h6 o 6 (-1)) o 0 = g := q6_1
  have q7_2 : hR (sI h6 o 6 (-1)) o 1 = p := q6_2
  have q7_3 : hR (sI h6 o 6 (-1)) o 2 = o + 1 := q6_3
  have q7_4 : hK (sI h6 o 6 (-1)) (o + 1) = 3 := q6_4
  have q7_5 : hL (sI h6 o 6 (-1)) (o + 1) = 16 := q6_5
  have q7_6 : hR (sI h6 o 6 (-1)) o 3 = o + 2 := q6_6
  have q7_7 : hK (sI h6 o 6 (-1)) (o + 2) = 2 := q6_7
  have q7_8 : hL (sI h6 o 6 (-1)) (o + 2) = 16 := q6_8
  have q7_9 : hR (sI h6 o 6 (-1)) o 4 = o + 3 := q6_9
  have q7_10 : hK (sI h6 o 6 (-1)) (o + 3) = 3 := q6_10
  have q7_11 : hL (sI h6 o 6 (-1)) (o + 3) = 1 := q6_11
  have q7_12 : hJ (sI h6 o 6 (-1)) o 5 = 1 := q6_12
  have q7_13 : hI (sI h6 o 6 (-1)) o 6 = (-1) := sI_eq
  have n7 : hN (sI h6 o 6 (-1)) = o + 4 := n6
  have s7 : hS (sI h6 o 6 (-1)) = hS h + (0 + 16 + 16 + 1) := s6
  have g7 : AG 0 o h (sI h6 o 6 (-1)) := AG.trans g6 sI_ag
  generalize (sI h6 o 6 (-1)) = h7 at *
  exact s_X4_init_47 ⟨⟨rfl, g7, ⟨q7_0, q7_1, q7_2, q7_3, q7_6, q7_9, ⟨q7_4, q7_5⟩, ⟨q7_7, q7_8⟩, q7_10, q7_11⟩, q7_13⟩, by rw [n7, hN0], by rw [s7]⟩
theorem k_pair (hN0 : hN h = o + 1) (hk : hK h o = 13) (hg0 : 0 < g) (hg : GL h g m) (hgo : g + 5 ≤ o) (hm : m ≤ 50) : Ev G m_X3_init [.ref o, .ref g] h 10 (14 + 4 * m) (RV (fun h' => AG 0 o h h' ∧ PL h' o g m ∧ hI h' o 8 = -1)) := by
  refine Ev.of pn_X3_init (Nat.le_of_ble_eq_true rfl) ?_
  refine s_X3_init_0 hk (by omega) ?_
  show RR _ _ _ _ _ _ _ (sR h o 0 g) _
  have q1_0 : hK (sR h o 0 g) o = 13 := hk
  have q1_1 : hR (sR h o 0 g) o 0 = g := if_pos ⟨rfl, rfl⟩
  have n1 : hN (sR h o 0 g) = o + 1 := hN0
  have s1 : hS (sR h o 0 g) = hS h + (0) := rfl
  have g1 : AG 0 o h (sR h o 0 g) := AG.trans AG.rf sR_ag
  generalize (sR h o 0 g) = h1 at *
  refine s_X3_init_9 (n2 := m) (ev_most (hg.ag (AG.sub g1 (Nat.zero_le _) hgo))) (hg.ag (AG.sub g1 (Nat.zero_le _) hgo)).1 (nI_pos (by omega)) (nI_clamp (by omega)) (by omega) (by rw [n1]; omega) (by rw [s1]; omega) ((insM_K (h := h1) (o := o) (s := 1) (kd := 5) (kd2 := 2) (n := m) (lt_off0 n1 (by decide))).trans q1_0) (ne_0 n1 (by decide)) ?_
  show RR _ _ _ _ _ _ _ (insM h1 o 1 5 2 m) _
  have q2_0 : hK (insM h1 o 1 5 2 m) o = 13 := (insM_K (lt_off0 n1 (by decide))).trans q1_0
  have q2_1 : hR (insM h1 o 1 5 2 m) o 0 = g := (insM_R (lt_off0 n1 (by decide)) (fun z => absurd z.2 (by decide))).trans q1_1
  have q2_2 : hR (insM h1 o 1 5 2 m) o 1 = o + 1 := insM_r.trans n1
  have q2_3 : hK (insM h1 o 1 5 2 m) (o + 1) = 5 := by rw [← n1]; exact insM_k
  have q2_4 : hL (insM h1 o 1 5 2 m) (o + 1) = 2 := by rw [← n1]; exact insM_l
  have q2_5 : hK (insM h1 o 1 5 2 m) (o + 2) = 2 := by have a := (insM_in (h := h1) (o := o) (s := 1) (kd := 5) (kd2 := 2) (n := m) (i := 0) (by decide) (lt_off0 n1 (by decide))).1; rw [n1] at a; exact a
  have q2_6 : hL (insM h1 o 1 5 2 m) (o + 2) = m := by have a := (insM_in (h := h1) (o := o) (s := 1) (kd := 5) (kd2 := 2) (n := m) (i := 0) (by decide) (lt_off0 n1 (by decide))).2.1; rw [n1] at a; exact a
  have q2_7 : hR (insM h1 o 1 5 2 m) (o + 1) 0 = o + 2 := by have a := (insM_in (h := h1) (o := o) (s := 1) (kd := 5) (kd2 := 2) (n := m) (i := 0) (by decide) (lt_off0 n1 (by decide))).2.2.1; rw [n1] at a; exact a
  have q2_8 : hK (insM h1 o 1 5 2 m) (o + 3) = 2 := by have a := (insM_in (h := h1) (o := o) (s := 1) (kd := 5) (kd2 := 2) (n := m) (i := 1) (by decide) (lt_off0 n1 (by decide))).1; rw [n1] at a; exact a
  have q2_9 : hL (insM h1 o 1 5 2 m) (o + 3) = m := by have a := (insM_in (h := h1) (o := o) (s := 1) (kd := 5) (kd2 := 2) (n := m) (i := 1) (by decide) (lt_off0 n1 (by decide))).2.1; rw [n1] at a; exact a
  have q2_10 : hR (insM h1 o 1 5 2 m) (o + 1) 1 = o + 3 := by have a := (insM_in (h := h1) (o := o) (s := 1) (kd := 5) (kd2 := 2) (n := m) (i := 1) (by decide) (lt_off0 n1 (by decide))).2.2.1; rw [n1] at a; exact a
  have n2 : hN (insM h1 o 1 5 2 m) = o + 4 := by rw [insM_N, n1]
  have s2 : hS (insM h1 o 1 5 2 m) = hS h + (0 + 2 + 2 * m) := by rw [insM_S]; omega
  have g2 : AG 0 o h (insM h1 o 1 5 2 m) := AG.trans g1 (insM_ag (lt_off0 n1 (by decide)))
  generalize (insM h1 o 1 5 2 m) = h2 at *
  refine s_X3_init_22 (by rw [n2]; omega) (by rw [s2]; omega) ((ins_K (h := h2) (o := o) (s := 2) (kd := 3) (n := 2) (lt_off0 n2 (by decide))).trans q2_0) (ne_0 n2 (by decide)) ?_
  show RR _ _ _ _ _ _ _ (ins h2 o 2 3 2) _
  have q3_0 : hK (ins h2 o 2 3 2) o = 13 := (ins_K (lt_off0 n2 (by decide))).trans q2_0
  have q3_1 : hR (ins h2 o 2 3 2) o 0 = g := (ins_R (lt_off0 n2 (by decide)) (fun z => absurd z.2 (by decide))).trans q2_1
  have q3_2 : hR (ins h2 o 2 3 2) o 1 = o + 1 := (ins_R (lt_off0 n2 (by decide)) (fun z => absurd z.2 (by decide))).trans q2_2
  have q3_3 : hK (ins h2 o 2 3 2) (o + 1) = 5 := (ins_K (lt_off n2 (by decide))).trans q2_3
  have q3_4 : hL (ins h2 o 2 3 2) (o + 1) = 2 := (ins_L (lt_off n2 (by decide))).trans q2_4
  have q3_5 : hK (ins h2 o 2 3 2) (o + 2) = 2 := (ins_K (lt_off n2 (by decide))).trans q2_5
  have q3_6 : hL (ins h2 o 2 3 2) (o + 2) = m := (ins_L (lt_off n2 (by decide))).trans q2_6
  have q3_7 : hR (ins h2 o 2 3 2) (o + 1) 0 = o + 2 := (ins_R (lt_off n2 (by decide)) (fun z => absurd z.1 (ne_off (by decide)))).trans q2_7
  have q3_8 : hK (ins h2 o 2 3 2) (o + 3) = 2 := (ins_K (lt_off n2 (by decide))).trans q2_8
  have q3_9 : hL (ins h2 o 2 3 2) (o + 3) = m := (ins_L (lt_off n2 (by decide))).trans q2_9
  have q3_10 : hR (ins h2 o 2 3 2) (o + 1) 1 = o + 3 := (ins_R (lt_off n2 (by decide)) (fun z => absurd z.1 (ne_off (by decide)))).trans q2_10
  have q3_11 : hR (ins h2 o 2 3 2) o 2 = o + 4 := ins_r.trans n2
  have q3_12 : hK (ins h2 o 2 3 2) (o + 4) = 3 := by rw [← n2]; exact ins_k
  have q3_13 : hL (ins h2 o 2 3 2) (o + 4) = 2 := by rw [← n2]; exact ins_l
  have n3 : hN (ins h2 o 2 3 2) = o + 5 := by rw [ins_N, n2]
  have s3 : hS (ins h2 o 2 3 2) = hS h + (0 + 2 + 2 * m + 2) := by rw [ins_S]; omega
  have g3 : AG 0 o h (ins h2 o 2 3 2) := AG.trans g2 (ins_ag (lt_off0 n2 (by decide)))
  generalize (ins h2 o 2 3 2) = h3 at *
  refine s_X3_init_29 (by rw [n3]; omega) (by rw [s3]; omega) ((ins_K (h := h3) (o := o) (s := 3) (kd := 3) (n := 2) (lt_off0 n3 (by decide))).trans q3_0) (ne_0 n3 (by decide)) ?_
  show RR _ _ _ _ _ _ _ (ins h3 o 3 3 2) _
  have q4_0 : hK (ins h3 o 3 3 2) o = 13 := (ins_K (lt_off0 n3 (by decide))).trans q3_0
  have q4_1 : hR (ins h3 o 3 3 2) o 0 = g := (ins_R (lt_off0 n3 (by decide)) (fun z => absurd z.2 (by decide))).trans q3_1
  have q4_2 : hR (ins h3 o 3 3 2) o 1 = o + 1 := (ins_R (lt_off0 n3 (by decide)) (fun z => absurd z.2 (by decide))).trans q3_2
  have q4_3 : hK (ins h3 o 3 3 2) (o + 1) = 5 := (ins_K (lt_off n3 (by decide))).trans q3_3
  have q4_4 : hL (ins h3 o 3 3 2) (o + 1) = 2 := (ins_L (lt_off n3 (by decide))).trans q3_4
  have q4_5 : hK (ins h3 o 3 3 2) (o + 2) = 2 := (ins_K (lt_off n3 (by decide))).trans q3_5
  have q4_6 : hL (ins h3 o 3 3 2) (o + 2) = m := (ins_L (lt_off n3 (by decide))).trans q3_6
  have q4_7 : hR (ins h3 o 3 3 2) (o + 1) 0 = o + 2 := (ins_R (lt_off n3 (by decide)) (fun z => absurd z.1 (ne_off (by decide)))).trans q3_7
  have q4_8 : hK (ins h3 o 3 3 2) (o + 3) = 2 := (ins_K (lt_off n3 (by decide))).trans q3_8
  have q4_9 : hL (ins h3 o 3 3 2) (o + 3) = m := (ins_L (lt_off n3 (by decide))).trans q3_9
  have q4_10 : hR (ins h3 o 3 3 2) (o + 1) 1 = o + 3 := (ins_R (lt_off n3 (by decide)) (fun z => absurd z.1 (ne_off (by decide)))).trans q3_10
  have q4_11 : hR (ins h3 o 3 3 2) o 2 = o + 4 := (ins_R (lt_off0 n3 (by decide)) (fun z => absurd z.2 (by decide))).trans q3_11
  have q4_12 : hK (ins h3 o 3 3 2) (o + 4) = 3 := (ins_K (lt_off n3 (by decide))).trans q3_12
  have q4_13 : hL (ins h3 o 3 3 2) (o + 4) = 2 := (ins_L (lt_off n3 (by decide))).trans q3_13
  have q4_14 : hR (ins h3 o 3 3 2) o 3 = o + 5 := ins_r.trans n3
  have q4_15 : hK (ins h3 o 3 3 2) (o + 5) = 3 := by rw [← n3]; exact ins_k
  have q4_16 : hL (ins h3 o 3 3 2) (o + 5) = 2 := by rw [← n3]; exact ins_l
  have n4 : hN (ins h3 o 3 3 2) = o + 6 := by rw [ins_N, n3]
  have s4 : hS (ins h3 o 3 3 2) = hS h + (0 + 2 + 2 * m + 2 + 2) := by rw [ins_S]; omega
  have g4 : AG 0 o h (ins h3 o 3 3 2) := AG.trans g3 (ins_ag (lt_off0 n3 (by decide)))
  generalize (ins h3 o 3 3 2) = h4 at *
  refine s_X3_init_36 (by rw [n4]; omega) (by rw [s4]; omega) ((insM_K (h := h4) (o := o) (s := 4) (kd := 6) (kd2 := 3) (n := 3) (lt_off0 n4 (by decide))).trans q4_0) (ne_0 n4 (by decide)) ?_
  show RR _ _ _ _ _ _ _ (insM h4 o 4 6 3 3) _
  have q5_0 : hK (insM h4 o 4 6 3 3) o = 13 := (insM_K (lt_off0 n4 (by decide))).trans q4_0
  have q5_1 : hR (insM h4 o 4 6 3 3) o 0 = g := (insM_R (lt_off0 n4 (by decide)) (fun z => absurd z.2 (by decide))).trans q4_1
  have q5_2 : hR (insM h4 o 4 6 3 3) o 1 = o + 1 := (insM_R (lt_off0 n4 (by decide)) (fun z => absurd z.2 (by decide))).trans q4_2
  have q5_3 : hK (insM h4 o 4 6 3 3) (o + 1) = 5 := (insM_K (lt_off n4 (by decide))).trans q4_3
  have q5_4 : hL (insM h4 o 4 6 3 3) (o + 1) = 2 := (insM_L (lt_off n4 (by decide))).trans q4_4
  have q5_5 : hK (insM h4 o 4 6 3 3) (o + 2) = 2 := (insM_K (lt_off n4 (by decide))).trans q4_5
  have q5_6 : hL (insM h4 o 4 6 3 3) (o + 2) = m := (insM_L (lt_off n4 (by decide))).trans q4_6
  have q5_7 : hR (insM h4 o 4 6 3 3) (o + 1) 0 = o + 2 := (insM_R (lt_off n4 (by decide)) (fun z => absurd z.1 (ne_off (by decide)))).trans q4_7
  have q5_8 : hK (insM h4 o 4 6 3 3) (o + 3) = 2 := (insM_K (lt_off n4 (by decide))).trans q4_8
  have q5_9 : hL (insM h4 o 4 6 3 3) (o + 3) = m := (insM_L (lt_off n4 (by decide))).trans q4_9
  have q5_10 : hR (insM h4 o 4 6 3 3) (o + 1) 1 = o + 3 := (insM_R (lt_off n4 (by decide)) (fun z => absurd z.1 (ne_off (by decide)))).trans q4_10
  have q5_11 : hR (insM h4 o 4 6 3 3) o 2 = o + 4 := (insM_R (lt_off0 n4 (by decide)) (fun z => absurd z.2 (by decide))).trans q4_11
  have q5_12 : hK (insM h4 o 4 6 3 3) (o + 4) = 3 := (insM_K (lt_off n4 (by decide))).trans q4_12
  have q5_13 : hL (insM h4 o 4 6 3 3) (o + 4) = 2 := (insM_L (lt_off n4 (by decide))).trans q4_13
  have q5_14 : hR (insM h4 o 4 6 3 3) o 3 = o + 5 := (insM_R (lt_off0 n4 (by decide)) (fun z => absurd z.2 (by decide))).trans q4_14
  have q5_15 : hK (insM h4 o 4 6 3 3) (o + 5) = 3 := (insM_K (lt_off n4 (by decide))).trans q4_15
  have q5_16 : hL (insM h4 o 4 6 3 3) (o + 5) = 2 := (insM_L (lt_off n4 (by decide))).trans q4_16
  have q5_17 : hR (insM h4 o 4 6 3 3) o 4 = o + 6 := insM_r.trans n4
  have q5_18 : hK (insM h4 o 4 6 3 3) (o + 6) = 6 := by rw [← n4]; exact insM_k
  have q5_19 : hL (insM h4 o 4 6 3 3) (o + 6) = 2 := by rw [← n4]; exact insM_l
  have q5_20 : hK (insM h4 o 4 6 3 3) (o + 7) = 3 := by have a := (insM_in (h := h4) (o := o) (s := 4) (kd := 6) (kd2 := 3) (n := 3) (i := 0) (by decide) (lt_off0 n4 (by decide))).1; rw [n4] at a; exact a
  have q5_21 : hL (insM h4 o 4 6 3 3) (o + 7) = 3 := by have a := (insM_in (h := h4) (o := o) (s := 4) (kd := 6) (kd2 := 3) (n := 3) (i := 0) (by decide) (lt_off0 n4 (by decide))).2.1; rw [n4] at a; exact a
  have q5_22 : hR (insM h4 o 4 6 3 3) (o + 6) 0 = o + 7 := by have a := (insM_in (h := h4) (o := o) (s := 4) (kd := 6) (kd2 := 3) (n := 3) (i := 0) (by decide) (lt_off0 n4 (by decide))).2.2.1; rw [n4] at a; exact a
  have q5_23 : hK (insM h4 o 4 6 3 3) (o + 8) = 3 := by have a := (insM_in (h := h4) (o := o) (s := 4) (kd := 6) (kd2 := 3) (n := 3) (i := 1) (by decide) (lt_off0 n4 (by decide))).1; rw [n4] at a; exact a
  have q5_24 : hL (insM h4 o 4 6 3 3) (o + 8) = 3 := by have a := (insM_in (h := h4) (o := o) (s := 4) (kd := 6) (kd2 := 3) (n := 3) (i := 1) (by decide) (lt_off0 n4 (by decide))).2.1; rw [n4] at a; exact a
  have q5_25 : hR (insM h4 o 4 6 3 3) (o + 6) 1 = o + 8 := by have a := (insM_in (h := h4) (o := o) (s := 4) (kd := 6) (kd2 := 3) (n := 3) (i := 1) (by decide) (lt_off0 n4 (by decide))).2.2.1; rw [n4] at a; exact a
  have n5 : hN (insM h4 o 4 6 3 3) = o + 9 := by rw [insM_N, n4]
  have s5 : hS (insM h4 o 4 6 3 3) = hS h + (0 + 2 + 2 * m + 2 + 2 + 2 + 2 * 3) := by rw [insM_S]; omega
  have g5 : AG 0 o h (insM h4 o 4 6 3 3) := AG.trans g4 (insM_ag (lt_off0 n4 (by decide)))
  generalize (insM h4 o 4 6 3 3) = h5 at *
  refine s_X3_init_46 (n2 := m) (ev_most (hg.ag (AG.sub g5 (Nat.zero_le _) hgo))) (hg.ag (AG.sub g5 (Nat.zero_le _) hgo)).1 (nI_pos (by omega)) (nI_clamp (by omega)) (by omega) (by rw [n5]; omega) (by rw [s5]; omega) ((ins_K (h := h5) (o := o) (s := 5) (kd := 2) (n := m) (lt_off0 n5 (by decide))).trans q5_0) (ne_0 n5 (by decide)) ?_
  show RR _ _ _ _ _ _ _ (ins h5 o 5 2 m) _
  have q6_0 : hK (ins h5 o 5 2 m) o = 13 := (ins_K (lt_off0 n5 (by decide))).trans q5_0
  have q6_1 : hR (ins h5 o 5 2 m) o 0 = g := (ins_R (lt_off0 n5 (by decide)) (fun z => absurd z.2 (by decide))).trans q5_1
  have q6_2 : hR (ins h5 o 5 2 m) o 1 = o + 1 := (ins_R (lt_off0 n5 (by decide)) (fun z => absurd z.2 (by decide))).trans q5_2
  have q6_3 : hK (ins h5 o 5 2 m) (o + 1) = 5 := (ins_K (lt_off n5 (by decide))).trans q5_3
  have q6_4 : hL (ins h5 o 5 2 m) (o + 1) = 2 := (ins_L (lt_off n5 (by decide))).trans q5_4
  have q6_5 : hK (ins h5 o 5 2 m) (o + 2) = 2 := (ins_K (lt_off n5 (by decide))).trans q5_5
  have q6_6 : hL (ins h5 o 5 2 m) (o + 2) = m := (ins_L (lt_off n5 (by decide))).trans q5_6
  have q6_7 : hR (ins h5 o 5 2 m) (o + 1) 0 = o + 2 := (ins_R (lt_off n5 (by decide)) (fun z => absurd z.1 (ne_off (by decide)))).trans q5_7
  have q6_8 : hK (ins h5 o 5 2 m) (o + 3) = 2 := (ins_K (lt_off n5 (by decide))).trans q5_8
  have q6_9 : hL (ins h5 o 5 2 m) (o + 3) = m := (ins_L (lt_off n5 (by decide))).trans q5_9
  have q6_10 : hR (ins h5 o 5 2 m) (o + 1) 1 = o + 3 := (ins_R (lt_off n5 (by decide)) (fun z => absurd z.1 (ne_off (by decide)))).trans q5_10
  have q6_11 : hR (ins h5 o 5 2 m) o 2 = o + 4 := (ins_R (lt_off0 n5 (by decide)) (fun z => absurd z.2 (by decide))).trans q5_11
  have q6_12 : hK (ins h5 o 5 2 m) (o + 4) = 3 := (ins_K (lt_off n5 (by decide))).trans q5_12
  have q6_13 : hL (ins h5 o 5 2 m) (o + 4) = 2 := (ins_L (lt_off n5 (by decide))).trans q5_13
  have q6_14 : hR (ins h5 o 5 2 m) o 3 = o + 5 := (ins_R (lt_off0 n5 (by decide)) (fun z => absurd z.2 (by decide))).trans q5_14
  have q6_15 : hK (ins h5 o 5 2 m) (o + 5) = 3 := (ins_K (lt_off n5 (by decide))).trans q5_15
  have q6_16 : hL (ins h5 o 5 2 m) (o + 5) = 2 := (ins_L (lt_off n5 (by decide))).trans q5_16
  have q6_17 : hR (ins h5 o 5 2 m) o 4 = o + 6 := (ins_R (lt_off0 n5 (by decide)) (fun z => absurd z.2 (by decide))).trans q5_17
  have q6_18 : hK (ins h5 o 5 2 m) (o + 6) = 6 := (ins_K (lt_off n5 (by decide))).trans q5_18
  have q6_19 : hL (ins h5 o 5 2 m) (o + 6) = 2 := (ins_L (lt_off n5 (by decide))).trans q5_19
  have q6_20 : hK (ins h5 o 5 2 m) (o + 7) = 3 := (ins_K (lt_off n5 (by decide))).trans q5_20
  have q6_21 : hL (ins h5 o 5 2 m) (o + 7) = 3 := (ins_L (lt_off n5 (by decide))).trans q5_21
  have q6_22 : hR (ins h5 o 5 2 m) (o + 6) 0 = o + 7 := (ins_R (lt_off n5 (by decide)) (fun z => absurd z.1 (ne_off (by decide)))).trans q5_22
  have q6_23 : hK (ins h5 o 5 2 m) (o + 8) = 3 := (ins_K (lt_off n5 (by decide))).trans q5_23
  have q6_24 : hL (ins h5 o 5 2 m) (o + 8) = 3 := (ins_L (lt_off n5 (by decide))).trans q5_24
  have q6_25 : hR (ins h5 o 5 2 m) (o + 6) 1 = o + 8 := (ins_R (lt_off n5 (by decide)) (fun z => absurd z.1 (ne_off (by decide)))).trans q5_25
  have q6_26 : hR (ins h5 o 5 2 m) o 5 = o + 9 := ins_r.trans n5
  have q6_27 : hK (ins h5 o 5 2 m) (o + 9) = 2 := by rw [← n5]; exact ins_k
  have q6_28 : hL (ins h5 o 5 2 m) (o + 9) = m := by rw [← n5]; exact ins_l
  have n6 : hN (ins h5 o 5 2 m) = o + 10 := by rw [ins_N, n5]
  have s6 : hS (ins h5 o 5 2 m) = hS h + (0 + 2 + 2 * m + 2 + 2 + 2 + 2 * 3 + m) := by rw [ins_S]; omega
  have g6 : AG 0 o h (ins h5 o 5 2 m) := AG.trans g5 (ins_ag (lt_off0 n5 (by decide)))
  generalize (ins h5 o 5 2 m) = h6 at *
  refine s_X3_init_56 (n2 := m) (ev_most (hg.ag (AG.sub g6 (Nat.zero_le _) hgo))) (hg.ag (AG.sub g6 (Nat.zero_le _) hgo)).1 (nI_pos (by omega)) (nI_clamp (by omega)) (by omega) (by rw [n6]; omega) (by rw [s6]; omega) ((ins_K (h := h6) (o := o) (s := 6) (kd := 2) (n := m) (lt_off0 n6 (by decide))).trans q6_0) (ne_0 n6 (by decide)) ?_
  show RR _ _ _ _ _ _ _ (ins h6 o 6 2 m) _
  have q7_0 : hK (ins h6 o 6 2 m) o = 13 := (ins_K (lt_off0 n6 (by decide))).trans q6_0
  have q7_1 : hR (ins h6 o 6 2 m) o 0 = g := (ins_R (lt_off0 n6 (by decide)) (fun z => absurd z.2 (by decide))).trans q6_1
  have q7_2 : hR (ins h6 o 6 2 m) o 1 = o + 1 := (ins_R (lt_off0 n6 (by decide)) (fun z => absurd z.2 (by decide))).trans q6_2
  have q7_3 : hK (ins h6 o 6 2 m) (o + 1) = 5 := (ins_K (lt_off n6 (by decide))).trans q6_3
  have q7_4 : hL (ins h6 o 6 2 m) (o + 1) = 2 := (ins_L (lt_off n6 (by decide))).trans q6_4
  have q7_5 : hK (ins h6 o 6 2 m) (o + 2) = 2 := (ins_K (lt_off n6 (by decide))).trans q6_5
  have q7_6 : hL (ins h6 o 6 2 m) (o + 2) = m := (ins_L (lt_off n6 (by decide))).trans q6_6
  have q7_7 : hR (ins h6 o 6 2 m) (o + 1) 0 = o + 2 := (ins_R (lt_off n6 (by decide)) (fun z => absurd z.1 (ne_off (by decide)))).trans q6_7
  have q7_8 : hK (ins h6 o 6 2 m) (o + 3) = 2 := (ins_K (lt_off n6 (by decide))).trans q6_8
  have q7_9 : hL (ins h6 o 6 2 m) (o + 3) = m := (ins_L (lt_off n6 (by decide))).trans q6_9
  have q7_10 : hR (ins h6 o 6 2 m) (o + 1) 1 = o + 3 := (ins_R (lt_off n6 (by decide)) (fun z => absurd z.1 (ne_off (by decide)))).trans q6_10
  have q7_11 : hR (ins h6 o 6 2 m) o 2 = o + 4 := (ins_R (lt_off0 n6 (by decide)) (fun z => absurd z.2 (by decide))).trans q6_11
  have q7_12 : hK (ins h6 o 6 2 m) (o + 4) = 3 := (ins_K (lt_off n6 (by decide))).trans q6_12
  have q7_13 : hL (ins h6 o 6 2 m) (o + 4) = 2 := (ins_L (lt_off n6 (by decide))).trans q6_13
  have q7_14 : hR (ins h6 o 6 2 m) o 3 = o + 5 := (ins_R (lt_off0 n6 (by decide)) (fun z => absurd z.2 (by decide))).trans q6_14
  have q7_15 : hK (ins h6 o 6 2 m) (o + 5) = 3 := (ins_K (lt_off n6 (by decide))).trans q6_15
  have q7_16 : hL (ins h6 o 6 2 m) (o + 5) = 2 := (ins_L (lt_off n6 (by decide))).trans q6_16
  have q7_17 : hR (ins h6 o 6 2 m) o 4 = o + 6 := (ins_R (lt_off0 n6 (by decide)) (fun z => absurd z.2 (by decide))).trans q6_17
  have q7_18 : hK (ins h6 o 6 2 m) (o + 6) = 6 := (ins_K (lt_off n6 (by decide))).trans q6_18
  have q7_19 : hL (ins h6 o 6 2 m) (o + 6) = 2 := (ins_L (lt_off n6 (by decide))).trans q6_19
  have q7_20 : hK (ins h6 o 6 2 m) (o + 7) = 3 := (ins_K (lt_off n6 (by decide))).trans q6_20
  have q7_21 : hL (ins h6 o 6 2 m) (o + 7) = 3 := (ins_L (lt_off n6 (by decide))).trans q6_21
  have q7_22 : hR (ins h6 o 6 2 m) (o + 6) 0 = o + 7 := (ins_R (lt_off n6 (by decide)) (fun z => absurd z.1 (ne_off (by decide)))).trans q6_22
  have q7_23 : hK (ins h6 o 6 2 m) (o + 8) = 3 := (ins_K (lt_off n6 (by decide))).trans q6_23
  have q7_24 : hL (ins h6 o 6 2 m) (o + 8) = 3 := (ins_L (lt_off n6 (by decide))).trans q6_24
  have q7_25 : hR (ins h6 o 6 2 m) (o + 6) 1 = o + 8 := (ins_R (lt_off n6 (by decide)) (fun z => absurd z.1 (ne_off (by decide)))).trans q6_25
  have q7_26 : hR (ins h6 o 6 2 m) o 5 = o + 9 := (ins_R (lt_off0 n6 (by decide)) (fun z => absurd z.2 (by decide))).trans q6_26
  have q7_27 : hK (ins h6 o 6 2 m) (o + 9) = 2 := (ins_K (lt_off n6 (by decide))).trans q6_27
  have q7_28 : hL (ins h6 o 6 2 m) (o + 9) = m := (ins_L (lt_off n6 (by decide))).trans q6_28
  have q7_29 : hR (ins h6 o 6 2 m) o 6 = o + 10 := ins_r.trans n6
  have q7_30 : hK (ins h6 o 6 2 m) (o + 10) = 2 := by rw [← n6]; exact ins_k
  have q7_31 : hL (ins h6 o 6 2 m) (o + 10) = m := by rw [← n6]; exact ins_l
  have n7 : hN (ins h6 o 6 2 m) = o + 11 := by rw [ins_N, n6]
  have s7 : hS (ins h6 o 6 2 m) = hS h + (0 + 2 + 2 * m + 2 + 2 + 2 + 2 * 3 + m + m) := by rw [ins_S]; omega
  have g7 : AG 0 o h (ins h6 o 6 2 m) := AG.trans g6 (ins_ag (lt_off0 n6 (by decide)))
  generalize (ins h6 o 6 2 m) = h7 at *
  refine s_X3_init_66 q7_0 ?_
  show RR _ _ _ _ _ _ _ (sI h7 o 7 0) _
  have q8_0 : hK (sI h7 o 7 0) o = 13 := q7_0
  have q8_1 : hR (sI h7 o 7 0) o 0 = g := q7_1
  have q8_2 : hR (sI h7 o 7 0) o 1 = o + 1 := q7_2
  have q8_3 : hK (sI h7 o 7 0) (o + 1) = 5 := q7_3
  have q8_4 : hL (sI h7 o 7 0) (o + 1) = 2 := q7_4
  have q8_5 : hK (sI h7 o 7 0) (o + 2) = 2 := q7_5
  have q8_6 : hL (sI h7 o 7 0) (o + 2) = m := q7_6
  have q8_7 : hR (sI h7 o 7 0) (o + 1) 0 = o + 2 := q7_7
  have q8_8 : hK (sI h7 o 7 0) (o + 3) = 2 := q7_8
  have q8_9 : hL (sI h7 o 7 0) (o + 3) = m := q7_9
  have q8_10 : hR (sI h7 o 7 0) (o + 1) 1 = o + 3 := q7_10
  have q8_11 : hR (sI h7 o 7 0) o 2 = o + 4 := q7_11
  have q8_12 : hK (sI h7 o 7 0) (o + 4) = 3 := q7_12
  have q8_13 : hL (sI h7 o 7 0) (o + 4) = 2 := q7_13
  have q8_14 : hR (sI h7 o 7 0) o 3 = o + 5 := q7_14
  have q8_15 : hK (sI h7 o 7 0) (o + 5) = 3 := q7_15
  have q8_16 : hL (sI h7 o 7 0) (o + 5) = 2 := q7_16
  have q8_17 : hR (sI h7 o 7 0) o 4 = o + 6 := q7_17
  have q8_18 : hK (sI h7 o 7 0) (o + 6) = 6 := q7_18
  have q8_19 : hL (sI h7 o 7 0) (o + 6) = 2 := q7_19
  have q8_20 : hK (sI h7 o 7 0) (o + 7) = 3 := q7_20
  have q8_21 : hL (sI h7 o 7 0) (o + 7) = 3 := q7_21
  have q8_22 : hR (sI h7 o 7 0) (o + 6) 0 = o + 7 := q7_22
  have q8_23 : hK (sI h7 o 7 0) (o + 8) = 3 := q7_23
  have q8_24 : hL (sI h7 o 7 0) (o + 8) = 3 := q7_24
  have q8_25 : hR (sI h7 o 7 0) (o + 6) 1 = o + 8 := q7_25
  have q8_26 : hR (sI h7 o 7 0) o 5 = o + 9 := q7_26
  have q8_27 : hK (sI h7 o 7 0) (o + 9) = 2 := q7_27
  have q8_28 : hL (sI h7 o 7 0) (o + 9) = m := q7_28
  have q8_29 : hR (sI h7 o 7 0) o 6 = o + 10 := q7_29
  have q8_30 : hK (sI h7 o 7 0) (o + 10) = 2 := q7_30
  have q8_31 : hL (sI h7 o 7 0) (o + 10) = m := q7_31
  have q8_32 : hI (sI h7 o 7 0) o 7 = 0 := sI_eq
  have n8 : hN (sI h7 o 7 0) = o + 11 := n7
  have s8 : hS (sI h7 o 7 0) = hS h + (0 + 2 + 2 * m + 2 + 2 + 2 + 2 * 3 + m + m) := s7
  have g8 : AG 0 o h (sI h7 o 7 0) := AG.trans g7 sI_ag
  generalize (sI h7 o 7 0) = h8 at *
  refine s_X3_init_71 q8_0 ?_
  show RR _ _ _ _ _ _ _ (sI h8 o 8 (-1)) _
  have q9_0 : hK (sI h8 o 8 (-1)) o = 13 := q8_0
  have q9_1 : hR (sI h8 o 8 (-1)) o 0 = g := q8_1
  have q9_2 : hR (sI h8 o 8 (-1)) o 1 = o + 1 := q8_2
  have q9_3 : hK (sI h8 o 8 (-1)) (o + 1) = 5 := q8_3
  have q9_4 : hL (sI h8 o 8 (-1)) (o + 1) = 2 := q8_4
  have q9_5 : hK (sI h8 o 8 (-1)) (o + 2) = 2 := q8_5
  have q9_6 : hL (sI h8 o 8 (-1)) (o + 2) = m := q8_6
  have q9_7 : hR (sI h8 o 8 (-1)) (o + 1) 0 = o + 2 := q8_7
  have q9_8 : hK (sI h8 o 8 (-1)) (o + 3) = 2 := q8_8
  have q9_9 : hL (sI h8 o 8 (-1)) (o + 3) = m := q8_9
  have q9_10 : hR (sI h8 o 8 (-1)) (o + 1) 1 = o + 3 := q8_10
  have q9_11 : hR (sI h8 o 8 (-1)) o 2 = o + 4 := q8_11
  have q9_12 : hK (sI h8 o 8 (-1)) (o + 4) = 3 := q8_12
  have q9_13 : hL (sI h8 o 8 (-1)) (o + 4) = 2 := q8_13
  have q9_14 : hR (sI h8 o 8 (-1)) o 3 = o + 5 := q8_14
  have q9_15 : hK (sI h8 o 8 (-1)) (o + 5) = 3 := q8_15
  have q9_16 : hL (sI h8 o 8 (-1)) (o + 5) = 2 := q8_16
  have q9_17 : hR (sI h8 o 8 (-1)) o 4 = o + 6 := q8_17
  have q9_18 : hK (sI h8 o 8 (-1)) (o + 6) = 6 := q8_18
  have q9_19 : hL (sI h8 o 8 (-1)) (o + 6) = 2 := q8_19
  have q9_20 : hK (sI h8 o 8 (-1)) (o + 7) = 3 := q8_20
  have q9_21 : hL (sI h8 o 8 (-1)) (o + 7) = 3 := q8_21
  have q9_22 : hR (sI h8 o 8 (-1)) (o + 6) 0 = o + 7 := q8_22
  have q9_23 : hK (sI h8 o 8 (-1)) (o + 8) = 3 := q8_23
  have q9_24 : hL (sI h8 o 8 (-1)) (o + 8) = 3 := q8_24
  have q9_25 : hR (sI h8 o 8 (-1)) (o + 6) 1 = o + 8 := q8_25
  have q9_26 : hR (sI h8 o 8 (-1)) o 5 = o + 9 := q8_26
  have q9_27 : hK (sI h8 o 8 (-1)) (o + 9) = 2 := q8_27
  have q9_28 : hL (sI h8 o 8 (-1)) (o + 9) = m := q8_28
  have q9_29 : hR (sI h8 o 8 (-1)) o 6 = o + 10 := q8_29
  have q9_30 : hK (sI h8 o 8 (-1)) (o + 10) = 2 := q8_30
  have q9_31 : hL (sI h8 o 8 (-1)) (o + 10) = m := q8_31
  have q9_32 : hI (sI h8 o 8 (-1)) o 7 = 0 := (sI_nk (by decide)).trans q8_32
  have q9_33 : hI (sI h8 o 8 (-1)) o 8 = (-1) := sI_eq
  have n9 : hN (sI h8 o 8 (-1)) = o + 11 := n8
  have s9 : hS (sI h8 o 8 (-1)) = hS h + (0 + 2 + 2 * m + 2 + 2 + 2 + 2 * 3 + m + m) := s8
  have g9 : AG 0 o h (sI h8 o 8 (-1)) := AG.trans g8 sI_ag
  generalize (sI h8 o 8 (-1)) = h9 at *
  have two1 : ∀ s, s < 2 → hK h9 (o + 2 + s) = 2 ∧ hL h9 (o + 2 + s) = m ∧ hR h9 (o + 1) s = o + 2 + s := fun s hs => match s, hs with
    | 0, _ => ⟨q9_5, q9_6, q9_7⟩
    | 1, _ => ⟨q9_8, q9_9, q9_10⟩
  have two2 : ∀ s, s < 2 → hK h9 (o + 7 + s) = 3 ∧ hL h9 (o + 7 + s) = 3 ∧ hR h9 (o + 6) s = o + 7 + s := fun s hs => match s, hs with
    | 0, _ => ⟨q9_20, q9_21, q9_22⟩
    | 1, _ => ⟨q9_23, q9_24, q9_25⟩
  exact s_X3_init_76 ⟨⟨rfl, g9, ⟨q9_0, q9_1, q9_2, q9_11, q9_14, q9_17, q9_26, q9_29, q9_3, q9_4, two1, ⟨q9_12, q9_13⟩, ⟨q9_15, q9_16⟩, ⟨q9_18, q9_19⟩, two2, ⟨q9_27, q9_28⟩, ⟨q9_30, q9_31⟩, hm, hg0, hgo⟩, q9_33⟩, by rw [n9, hN0], by rw [s9]; omega⟩
