/-- the reference while it is made: the rows of T stand -/
def IV (h0 h : PH) (y : Nat) (T : List (Nat × Nat × Nat × Nat)) (S : Nat) : Prop := (hN h = y + (1 + T.length) ∧ hS h = hS h0 + S ∧ hK h y = 16 ∧ AG 0 y h0 h ∧ ∀ j, hI h y j = 0) ∧
  (∀ e, e ∈ T → (hR h y e.1 = y + e.2.1 ∧ hK h (y + e.2.1) = e.2.2.1 ∧ hL h (y + e.2.1) = e.2.2.2) ∧ 0 < e.2.1 ∧ e.2.1 ≤ T.length) ∧ ∀ a, y < a → a < hN h → ∀ j, hI h a j = 0
variable {G : GG} {h0 h : PH} {y : Nat} {T : List (Nat × Nat × Nat × Nat)} {S : Nat}
theorem IV.step (iv : IV h0 h y T S) (s k l : Nat) (hs : ∀ e, e ∈ T → e.1 ≠ s) : IV h0 (ins h y s k l) y (T ++ [(s, T.length + 1, k, l)]) (S + l) := by
  obtain ⟨⟨n1, n2, n3, n4, n5⟩, f, z⟩ := iv
  have hy : y < hN h := by omega
  refine ⟨⟨?_, ?_, (ins_K hy).trans n3, n4.trans (ins_ag hy), fun j => (ins_I hy j).trans (n5 j)⟩, fun e he => ?_, fun a h1 h2 j => ?_⟩
  · rw [ins_N, n1, List.length_append]; rfl
  · rw [ins_S, n2]; omega
  · rw [List.length_append]
    rcases List.mem_append.1 he with q | q
    · obtain ⟨⟨a1, a2, a3⟩, a4, a5⟩ := f e q
      refine ⟨⟨(ins_R hy (fun w => hs e q w.2)).trans a1, (ins_K (by omega)).trans a2, (ins_L (by omega)).trans a3⟩, a4, by omega⟩
    · rw [List.mem_singleton] at q
      subst q
      have e1 : y + (T.length + 1) = hN h := by omega
      refine ⟨⟨?_, ?_, ?_⟩, by show 0 < T.length + 1; omega, Nat.le_refl _⟩
      · show hR _ y s = y + (T.length + 1)
        rw [ins_r, e1]
      · show hK _ (y + (T.length + 1)) = k
        rw [e1]; exact ins_k
      · show hL _ (y + (T.length + 1)) = l
        rw [e1]; exact ins_l
  · rw [ins_N] at h2
    rcases (by omega : a < hN h ∨ a = hN h) with q | q
    · exact (ins_I q j).trans (z a h1 q j)
    · subst q; exact ins_i j
theorem k_model (hN0 : hN h = y + 1) (hk : hK h y = 16) (hz : ∀ j, hI h y j = 0) (hy : 0 < y) : Ev G m_X6_init [.ref y] h 26 76526 (RV (fun h' => AG 0 y h h' ∧ MOK h' y (fun _ => 0) (fun _ _ => false) 0 (fun _ _ => false))) := by
  refine Ev.of pn_X6_init (Nat.le_of_ble_eq_true rfl) ?_
  have v0 : IV h h y [] 0 := ⟨⟨hN0, rfl, hk, AG.rf, hz⟩, fun e q => (by cases q), fun a h1 h2 => absurd h2 (by omega)⟩
  refine s_X6_init_0 (by rw [v0.1.1]; show y + 1 + 1 ≤ _; omega) (by rw [v0.1.2.1]; omega) ((ins_K (h := h) (o := y) (s := 2) (kd := 4) (n := 2500) (by rw [v0.1.1]; omega)).trans v0.1.2.2.1) (by rw [v0.1.1]; omega) ?_
  show RR _ _ _ _ _ _ _ (ins h y 2 4 2500) _
  have v1 : IV h (ins h y 2 4 2500) y [(2, 1, 4, 2500)] 2500 := v0.step 2 4 2500 (by decide)
  clear v0
  generalize ins h y 2 4 2500 = h1 at *
  refine s_X6_init_13 (by rw [v1.1.1]; show y + 2 + 1 ≤ _; omega) (by rw [v1.1.2.1]; omega) ((ins_K (h := h1) (o := y) (s := 5) (kd := 2) (n := 50) (by rw [v1.1.1]; omega)).trans v1.1.2.2.1) (by rw [v1.1.1]; omega) ?_
  show RR _ _ _ _ _ _ _ (ins h1 y 5 2 50) _
  have v2 : IV h (ins h1 y 5 2 50) y [(2, 1, 4, 2500), (5, 2, 2, 50)] 2550 := v1.step 5 2 50 (by decide)
  clear v1
  generalize ins h1 y 5 2 50 = h2 at *
  refine s_X6_init_21 (by rw [v2.1.1]; show y + 3 + 1 ≤ _; omega) (by rw [v2.1.2.1]; omega) ((ins_K (h := h2) (o := y) (s := 6) (kd := 2) (n := 50) (by rw [v2.1.1]; omega)).trans v2.1.2.2.1) (by rw [v2.1.1]; omega) ?_
  show RR _ _ _ _ _ _ _ (ins h2 y 6 2 50) _
  have v3 : IV h (ins h2 y 6 2 50) y [(2, 1, 4, 2500), (5, 2, 2, 50), (6, 3, 2, 50)] 2600 := v2.step 6 2 50 (by decide)
  clear v2
  generalize ins h2 y 6 2 50 = h3 at *
  refine s_X6_init_29 (by rw [v3.1.1]; show y + 4 + 1 ≤ _; omega) (by rw [v3.1.2.1]; omega) ((ins_K (h := h3) (o := y) (s := 7) (kd := 4) (n := 50) (by rw [v3.1.1]; omega)).trans v3.1.2.2.1) (by rw [v3.1.1]; omega) ?_
  show RR _ _ _ _ _ _ _ (ins h3 y 7 4 50) _
  have v4 : IV h (ins h3 y 7 4 50) y [(2, 1, 4, 2500), (5, 2, 2, 50), (6, 3, 2, 50), (7, 4, 4, 50)] 2650 := v3.step 7 4 50 (by decide)
  clear v3
  generalize ins h3 y 7 4 50 = h4 at *
  refine s_X6_init_37 (by rw [v4.1.1]; show y + 5 + 1 ≤ _; omega) (by rw [v4.1.2.1]; omega) ((ins_K (h := h4) (o := y) (s := 8) (kd := 4) (n := 50) (by rw [v4.1.1]; omega)).trans v4.1.2.2.1) (by rw [v4.1.1]; omega) ?_
  show RR _ _ _ _ _ _ _ (ins h4 y 8 4 50) _
  have v5 : IV h (ins h4 y 8 4 50) y [(2, 1, 4, 2500), (5, 2, 2, 50), (6, 3, 2, 50), (7, 4, 4, 50), (8, 5, 4, 50)] 2700 := v4.step 8 4 50 (by decide)
  clear v4
  generalize ins h4 y 8 4 50 = h5 at *
  refine s_X6_init_45 (by rw [v5.1.1]; show y + 6 + 1 ≤ _; omega) (by rw [v5.1.2.1]; omega) ((ins_K (h := h5) (o := y) (s := 9) (kd := 2) (n := 50) (by rw [v5.1.1]; omega)).trans v5.1.2.2.1) (by rw [v5.1.1]; omega) ?_
  show RR _ _ _ _ _ _ _ (ins h5 y 9 2 50) _
  have v6 : IV h (ins h5 y 9 2 50) y [(2, 1, 4, 2500), (5, 2, 2, 50), (6, 3, 2, 50), (7, 4, 4, 50), (8, 5, 4, 50), (9, 6, 2, 50)] 2750 := v5.step 9 2 50 (by decide)
  clear v5
  generalize ins h5 y 9 2 50 = h6 at *
  refine s_X6_init_53 (by rw [v6.1.1]; show y + 7 + 1 ≤ _; omega) (by rw [v6.1.2.1]; omega) ((ins_K (h := h6) (o := y) (s := 10) (kd := 2) (n := 50) (by rw [v6.1.1]; omega)).trans v6.1.2.2.1) (by rw [v6.1.1]; omega) ?_
  show RR _ _ _ _ _ _ _ (ins h6 y 10 2 50) _
  have v7 : IV h (ins h6 y 10 2 50) y [(2, 1, 4, 2500), (5, 2, 2, 50), (6, 3, 2, 50), (7, 4, 4, 50), (8, 5, 4, 50), (9, 6, 2, 50), (10, 7, 2, 50)] 2800 := v6.step 10 2 50 (by decide)
  clear v6
  generalize ins h6 y 10 2 50 = h7 at *
  refine s_X6_init_61 (by rw [v7.1.1]; show y + 8 + 1 ≤ _; omega) (by rw [v7.1.2.1]; omega) ((ins_K (h := h7) (o := y) (s := 11) (kd := 2) (n := 50) (by rw [v7.1.1]; omega)).trans v7.1.2.2.1) (by rw [v7.1.1]; omega) ?_
  show RR _ _ _ _ _ _ _ (ins h7 y 11 2 50) _
  have v8 : IV h (ins h7 y 11 2 50) y [(2, 1, 4, 2500), (5, 2, 2, 50), (6, 3, 2, 50), (7, 4, 4, 50), (8, 5, 4, 50), (9, 6, 2, 50), (10, 7, 2, 50), (11, 8, 2, 50)] 2850 := v7.step 11 2 50 (by decide)
  clear v7
  generalize ins h7 y 11 2 50 = h8 at *
  refine s_X6_init_69 (by rw [v8.1.1]; show y + 9 + 1 ≤ _; omega) (by rw [v8.1.2.1]; omega) ((ins_K (h := h8) (o := y) (s := 12) (kd := 4) (n := 2500) (by rw [v8.1.1]; omega)).trans v8.1.2.2.1) (by rw [v8.1.1]; omega) ?_
  show RR _ _ _ _ _ _ _ (ins h8 y 12 4 2500) _
  have v9 : IV h (ins h8 y 12 4 2500) y [(2, 1, 4, 2500), (5, 2, 2, 50), (6, 3, 2, 50), (7, 4, 4, 50), (8, 5, 4, 50), (9, 6, 2, 50), (10, 7, 2, 50), (11, 8, 2, 50), (12, 9, 4, 2500)] 5350 := v8.step 12 4 2500 (by decide)
  clear v8
  generalize ins h8 y 12 4 2500 = h9 at *
  refine s_X6_init_78 (by rw [v9.1.1]; show y + 10 + 1 ≤ _; omega) (by rw [v9.1.2.1]; omega) ((ins_K (h := h9) (o := y) (s := 16) (kd := 3) (n := 65536) (by rw [v9.1.1]; omega)).trans v9.1.2.2.1) (by rw [v9.1.1]; omega) ?_
  show RR _ _ _ _ _ _ _ (ins h9 y 16 3 65536) _
  have v10 : IV h (ins h9 y 16 3 65536) y [(2, 1, 4, 2500), (5, 2, 2, 50), (6, 3, 2, 50), (7, 4, 4, 50), (8, 5, 4, 50), (9, 6, 2, 50), (10, 7, 2, 50), (11, 8, 2, 50), (12, 9, 4, 2500), (16, 10, 3, 65536)] 70886 := v9.step 16 3 65536 (by decide)
  clear v9
  generalize ins h9 y 16 3 65536 = h10 at *
  refine s_X6_init_86 (by rw [v10.1.1]; show y + 11 + 1 ≤ _; omega) (by rw [v10.1.2.1]; omega) ((ins_K (h := h10) (o := y) (s := 18) (kd := 4) (n := 2500) (by rw [v10.1.1]; omega)).trans v10.1.2.2.1) (by rw [v10.1.1]; omega) ?_
  show RR _ _ _ _ _ _ _ (ins h10 y 18 4 2500) _
  have v11 : IV h (ins h10 y 18 4 2500) y [(2, 1, 4, 2500), (5, 2, 2, 50), (6, 3, 2, 50), (7, 4, 4, 50), (8, 5, 4, 50), (9, 6, 2, 50), (10, 7, 2, 50), (11, 8, 2, 50), (12, 9, 4, 2500), (16, 10, 3, 65536), (18, 11, 4, 2500)] 73386 := v10.step 18 4 2500 (by decide)
  clear v10
  generalize ins h10 y 18 4 2500 = h11 at *
  refine s_X6_init_95 (by rw [v11.1.1]; show y + 12 + 1 ≤ _; omega) (by rw [v11.1.2.1]; omega) ((ins_K (h := h11) (o := y) (s := 21) (kd := 2) (n := 40) (by rw [v11.1.1]; omega)).trans v11.1.2.2.1) (by rw [v11.1.1]; omega) ?_
  show RR _ _ _ _ _ _ _ (ins h11 y 21 2 40) _
  have v12 : IV h (ins h11 y 21 2 40) y [(2, 1, 4, 2500), (5, 2, 2, 50), (6, 3, 2, 50), (7, 4, 4, 50), (8, 5, 4, 50), (9, 6, 2, 50), (10, 7, 2, 50), (11, 8, 2, 50), (12, 9, 4, 2500), (16, 10, 3, 65536), (18, 11, 4, 2500), (21, 12, 2, 40)] 73426 := v11.step 21 2 40 (by decide)
  clear v11
  generalize ins h11 y 21 2 40 = h12 at *
  refine s_X6_init_103 (by rw [v12.1.1]; show y + 13 + 1 ≤ _; omega) (by rw [v12.1.2.1]; omega) ((ins_K (h := h12) (o := y) (s := 22) (kd := 2) (n := 40) (by rw [v12.1.1]; omega)).trans v12.1.2.2.1) (by rw [v12.1.1]; omega) ?_
  show RR _ _ _ _ _ _ _ (ins h12 y 22 2 40) _
  have v13 : IV h (ins h12 y 22 2 40) y [(2, 1, 4, 2500), (5, 2, 2, 50), (6, 3, 2, 50), (7, 4, 4, 50), (8, 5, 4, 50), (9, 6, 2, 50), (10, 7, 2, 50), (11, 8, 2, 50), (12, 9, 4, 2500), (16, 10, 3, 65536), (18, 11, 4, 2500), (21, 12, 2, 40), (22, 13, 2, 40)] 73466 := v12.step 22 2 40 (by decide)
  clear v12
  generalize ins h12 y 22 2 40 = h13 at *
  refine s_X6_init_111 (by rw [v13.1.1]; show y + 14 + 1 ≤ _; omega) (by rw [v13.1.2.1]; omega) ((ins_K (h := h13) (o := y) (s := 23) (kd := 2) (n := 40) (by rw [v13.1.1]; omega)).trans v13.1.2.2.1) (by rw [v13.1.1]; omega) ?_
  show RR _ _ _ _ _ _ _ (ins h13 y 23 2 40) _
  have v14 : IV h (ins h13 y 23 2 40) y [(2, 1, 4, 2500), (5, 2, 2, 50), (6, 3, 2, 50), (7, 4, 4, 50), (8, 5, 4, 50), (9, 6, 2, 50), (10, 7, 2, 50), (11, 8, 2, 50), (12, 9, 4, 2500), (16, 10, 3, 65536), (18, 11, 4, 2500), (21, 12, 2, 40), (22, 13, 2, 40), (23, 14, 2, 40)] 73506 := v13.step 23 2 40 (by decide)
  clear v13
  generalize ins h13 y 23 2 40 = h14 at *
  refine s_X6_init_119 (by rw [v14.1.1]; show y + 15 + 1 ≤ _; omega) (by rw [v14.1.2.1]; omega) ((ins_K (h := h14) (o := y) (s := 24) (kd := 4) (n := 40) (by rw [v14.1.1]; omega)).trans v14.1.2.2.1) (by rw [v14.1.1]; omega) ?_
  show RR _ _ _ _ _ _ _ (ins h14 y 24 4 40) _
  have v15 : IV h (ins h14 y 24 4 40) y [(2, 1, 4, 2500), (5, 2, 2, 50), (6, 3, 2, 50), (7, 4, 4, 50), (8, 5, 4, 50), (9, 6, 2, 50), (10, 7, 2, 50), (11, 8, 2, 50), (12, 9, 4, 2500), (16, 10, 3, 65536), (18, 11, 4, 2500), (21, 12, 2, 40), (22, 13, 2, 40), (23, 14, 2, 40), (24, 15, 4, 40)] 73546 := v14.step 24 4 40 (by decide)
  clear v14
  generalize ins h14 y 24 4 40 = h15 at *
  refine s_X6_init_127 (by rw [v15.1.1]; show y + 16 + 1 ≤ _; omega) (by rw [v15.1.2.1]; omega) ((ins_K (h := h15) (o := y) (s := 25) (kd := 4) (n := 40) (by rw [v15.1.1]; omega)).trans v15.1.2.2.1) (by rw [v15.1.1]; omega) ?_
  show RR _ _ _ _ _ _ _ (ins h15 y 25 4 40) _
  have v16 : IV h (ins h15 y 25 4 40) y [(2, 1, 4, 2500), (5, 2, 2, 50), (6, 3, 2, 50), (7, 4, 4, 50), (8, 5, 4, 50), (9, 6, 2, 50), (10, 7, 2, 50), (11, 8, 2, 50), (12, 9, 4, 2500), (16, 10, 3, 65536), (18, 11, 4, 2500), (21, 12, 2, 40), (22, 13, 2, 40), (23, 14, 2, 40), (24, 15, 4, 40), (25, 16, 4, 40)] 73586 := v15.step 25 4 40 (by decide)
  clear v15
  generalize ins h15 y 25 4 40 = h16 at *
  refine s_X6_init_135 (by rw [v16.1.1]; show y + 17 + 1 ≤ _; omega) (by rw [v16.1.2.1]; omega) ((ins_K (h := h16) (o := y) (s := 26) (kd := 4) (n := 40) (by rw [v16.1.1]; omega)).trans v16.1.2.2.1) (by rw [v16.1.1]; omega) ?_
  show RR _ _ _ _ _ _ _ (ins h16 y 26 4 40) _
  have v17 : IV h (ins h16 y 26 4 40) y [(2, 1, 4, 2500), (5, 2, 2, 50), (6, 3, 2, 50), (7, 4, 4, 50), (8, 5, 4, 50), (9, 6, 2, 50), (10, 7, 2, 50), (11, 8, 2, 50), (12, 9, 4, 2500), (16, 10, 3, 65536), (18, 11, 4, 2500), (21, 12, 2, 40), (22, 13, 2, 40), (23, 14, 2, 40), (24, 15, 4, 40), (25, 16, 4, 40), (26, 17, 4, 40)] 73626 := v16.step 26 4 40 (by decide)
  clear v16
  generalize ins h16 y 26 4 40 = h17 at *
  refine s_X6_init_143 (by rw [v17.1.1]; show y + 18 + 1 ≤ _; omega) (by rw [v17.1.2.1]; omega) ((ins_K (h := h17) (o := y) (s := 27) (kd := 4) (n := 2500) (by rw [v17.1.1]; omega)).trans v17.1.2.2.1) (by rw [v17.1.1]; omega) ?_
  show RR _ _ _ _ _ _ _ (ins h17 y 27 4 2500) _
  have v18 : IV h (ins h17 y 27 4 2500) y [(2, 1, 4, 2500), (5, 2, 2, 50), (6, 3, 2, 50), (7, 4, 4, 50), (8, 5, 4, 50), (9, 6, 2, 50), (10, 7, 2, 50), (11, 8, 2, 50), (12, 9, 4, 2500), (16, 10, 3, 65536), (18, 11, 4, 2500), (21, 12, 2, 40), (22, 13, 2, 40), (23, 14, 2, 40), (24, 15, 4, 40), (25, 16, 4, 40), (26, 17, 4, 40), (27, 18, 4, 2500)] 76126 := v17.step 27 4 2500 (by decide)
  clear v17
  generalize ins h17 y 27 4 2500 = h18 at *
  refine s_X6_init_152 (by rw [v18.1.1]; show y + 19 + 1 ≤ _; omega) (by rw [v18.1.2.1]; omega) ((ins_K (h := h18) (o := y) (s := 30) (kd := 4) (n := 50) (by rw [v18.1.1]; omega)).trans v18.1.2.2.1) (by rw [v18.1.1]; omega) ?_
  show RR _ _ _ _ _ _ _ (ins h18 y 30 4 50) _
  have v19 : IV h (ins h18 y 30 4 50) y [(2, 1, 4, 2500), (5, 2, 2, 50), (6, 3, 2, 50), (7, 4, 4, 50), (8, 5, 4, 50), (9, 6, 2, 50), (10, 7, 2, 50), (11, 8, 2, 50), (12, 9, 4, 2500), (16, 10, 3, 65536), (18, 11, 4, 2500), (21, 12, 2, 40), (22, 13, 2, 40), (23, 14, 2, 40), (24, 15, 4, 40), (25, 16, 4, 40), (26, 17, 4, 40), (27, 18, 4, 2500), (30, 19, 4, 50)] 76176 := v18.step 30 4 50 (by decide)
  clear v18
  generalize ins h18 y 30 4 50 = h19 at *
  refine s_X6_init_160 (by rw [v19.1.1]; show y + 20 + 1 ≤ _; omega) (by rw [v19.1.2.1]; omega) ((ins_K (h := h19) (o := y) (s := 31) (kd := 4) (n := 50) (by rw [v19.1.1]; omega)).trans v19.1.2.2.1) (by rw [v19.1.1]; omega) ?_
  show RR _ _ _ _ _ _ _ (ins h19 y 31 4 50) _
  have v20 : IV h (ins h19 y 31 4 50) y [(2, 1, 4, 2500), (5, 2, 2, 50), (6, 3, 2, 50), (7, 4, 4, 50), (8, 5, 4, 50), (9, 6, 2, 50), (10, 7, 2, 50), (11, 8, 2, 50), (12, 9, 4, 2500), (16, 10, 3, 65536), (18, 11, 4, 2500), (21, 12, 2, 40), (22, 13, 2, 40), (23, 14, 2, 40), (24, 15, 4, 40), (25, 16, 4, 40), (26, 17, 4, 40), (27, 18, 4, 2500), (30, 19, 4, 50), (31, 20, 4, 50)] 76226 := v19.step 31 4 50 (by decide)
  clear v19
  generalize ins h19 y 31 4 50 = h20 at *
  refine s_X6_init_168 (by rw [v20.1.1]; show y + 21 + 1 ≤ _; omega) (by rw [v20.1.2.1]; omega) ((ins_K (h := h20) (o := y) (s := 32) (kd := 2) (n := 50) (by rw [v20.1.1]; omega)).trans v20.1.2.2.1) (by rw [v20.1.1]; omega) ?_
  show RR _ _ _ _ _ _ _ (ins h20 y 32 2 50) _
  have v21 : IV h (ins h20 y 32 2 50) y [(2, 1, 4, 2500), (5, 2, 2, 50), (6, 3, 2, 50), (7, 4, 4, 50), (8, 5, 4, 50), (9, 6, 2, 50), (10, 7, 2, 50), (11, 8, 2, 50), (12, 9, 4, 2500), (16, 10, 3, 65536), (18, 11, 4, 2500), (21, 12, 2, 40), (22, 13, 2, 40), (23, 14, 2, 40), (24, 15, 4, 40), (25, 16, 4, 40), (26, 17, 4, 40), (27, 18, 4, 2500), (30, 19, 4, 50), (31, 20, 4, 50), (32, 21, 2, 50)] 76276 := v20.step 32 2 50 (by decide)
  clear v20
  generalize ins h20 y 32 2 50 = h21 at *
  refine s_X6_init_176 (by rw [v21.1.1]; show y + 22 + 1 ≤ _; omega) (by rw [v21.1.2.1]; omega) ((ins_K (h := h21) (o := y) (s := 33) (kd := 2) (n := 50) (by rw [v21.1.1]; omega)).trans v21.1.2.2.1) (by rw [v21.1.1]; omega) ?_
  show RR _ _ _ _ _ _ _ (ins h21 y 33 2 50) _
  have v22 : IV h (ins h21 y 33 2 50) y [(2, 1, 4, 2500), (5, 2, 2, 50), (6, 3, 2, 50), (7, 4, 4, 50), (8, 5, 4, 50), (9, 6, 2, 50), (10, 7, 2, 50), (11, 8, 2, 50), (12, 9, 4, 2500), (16, 10, 3, 65536), (18, 11, 4, 2500), (21, 12, 2, 40), (22, 13, 2, 40), (23, 14, 2, 40), (24, 15, 4, 40), (25, 16, 4, 40), (26, 17, 4, 40), (27, 18, 4, 2500), (30, 19, 4, 50), (31, 20, 4, 50), (32, 21, 2, 50), (33, 22, 2, 50)] 76326 := v21.step 33 2 50 (by decide)
  clear v21
  generalize ins h21 y 33 2 50 = h22 at *
  refine s_X6_init_184 (by rw [v22.1.1]; show y + 23 + 1 ≤ _; omega) (by rw [v22.1.2.1]; omega) ((ins_K (h := h22) (o := y) (s := 34) (kd := 2) (n := 50) (by rw [v22.1.1]; omega)).trans v22.1.2.2.1) (by rw [v22.1.1]; omega) ?_
  show RR _ _ _ _ _ _ _ (ins h22 y 34 2 50) _
  have v23 : IV h (ins h22 y 34 2 50) y [(2, 1, 4, 2500), (5, 2, 2, 50), (6, 3, 2, 50), (7, 4, 4, 50), (8, 5, 4, 50), (9, 6, 2, 50), (10, 7, 2, 50), (11, 8, 2, 50), (12, 9, 4, 2500), (16, 10, 3, 65536), (18, 11, 4, 2500), (21, 12, 2, 40), (22, 13, 2, 40), (23, 14, 2, 40), (24, 15, 4, 40), (25, 16, 4, 40), (26, 17, 4, 40), (27, 18, 4, 2500), (30, 19, 4, 50), (31, 20, 4, 50), (32, 21, 2, 50), (33, 22, 2, 50), (34, 23, 2, 50)] 76376 := v22.step 34 2 50 (by decide)
  clear v22
  generalize ins h22 y 34 2 50 = h23 at *
  refine s_X6_init_192 (by rw [v23.1.1]; show y + 24 + 1 ≤ _; omega) (by rw [v23.1.2.1]; omega) ((ins_K (h := h23) (o := y) (s := 35) (kd := 2) (n := 50) (by rw [v23.1.1]; omega)).trans v23.1.2.2.1) (by rw [v23.1.1]; omega) ?_
  show RR _ _ _ _ _ _ _ (ins h23 y 35 2 50) _
  have v24 : IV h (ins h23 y 35 2 50) y [(2, 1, 4, 2500), (5, 2, 2, 50), (6, 3, 2, 50), (7, 4, 4, 50), (8, 5, 4, 50), (9, 6, 2, 50), (10, 7, 2, 50), (11, 8, 2, 50), (12, 9, 4, 2500), (16, 10, 3, 65536), (18, 11, 4, 2500), (21, 12, 2, 40), (22, 13, 2, 40), (23, 14, 2, 40), (24, 15, 4, 40), (25, 16, 4, 40), (26, 17, 4, 40), (27, 18, 4, 2500), (30, 19, 4, 50), (31, 20, 4, 50), (32, 21, 2, 50), (33, 22, 2, 50), (34, 23, 2, 50), (35, 24, 2, 50)] 76426 := v23.step 35 2 50 (by decide)
  clear v23
  generalize ins h23 y 35 2 50 = h24 at *
  refine s_X6_init_200 (by rw [v24.1.1]; show y + 25 + 1 ≤ _; omega) (by rw [v24.1.2.1]; omega) ((ins_K (h := h24) (o := y) (s := 36) (kd := 2) (n := 50) (by rw [v24.1.1]; omega)).trans v24.1.2.2.1) (by rw [v24.1.1]; omega) ?_
  show RR _ _ _ _ _ _ _ (ins h24 y 36 2 50) _
  have v25 : IV h (ins h24 y 36 2 50) y [(2, 1, 4, 2500), (5, 2, 2, 50), (6, 3, 2, 50), (7, 4, 4, 50), (8, 5, 4, 50), (9, 6, 2, 50), (10, 7, 2, 50), (11, 8, 2, 50), (12, 9, 4, 2500), (16, 10, 3, 65536), (18, 11, 4, 2500), (21, 12, 2, 40), (22, 13, 2, 40), (23, 14, 2, 40), (24, 15, 4, 40), (25, 16, 4, 40), (26, 17, 4, 40), (27, 18, 4, 2500), (30, 19, 4, 50), (31, 20, 4, 50), (32, 21, 2, 50), (33, 22, 2, 50), (34, 23, 2, 50), (35, 24, 2, 50), (36, 25, 2, 50)] 76476 := v24.step 36 2 50 (by decide)
  clear v24
  generalize ins h24 y 36 2 50 = h25 at *
  refine s_X6_init_208 (by rw [v25.1.1]; show y + 26 + 1 ≤ _; omega) (by rw [v25.1.2.1]; omega) ((ins_K (h := h25) (o := y) (s := 37) (kd := 2) (n := 50) (by rw [v25.1.1]; omega)).trans v25.1.2.2.1) (by rw [v25.1.1]; omega) ?_
  show RR _ _ _ _ _ _ _ (ins h25 y 37 2 50) _
  have v26 : IV h (ins h25 y 37 2 50) y [(2, 1, 4, 2500), (5, 2, 2, 50), (6, 3, 2, 50), (7, 4, 4, 50), (8, 5, 4, 50), (9, 6, 2, 50), (10, 7, 2, 50), (11, 8, 2, 50), (12, 9, 4, 2500), (16, 10, 3, 65536), (18, 11, 4, 2500), (21, 12, 2, 40), (22, 13, 2, 40), (23, 14, 2, 40), (24, 15, 4, 40), (25, 16, 4, 40), (26, 17, 4, 40), (27, 18, 4, 2500), (30, 19, 4, 50), (31, 20, 4, 50), (32, 21, 2, 50), (33, 22, 2, 50), (34, 23, 2, 50), (35, 24, 2, 50), (36, 25, 2, 50), (37, 26, 2, 50)] 76526 := v25.step 37 2 50 (by decide)
  clear v25
  generalize ins h25 y 37 2 50 = h26 at *
  obtain ⟨⟨n1, n2, n3, n4, n5⟩, f, z⟩ := v26
  have n1 : hN h26 = y + 27 := n1
  have ml : ML h26 y := ⟨n3, hy, fun e q => (f e q).1⟩
  have mx : ∀ i, 0 < i → i < 27 → MX5 h26 (y + i) (fun _ _ => false) := fun i h1 h2 u v _ _ => z (y + i) (by omega) (by omega) _
  refine s_X6_init_216 ⟨⟨rfl, n4, ⟨ml, ⟨n5 0, n5 1, Nat.zero_le _, Nat.zero_le _, mx 1 (by decide) (by decide), fun l r q => (by cases q)⟩, Or.inl (n5 3), fun q => (q (n5 3)).elim⟩, ⟨ml, ⟨n5 17, Nat.zero_le _, mx 11 (by decide) (by decide), fun l r q => (by cases q), ⟨fun _ => rfl, fun _ _ _ q => (by cases q)⟩⟩, Or.inl (n5 19), fun q => (q (n5 19)).elim⟩⟩, by omega, by omega⟩
