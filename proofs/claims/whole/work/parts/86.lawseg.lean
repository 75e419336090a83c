def m_L_law : MI := (yL_law, cL_law, 4, some .boolean, 7, 175)

set_option maxRecDepth 20000 in
set_option maxHeartbeats 2000000 in
theorem s_L_law_0 {G : GG} {nc ns : Nat} {h : PH} {Z : Option Value → PH → Prop} {l0 : Nat} {mc1 : Nat} {ms1 : Nat} {P1 : PH → Prop}
    (c1 : (hN h) + 1 ≤ nc)
    (c2 : (hS h) + 7 ≤ ns)
    (c3 : (hN h + 1) + mc1 ≤ nc)
    (c4 : (hS h + 7) + ms1 ≤ ns)
    (e5 : Ev G m_X5_init [.ref (hN h)] (nA h 15 7) mc1 ms1 (RV P1))
    (k6 : ∀ (h1 : PH), P1 h1 → hN h1 = (hN h + 1) + mc1 → hS h1 = (hS h + 7) + ms1 → RR G nc ns m_L_law 7 [some (.ref l0), none, none, none] [.ref (hN h)] h1 Z) :
    RR G nc ns m_L_law 0 [some (.ref l0), none, none, none] [] h Z := by
  refine r_new (c := 5) dL_law_0 rfl rfl (by decide) cl_RL_7 in_RX5 it_RX5 (c1) (c2) ?_
  refine r_dup dL_law_3 rfl ?_
  refine r_callI (mc := mc1) (ms := ms1) dL_law_4 ck_X5_init iv_X5_init rfl rfl lk_RL_9 (by decide) (by decide) (As := []) rfl rfl (Nat.le_of_ble_eq_true rfl) (Or.inr (c3)) (Or.inr (c4)) (e5) ?_
  rintro v1 h1 ⟨rfl, z1⟩ n1 t1
  exact k6 h1 z1 n1 t1

set_option maxRecDepth 20000 in
set_option maxHeartbeats 2000000 in
theorem s_L_law_7 {G : GG} {nc ns : Nat} {h : PH} {Z : Option Value → PH → Prop} {l0 : Nat} {s0 : Nat} {mc1 : Nat} {ms1 : Nat} {P1 : PH → Prop}
    (c1 : (hN h) + 1 ≤ nc)
    (c2 : (hS h) + 39 ≤ ns)
    (c3 : (hN h + 1) + mc1 ≤ nc)
    (c4 : (hS h + 39) + ms1 ≤ ns)
    (e5 : Ev G m_X6_init [.ref (hN h)] (nA h 16 39) mc1 ms1 (RV P1))
    (k6 : ∀ (h1 : PH), P1 h1 → hN h1 = (hN h + 1) + mc1 → hS h1 = (hS h + 39) + ms1 → RR G nc ns m_L_law 15 [some (.ref l0), some (.ref s0), none, none] [.ref (hN h)] h1 Z) :
    RR G nc ns m_L_law 7 [some (.ref l0), none, none, none] [.ref s0] h Z := by
  refine r_astore_nL [some (.ref l0), some (.ref s0), none, none] dL_law_7 (by decide) rfl ?_
  refine r_new (c := 6) dL_law_8 rfl rfl (by decide) cl_RL_10 in_RX6 it_RX6 (c1) (c2) ?_
  refine r_dup dL_law_11 rfl ?_
  refine r_callI (mc := mc1) (ms := ms1) dL_law_12 ck_X6_init iv_X6_init rfl rfl lk_RL_12 (by decide) (by decide) (As := []) rfl rfl (Nat.le_of_ble_eq_true rfl) (Or.inr (c3)) (Or.inr (c4)) (e5) ?_
  rintro v1 h1 ⟨rfl, z1⟩ n1 t1
  exact k6 h1 z1 n1 t1

set_option maxRecDepth 20000 in
set_option maxHeartbeats 2000000 in
theorem s_L_law_15 {G : GG} {nc ns : Nat} {h : PH} {Z : Option Value → PH → Prop} {l0 : Nat} {l1 : Nat} {s0 : Nat}
    (k1 : RR G nc ns m_L_law 18 [some (.ref l0), some (.ref l1), some (.ref s0), some (.int 0)] [] h Z) :
    RR G nc ns m_L_law 15 [some (.ref l0), some (.ref l1), none, none] [.ref s0] h Z := by
  refine r_astore_nL [some (.ref l0), some (.ref l1), some (.ref s0), none] dL_law_15 (by decide) rfl ?_
  refine r_iconst (v := 0) dL_law_16 (by decide) ?_
  refine r_istore_nL [some (.ref l0), some (.ref l1), some (.ref s0), some (.int 0)] dL_law_17 (by decide) rfl ?_
  exact k1

set_option maxRecDepth 20000 in
set_option maxHeartbeats 2000000 in
theorem s_L_law_18 {G : GG} {nc ns : Nat} {h : PH} {Z : Option Value → PH → Prop} {l0 : Nat} {l1 : Nat} {l2 : Nat} {l3 : Int32} {P1 : Int32 → PH → Prop} {P2 : Int32 → PH → Prop} {P3 : Int32 → PH → Prop} {P4 : Int32 → PH → Prop} {P5 : Int32 → PH → Prop} {P6 : Int32 → PH → Prop} {P7 : Int32 → PH → Prop} {P8 : Int32 → PH → Prop} {P9 : Int32 → PH → Prop} {P10 : Int32 → PH → Prop} {P11 : Int32 → PH → Prop} {P12 : Int32 → PH → Prop} {P13 : Int32 → PH → Prop} {mc14 : Nat} {ms14 : Nat} {P14 : Int64 → PH → Prop} {P15 : Int32 → PH → Prop} {P16 : Int32 → PH → Prop} {P17 : Int32 → PH → Prop} {P18 : Int32 → PH → Prop} {P19 : Int32 → PH → Prop} {P20 : Int32 → PH → Prop}
    (c1 : ((ak (hK h l0)).isSome = true ∨ hK h l0 = 1))
    (k2 : (((nI (hL h l0)) - 4) < l3) → Z (some (.int 1)) h)
    (c3 : hK h l0 = 1)
    (c4 : (¬ ((nI (hL h l0)) - 4) < l3) → vp_in l3 (hL h l0))
    (k5 : (¬ ((nI (hL h l0)) - 4) < l3) → (((hI h l0 (Int32.toNatClampNeg l3)) &&& 31) < 0 ∨ 18 < ((hI h l0 (Int32.toNatClampNeg l3)) &&& 31)) → RR G nc ns m_L_law 18 [some (.ref l0), some (.ref l1), some (.ref l2), some (.int (l3 + 4))] [] h Z)
    (c6 : (¬ ((nI (hL h l0)) - 4) < l3) → (((hI h l0 (Int32.toNatClampNeg l3)) &&& 31) = 0) → vp_in (l3 + 1) (hL h l0))
    (e7 : (¬ ((nI (hL h l0)) - 4) < l3) → (((hI h l0 (Int32.toNatClampNeg l3)) &&& 31) = 0) → Ev G m_X5_node [.ref l1, .int (hI h l0 (Int32.toNatClampNeg (l3 + 1)))] h 0 0 (RI P1))
    (c8 : hK h l1 = 15)
    (k9 : (¬ ((nI (hL h l0)) - 4) < l3) → (((hI h l0 (Int32.toNatClampNeg l3)) &&& 31) = 0) → ∀ (x1 : Int32) (h1 : PH), P1 x1 h1 → hN h1 = (hN h) → hS h1 = (hS h) → RR G nc ns m_L_law 133 [some (.ref l0), some (.ref l1), some (.ref l2), some (.int l3)] [.int x1] h1 Z)
    (c10 : (¬ ((nI (hL h l0)) - 4) < l3) → (((hI h l0 (Int32.toNatClampNeg l3)) &&& 31) = 1) → vp_in (l3 + 1) (hL h l0))
    (c11 : (¬ ((nI (hL h l0)) - 4) < l3) → (((hI h l0 (Int32.toNatClampNeg l3)) &&& 31) = 1) → vp_in (l3 + 2) (hL h l0))
    (c12 : (¬ ((nI (hL h l0)) - 4) < l3) → (((hI h l0 (Int32.toNatClampNeg l3)) &&& 31) = 1) → vp_in (l3 + 3) (hL h l0))
    (e13 : (¬ ((nI (hL h l0)) - 4) < l3) → (((hI h l0 (Int32.toNatClampNeg l3)) &&& 31) = 1) → ((hI h l0 (Int32.toNatClampNeg (l3 + 3))) = 0) → Ev G m_X5_edge [.ref l1, .int (hI h l0 (Int32.toNatClampNeg (l3 + 1))), .int (hI h l0 (Int32.toNatClampNeg (l3 + 2))), .int 0] h 0 0 (RI P2))
    (k14 : (¬ ((nI (hL h l0)) - 4) < l3) → (((hI h l0 (Int32.toNatClampNeg l3)) &&& 31) = 1) → ((hI h l0 (Int32.toNatClampNeg (l3 + 3))) = 0) → ∀ (x2 : Int32) (h2 : PH), P2 x2 h2 → hN h2 = (hN h) → hS h2 = (hS h) → RR G nc ns m_L_law 174 [some (.ref l0), some (.ref l1), some (.ref l2), some (.int l3)] [.int x2] h2 Z)
    (e15 : (¬ ((nI (hL h l0)) - 4) < l3) → (((hI h l0 (Int32.toNatClampNeg l3)) &&& 31) = 1) → (¬ (hI h l0 (Int32.toNatClampNeg (l3 + 3))) = 0) → Ev G m_X5_edge [.ref l1, .int (hI h l0 (Int32.toNatClampNeg (l3 + 1))), .int (hI h l0 (Int32.toNatClampNeg (l3 + 2))), .int 1] h 0 0 (RI P3))
    (k16 : (¬ ((nI (hL h l0)) - 4) < l3) → (((hI h l0 (Int32.toNatClampNeg l3)) &&& 31) = 1) → (¬ (hI h l0 (Int32.toNatClampNeg (l3 + 3))) = 0) → ∀ (x3 : Int32) (h3 : PH), P3 x3 h3 → hN h3 = (hN h) → hS h3 = (hS h) → RR G nc ns m_L_law 174 [some (.ref l0), some (.ref l1), some (.ref l2), some (.int l3)] [.int x3] h3 Z)
    (c17 : (¬ ((nI (hL h l0)) - 4) < l3) → (((hI h l0 (Int32.toNatClampNeg l3)) &&& 31) = 2) → vp_in (l3 + 1) (hL h l0))
    (e18 : (¬ ((nI (hL h l0)) - 4) < l3) → (((hI h l0 (Int32.toNatClampNeg l3)) &&& 31) = 2) → Ev G m_X5_count [.ref l1, .int (hI h l0 (Int32.toNatClampNeg (l3 + 1)))] h 0 0 (RI P4))
    (k19 : (¬ ((nI (hL h l0)) - 4) < l3) → (((hI h l0 (Int32.toNatClampNeg l3)) &&& 31) = 2) → ∀ (x4 : Int32) (h4 : PH), P4 x4 h4 → hN h4 = (hN h) → hS h4 = (hS h) → RR G nc ns m_L_law 215 [some (.ref l0), some (.ref l1), some (.ref l2), some (.int l3)] [.int x4] h4 Z)
    (c20 : (¬ ((nI (hL h l0)) - 4) < l3) → (((hI h l0 (Int32.toNatClampNeg l3)) &&& 31) = 3) → vp_in (l3 + 1) (hL h l0))
    (c21 : (¬ ((nI (hL h l0)) - 4) < l3) → (((hI h l0 (Int32.toNatClampNeg l3)) &&& 31) = 3) → vp_in (l3 + 2) (hL h l0))
    (e22 : (¬ ((nI (hL h l0)) - 4) < l3) → (((hI h l0 (Int32.toNatClampNeg l3)) &&& 31) = 3) → Ev G m_X5_has [.ref l1, .int (hI h l0 (Int32.toNatClampNeg (l3 + 1))), .int (hI h l0 (Int32.toNatClampNeg (l3 + 2)))] h 0 0 (RI P5))
    (k23 : (¬ ((nI (hL h l0)) - 4) < l3) → (((hI h l0 (Int32.toNatClampNeg l3)) &&& 31) = 3) → ∀ (x5 : Int32) (h5 : PH), P5 x5 h5 → hN h5 = (hN h) → hS h5 = (hS h) → RR G nc ns m_L_law 243 [some (.ref l0), some (.ref l1), some (.ref l2), some (.int l3)] [.int x5] h5 Z)
    (c24 : (¬ ((nI (hL h l0)) - 4) < l3) → (((hI h l0 (Int32.toNatClampNeg l3)) &&& 31) = 4) → vp_in (l3 + 1) (hL h l0))
    (c25 : (¬ ((nI (hL h l0)) - 4) < l3) → (((hI h l0 (Int32.toNatClampNeg l3)) &&& 31) = 4) → vp_in (l3 + 2) (hL h l0))
    (e26 : (¬ ((nI (hL h l0)) - 4) < l3) → (((hI h l0 (Int32.toNatClampNeg l3)) &&& 31) = 4) → Ev G m_X5_partner [.ref l1, .int (hI h l0 (Int32.toNatClampNeg (l3 + 1))), .int (hI h l0 (Int32.toNatClampNeg (l3 + 2)))] h 0 0 (RI P6))
    (k27 : (¬ ((nI (hL h l0)) - 4) < l3) → (((hI h l0 (Int32.toNatClampNeg l3)) &&& 31) = 4) → ∀ (x6 : Int32) (h6 : PH), P6 x6 h6 → hN h6 = (hN h) → hS h6 = (hS h) → RR G nc ns m_L_law 276 [some (.ref l0), some (.ref l1), some (.ref l2), some (.int l3)] [.int x6] h6 Z)
    (c28 : (¬ ((nI (hL h l0)) - 4) < l3) → (((hI h l0 (Int32.toNatClampNeg l3)) &&& 31) = 5) → vp_in (l3 + 1) (hL h l0))
    (c29 : (¬ ((nI (hL h l0)) - 4) < l3) → (((hI h l0 (Int32.toNatClampNeg l3)) &&& 31) = 5) → vp_in (l3 + 2) (hL h l0))
    (e30 : (¬ ((nI (hL h l0)) - 4) < l3) → (((hI h l0 (Int32.toNatClampNeg l3)) &&& 31) = 5) → Ev G m_X5_edgeIs [.ref l1, .int (hI h l0 (Int32.toNatClampNeg (l3 + 1))), .int (hI h l0 (Int32.toNatClampNeg (l3 + 2)))] h 0 0 (RI P7))
    (k31 : (¬ ((nI (hL h l0)) - 4) < l3) → (((hI h l0 (Int32.toNatClampNeg l3)) &&& 31) = 5) → ∀ (x7 : Int32) (h7 : PH), P7 x7 h7 → hN h7 = (hN h) → hS h7 = (hS h) → RR G nc ns m_L_law 309 [some (.ref l0), some (.ref l1), some (.ref l2), some (.int l3)] [.int x7] h7 Z)
    (c32 : (¬ ((nI (hL h l0)) - 4) < l3) → (((hI h l0 (Int32.toNatClampNeg l3)) &&& 31) = 6) → vp_in (l3 + 1) (hL h l0))
    (c33 : (¬ ((nI (hL h l0)) - 4) < l3) → (((hI h l0 (Int32.toNatClampNeg l3)) &&& 31) = 6) → vp_in (l3 + 2) (hL h l0))
    (e34 : (¬ ((nI (hL h l0)) - 4) < l3) → (((hI h l0 (Int32.toNatClampNeg l3)) &&& 31) = 6) → Ev G m_X5_nodeIs [.ref l1, .int (hI h l0 (Int32.toNatClampNeg (l3 + 1))), .int (hI h l0 (Int32.toNatClampNeg (l3 + 2)))] h 0 0 (RI P8))
    (k35 : (¬ ((nI (hL h l0)) - 4) < l3) → (((hI h l0 (Int32.toNatClampNeg l3)) &&& 31) = 6) → ∀ (x8 : Int32) (h8 : PH), P8 x8 h8 → hN h8 = (hN h) → hS h8 = (hS h) → RR G nc ns m_L_law 342 [some (.ref l0), some (.ref l1), some (.ref l2), some (.int l3)] [.int x8] h8 Z)
    (c36 : (¬ ((nI (hL h l0)) - 4) < l3) → (((hI h l0 (Int32.toNatClampNeg l3)) &&& 31) = 7) → vp_in (l3 + 1) (hL h l0))
    (c37 : (¬ ((nI (hL h l0)) - 4) < l3) → (((hI h l0 (Int32.toNatClampNeg l3)) &&& 31) = 7) → vp_in (l3 + 2) (hL h l0))
    (c38 : (¬ ((nI (hL h l0)) - 4) < l3) → (((hI h l0 (Int32.toNatClampNeg l3)) &&& 31) = 7) → vp_in (l3 + 3) (hL h l0))
    (e39 : (¬ ((nI (hL h l0)) - 4) < l3) → (((hI h l0 (Int32.toNatClampNeg l3)) &&& 31) = 7) → Ev G m_X5_cover [.ref l1, .int (hI h l0 (Int32.toNatClampNeg (l3 + 1))), .int (hI h l0 (Int32.toNatClampNeg (l3 + 2))), .int (hI h l0 (Int32.toNatClampNeg (l3 + 3)))] h 0 0 (RI P9))
    (k40 : (¬ ((nI (hL h l0)) - 4) < l3) → (((hI h l0 (Int32.toNatClampNeg l3)) &&& 31) = 7) → ∀ (x9 : Int32) (h9 : PH), P9 x9 h9 → hN h9 = (hN h) → hS h9 = (hS h) → RR G nc ns m_L_law 380 [some (.ref l0), some (.ref l1), some (.ref l2), some (.int l3)] [.int x9] h9 Z)
    (c41 : (¬ ((nI (hL h l0)) - 4) < l3) → (((hI h l0 (Int32.toNatClampNeg l3)) &&& 31) = 8) → vp_in (l3 + 1) (hL h l0))
    (c42 : (¬ ((nI (hL h l0)) - 4) < l3) → (((hI h l0 (Int32.toNatClampNeg l3)) &&& 31) = 8) → vp_in (l3 + 2) (hL h l0))
    (e43 : (¬ ((nI (hL h l0)) - 4) < l3) → (((hI h l0 (Int32.toNatClampNeg l3)) &&& 31) = 8) → Ev G m_X5_hall [.ref l1, .int (hI h l0 (Int32.toNatClampNeg (l3 + 1))), .int (hI h l0 (Int32.toNatClampNeg (l3 + 2)))] h 0 0 (RI P10))
    (k44 : (¬ ((nI (hL h l0)) - 4) < l3) → (((hI h l0 (Int32.toNatClampNeg l3)) &&& 31) = 8) → ∀ (x10 : Int32) (h10 : PH), P10 x10 h10 → hN h10 = (hN h) → hS h10 = (hS h) → RR G nc ns m_L_law 418 [some (.ref l0), some (.ref l1), some (.ref l2), some (.int l3)] [.int x10] h10 Z)
    (c45 : (¬ ((nI (hL h l0)) - 4) < l3) → (((hI h l0 (Int32.toNatClampNeg l3)) &&& 31) = 9) → vp_in (l3 + 1) (hL h l0))
    (c46 : (¬ ((nI (hL h l0)) - 4) < l3) → (((hI h l0 (Int32.toNatClampNeg l3)) &&& 31) = 9) → vp_in (l3 + 2) (hL h l0))
    (e47 : (¬ ((nI (hL h l0)) - 4) < l3) → (((hI h l0 (Int32.toNatClampNeg l3)) &&& 31) = 9) → Ev G m_X5_part [.ref l1, .int (hI h l0 (Int32.toNatClampNeg (l3 + 1))), .int (hI h l0 (Int32.toNatClampNeg (l3 + 2)))] h 0 0 (RI P11))
    (k48 : (¬ ((nI (hL h l0)) - 4) < l3) → (((hI h l0 (Int32.toNatClampNeg l3)) &&& 31) = 9) → ∀ (x11 : Int32) (h11 : PH), P11 x11 h11 → hN h11 = (hN h) → hS h11 = (hS h) → RR G nc ns m_L_law 451 [some (.ref l0), some (.ref l1), some (.ref l2), some (.int l3)] [.int x11] h11 Z)
    (c49 : (¬ ((nI (hL h l0)) - 4) < l3) → (((hI h l0 (Int32.toNatClampNeg l3)) &&& 31) = 10) → vp_in (l3 + 1) (hL h l0))
    (c50 : (¬ ((nI (hL h l0)) - 4) < l3) → (((hI h l0 (Int32.toNatClampNeg l3)) &&& 31) = 10) → vp_in (l3 + 2) (hL h l0))
    (e51 : (¬ ((nI (hL h l0)) - 4) < l3) → (((hI h l0 (Int32.toNatClampNeg l3)) &&& 31) = 10) → Ev G m_X5_block [.ref l1, .int (hI h l0 (Int32.toNatClampNeg (l3 + 1))), .int (hI h l0 (Int32.toNatClampNeg (l3 + 2)))] h 0 0 (RI P12))
    (k52 : (¬ ((nI (hL h l0)) - 4) < l3) → (((hI h l0 (Int32.toNatClampNeg l3)) &&& 31) = 10) → ∀ (x12 : Int32) (h12 : PH), P12 x12 h12 → hN h12 = (hN h) → hS h12 = (hS h) → RR G nc ns m_L_law 484 [some (.ref l0), some (.ref l1), some (.ref l2), some (.int l3)] [.int x12] h12 Z)
    (c53 : (¬ ((nI (hL h l0)) - 4) < l3) → (((hI h l0 (Int32.toNatClampNeg l3)) &&& 31) = 11) → vp_in (l3 + 1) (hL h l0))
    (c54 : (¬ ((nI (hL h l0)) - 4) < l3) → (((hI h l0 (Int32.toNatClampNeg l3)) &&& 31) = 11) → vp_in (l3 + 2) (hL h l0))
    (e55 : (¬ ((nI (hL h l0)) - 4) < l3) → (((hI h l0 (Int32.toNatClampNeg l3)) &&& 31) = 11) → Ev G m_X5_leads [.ref l1, .int (hI h l0 (Int32.toNatClampNeg (l3 + 1))), .int (hI h l0 (Int32.toNatClampNeg (l3 + 2)))] h 0 0 (RI P13))
    (k56 : (¬ ((nI (hL h l0)) - 4) < l3) → (((hI h l0 (Int32.toNatClampNeg l3)) &&& 31) = 11) → ∀ (x13 : Int32) (h13 : PH), P13 x13 h13 → hN h13 = (hN h) → hS h13 = (hS h) → RR G nc ns m_L_law 517 [some (.ref l0), some (.ref l1), some (.ref l2), some (.int l3)] [.int x13] h13 Z)
    (c57 : (hN h) + mc14 ≤ nc)
    (c58 : (hS h) + ms14 ≤ ns)
    (e59 : (¬ ((nI (hL h l0)) - 4) < l3) → (((hI h l0 (Int32.toNatClampNeg l3)) &&& 31) = 12) → Ev G m_X5_pairings [.ref l1] h mc14 ms14 (RJ P14))
    (k60 : (¬ ((nI (hL h l0)) - 4) < l3) → (((hI h l0 (Int32.toNatClampNeg l3)) &&& 31) = 12) → ∀ (x14 : Int64) (h14 : PH), P14 x14 h14 → hN h14 = (hN h) + mc14 → hS h14 = (hS h) + ms14 → RR G nc ns m_L_law 540 [some (.ref l0), some (.ref l1), some (.ref l2), some (.int l3)] [.long x14] h14 Z)
    (e61 : (¬ ((nI (hL h l0)) - 4) < l3) → (((hI h l0 (Int32.toNatClampNeg l3)) &&& 31) = 13) → Ev G m_X5_thing [.ref l1] h 0 0 (RI P15))
    (k62 : (¬ ((nI (hL h l0)) - 4) < l3) → (((hI h l0 (Int32.toNatClampNeg l3)) &&& 31) = 13) → ∀ (x15 : Int32) (h15 : PH), P15 x15 h15 → hN h15 = (hN h) → hS h15 = (hS h) → RR G nc ns m_L_law 554 [some (.ref l0), some (.ref l1), some (.ref l2), some (.int l3)] [.int x15] h15 Z)
    (c63 : (¬ ((nI (hL h l0)) - 4) < l3) → (((hI h l0 (Int32.toNatClampNeg l3)) &&& 31) = 14) → vp_in (l3 + 1) (hL h l0))
    (c64 : (¬ ((nI (hL h l0)) - 4) < l3) → (((hI h l0 (Int32.toNatClampNeg l3)) &&& 31) = 14) → vp_in (l3 + 2) (hL h l0))
    (e65 : (¬ ((nI (hL h l0)) - 4) < l3) → (((hI h l0 (Int32.toNatClampNeg l3)) &&& 31) = 14) → Ev G m_X5_tell [.ref l1, .int (hI h l0 (Int32.toNatClampNeg (l3 + 1))), .int (hI h l0 (Int32.toNatClampNeg (l3 + 2)))] h 0 0 (RI P16))
    (k66 : (¬ ((nI (hL h l0)) - 4) < l3) → (((hI h l0 (Int32.toNatClampNeg l3)) &&& 31) = 14) → ∀ (x16 : Int32) (h16 : PH), P16 x16 h16 → hN h16 = (hN h) → hS h16 = (hS h) → RR G nc ns m_L_law 577 [some (.ref l0), some (.ref l1), some (.ref l2), some (.int l3)] [.int x16] h16 Z)
    (c67 : (¬ ((nI (hL h l0)) - 4) < l3) → (((hI h l0 (Int32.toNatClampNeg l3)) &&& 31) = 15) → vp_in (l3 + 1) (hL h l0))
    (c68 : (¬ ((nI (hL h l0)) - 4) < l3) → (((hI h l0 (Int32.toNatClampNeg l3)) &&& 31) = 15) → vp_in (l3 + 2) (hL h l0))
    (e69 : (¬ ((nI (hL h l0)) - 4) < l3) → (((hI h l0 (Int32.toNatClampNeg l3)) &&& 31) = 15) → Ev G m_X5_below [.ref l1, .int (hI h l0 (Int32.toNatClampNeg (l3 + 1))), .int (hI h l0 (Int32.toNatClampNeg (l3 + 2)))] h 0 0 (RI P17))
    (k70 : (¬ ((nI (hL h l0)) - 4) < l3) → (((hI h l0 (Int32.toNatClampNeg l3)) &&& 31) = 15) → ∀ (x17 : Int32) (h17 : PH), P17 x17 h17 → hN h17 = (hN h) → hS h17 = (hS h) → RR G nc ns m_L_law 610 [some (.ref l0), some (.ref l1), some (.ref l2), some (.int l3)] [.int x17] h17 Z)
    (c71 : (¬ ((nI (hL h l0)) - 4) < l3) → (((hI h l0 (Int32.toNatClampNeg l3)) &&& 31) = 16) → vp_in (l3 + 1) (hL h l0))
    (c72 : (¬ ((nI (hL h l0)) - 4) < l3) → (((hI h l0 (Int32.toNatClampNeg l3)) &&& 31) = 16) → vp_in (l3 + 2) (hL h l0))
    (e73 : (¬ ((nI (hL h l0)) - 4) < l3) → (((hI h l0 (Int32.toNatClampNeg l3)) &&& 31) = 16) → Ev G m_X5_about [.ref l1, .int (hI h l0 (Int32.toNatClampNeg (l3 + 1))), .int (hI h l0 (Int32.toNatClampNeg (l3 + 2)))] h 0 0 (RI P18))
    (k74 : (¬ ((nI (hL h l0)) - 4) < l3) → (((hI h l0 (Int32.toNatClampNeg l3)) &&& 31) = 16) → ∀ (x18 : Int32) (h18 : PH), P18 x18 h18 → hN h18 = (hN h) → hS h18 = (hS h) → RR G nc ns m_L_law 643 [some (.ref l0), some (.ref l1), some (.ref l2), some (.int l3)] [.int x18] h18 Z)
    (e75 : (¬ ((nI (hL h l0)) - 4) < l3) → (((hI h l0 (Int32.toNatClampNeg l3)) &&& 31) = 17) → Ev G m_X5_clearGraph [.ref l1] h 0 0 (RI P19))
    (k76 : (¬ ((nI (hL h l0)) - 4) < l3) → (((hI h l0 (Int32.toNatClampNeg l3)) &&& 31) = 17) → ∀ (x19 : Int32) (h19 : PH), P19 x19 h19 → hN h19 = (hN h) → hS h19 = (hS h) → RR G nc ns m_L_law 666 [some (.ref l0), some (.ref l1), some (.ref l2), some (.int l3)] [.int x19] h19 Z)
    (e77 : (¬ ((nI (hL h l0)) - 4) < l3) → (((hI h l0 (Int32.toNatClampNeg l3)) &&& 31) = 18) → Ev G m_X5_clearThings [.ref l1] h 0 0 (RI P20))
    (k78 : (¬ ((nI (hL h l0)) - 4) < l3) → (((hI h l0 (Int32.toNatClampNeg l3)) &&& 31) = 18) → ∀ (x20 : Int32) (h20 : PH), P20 x20 h20 → hN h20 = (hN h) → hS h20 = (hS h) → RR G nc ns m_L_law 679 [some (.ref l0), some (.ref l1), some (.ref l2), some (.int l3)] [.int x20] h20 Z) :
    RR G nc ns m_L_law 18 [some (.ref l0), some (.ref l1), some (.ref l2), some (.int l3)] [] h Z := by
  refine r_iload_n dL_law_18 rfl ?_
  refine r_aload_n dL_law_19 rfl ?_
  refine r_alen dL_law_20 (c1) ?_
  refine r_iconst (v := 4) dL_law_21 (by decide) ?_
  refine r_isub dL_law_22 ?_
  refine r_icmp_gt 694 dL_law_23 (by decide) (fun q1 => ?_) (fun q1 => ?_)
  · refine r_iconst (v := 1) dL_law_694 (by decide) ?_
    exact r_zreturn dL_law_695 rfl (by decide) (k2 q1)
  · refine r_aload_n dL_law_26 rfl ?_
    refine r_iload_n dL_law_27 rfl ?_
    refine r_saloadJ (Int32.toNatClampNeg l3) dL_law_28 (c3) (c4 q1) rfl ?_
    refine r_bipush (v := 31) dL_law_29 (by decide) ?_
    refine r_iand dL_law_31 ?_
    by_cases q2 : ((hI h l0 (Int32.toNatClampNeg l3)) &&& 31) < 0 ∨ 18 < ((hI h l0 (Int32.toNatClampNeg l3)) &&& 31)
    · refine r_tableOut (tgt := 688) dL_law_32 (sw_out (by decide) (by decide) q2) (by decide) ?_
      refine r_iincL (v := l3 + 4) [some (.ref l0), some (.ref l1), some (.ref l2), some (.int (l3 + 4))] dL_law_688 rfl (by decide) rfl rfl ?_
      refine r_goto (tgt := 18) dL_law_691 (by decide) ?_
      exact k5 q1 q2
    · rcases sw_in_0_18 q2 with q9 | q9 | q9 | q9 | q9 | q9 | q9 | q9 | q9 | q9 | q9 | q9 | q9 | q9 | q9 | q9 | q9 | q9 | q9
      · have q3 : ((hI h l0 (Int32.toNatClampNeg l3)) &&& 31) = 0 := q9
        refine r_tableIn (off := 92) (tgt := 124) dL_law_32 (by rw [q3]; decide) (by rw [q3]; decide) (by rw [q3]; rfl) (by decide) ?_
        refine r_aload_n dL_law_124 rfl ?_
        refine r_aload_n dL_law_125 rfl ?_
        refine r_iload_n dL_law_126 rfl ?_
        refine r_iconst (v := 1) dL_law_127 (by decide) ?_
        refine r_iadd dL_law_128 ?_
        refine r_saloadJ (Int32.toNatClampNeg (l3 + 1)) dL_law_129 (c3) (c6 q1 q3) rfl ?_
        refine r_callV (c := 5) (mc := 0) (ms := 0) dL_law_130 ck_X5_node iv_X5_node sl_X5_node lk_RL_13 rfl rfl (c8) (by decide) (by decide) (As := [.int (hI h l0 (Int32.toNatClampNeg (l3 + 1)))]) rfl rfl (Nat.le_of_ble_eq_true rfl) (Or.inl rfl) (Or.inl rfl) (e7 q1 q3) ?_
        rintro v1 h1 ⟨x1, rfl, z1⟩ n1 t1
        exact k9 q1 q3 x1 h1 z1 n1 t1
      · have q4 : ((hI h l0 (Int32.toNatClampNeg l3)) &&& 31) = 1 := q9
        refine r_tableIn (off := 115) (tgt := 147) dL_law_32 (by rw [q4]; decide) (by rw [q4]; decide) (by rw [q4]; rfl) (by decide) ?_
        refine r_aload_n dL_law_147 rfl ?_
        refine r_aload_n dL_law_148 rfl ?_
        refine r_iload_n dL_law_149 rfl ?_
        refine r_iconst (v := 1) dL_law_150 (by decide) ?_
        refine r_iadd dL_law_151 ?_
        refine r_saloadJ (Int32.toNatClampNeg (l3 + 1)) dL_law_152 (c3) (c10 q1 q4) rfl ?_
        refine r_aload_n dL_law_153 rfl ?_
        refine r_iload_n dL_law_154 rfl ?_
        refine r_iconst (v := 2) dL_law_155 (by decide) ?_
        refine r_iadd dL_law_156 ?_
        refine r_saloadJ (Int32.toNatClampNeg (l3 + 2)) dL_law_157 (c3) (c11 q1 q4) rfl ?_
        refine r_aload_n dL_law_158 rfl ?_
        refine r_iload_n dL_law_159 rfl ?_
        refine r_iconst (v := 3) dL_law_160 (by decide) ?_
        refine r_iadd dL_law_161 ?_
        refine r_saloadJ (Int32.toNatClampNeg (l3 + 3)) dL_law_162 (c3) (c12 q1 q4) rfl ?_
        refine r_if_eq 170 dL_law_163 (by decide) (fun q5 => ?_) (fun q5 => ?_)
        · refine r_iconst (v := 0) dL_law_170 (by decide) ?_
          refine r_callV (c := 5) (mc := 0) (ms := 0) dL_law_171 ck_X5_edge iv_X5_edge sl_X5_edge lk_RL_18 rfl rfl (c8) (by decide) (by decide) (As := [.int (hI h l0 (Int32.toNatClampNeg (l3 + 1))), .int (hI h l0 (Int32.toNatClampNeg (l3 + 2))), .int 0]) rfl rfl (Nat.le_of_ble_eq_true rfl) (Or.inl rfl) (Or.inl rfl) (e13 q1 q4 q5) ?_
          rintro v2 h2 ⟨x2, rfl, z2⟩ n2 t2
          exact k14 q1 q4 q5 x2 h2 z2 n2 t2
        · refine r_iconst (v := 1) dL_law_166 (by decide) ?_
          refine r_goto (tgt := 171) dL_law_167 (by decide) ?_
          refine r_callV (c := 5) (mc := 0) (ms := 0) dL_law_171 ck_X5_edge iv_X5_edge sl_X5_edge lk_RL_18 rfl rfl (c8) (by decide) (by decide) (As := [.int (hI h l0 (Int32.toNatClampNeg (l3 + 1))), .int (hI h l0 (Int32.toNatClampNeg (l3 + 2))), .int 1]) rfl rfl (Nat.le_of_ble_eq_true rfl) (Or.inl rfl) (Or.inl rfl) (e15 q1 q4 q5) ?_
          rintro v3 h3 ⟨x3, rfl, z3⟩ n3 t3
          exact k16 q1 q4 q5 x3 h3 z3 n3 t3
      · have q6 : ((hI h l0 (Int32.toNatClampNeg l3)) &&& 31) = 2 := q9
        refine r_tableIn (off := 174) (tgt := 206) dL_law_32 (by rw [q6]; decide) (by rw [q6]; decide) (by rw [q6]; rfl) (by decide) ?_
        refine r_aload_n dL_law_206 rfl ?_
        refine r_aload_n dL_law_207 rfl ?_
        refine r_iload_n dL_law_208 rfl ?_
        refine r_iconst (v := 1) dL_law_209 (by decide) ?_
        refine r_iadd dL_law_210 ?_
        refine r_saloadJ (Int32.toNatClampNeg (l3 + 1)) dL_law_211 (c3) (c17 q1 q6) rfl ?_
        refine r_callV (c := 5) (mc := 0) (ms := 0) dL_law_212 ck_X5_count iv_X5_count sl_X5_count lk_RL_23 rfl rfl (c8) (by decide) (by decide) (As := [.int (hI h l0 (Int32.toNatClampNeg (l3 + 1)))]) rfl rfl (Nat.le_of_ble_eq_true rfl) (Or.inl rfl) (Or.inl rfl) (e18 q1 q6) ?_
        rintro v4 h4 ⟨x4, rfl, z4⟩ n4 t4
        exact k19 q1 q6 x4 h4 z4 n4 t4
      · have q7 : ((hI h l0 (Int32.toNatClampNeg l3)) &&& 31) = 3 := q9
        refine r_tableIn (off := 197) (tgt := 229) dL_law_32 (by rw [q7]; decide) (by rw [q7]; decide) (by rw [q7]; rfl) (by decide) ?_
        refine r_aload_n dL_law_229 rfl ?_
        refine r_aload_n dL_law_230 rfl ?_
        refine r_iload_n dL_law_231 rfl ?_
        refine r_iconst (v := 1) dL_law_232 (by decide) ?_
        refine r_iadd dL_law_233 ?_
        refine r_saloadJ (Int32.toNatClampNeg (l3 + 1)) dL_law_234 (c3) (c20 q1 q7) rfl ?_
        refine r_aload_n dL_law_235 rfl ?_
        refine r_iload_n dL_law_236 rfl ?_
        refine r_iconst (v := 2) dL_law_237 (by decide) ?_
        refine r_iadd dL_law_238 ?_
        refine r_saloadJ (Int32.toNatClampNeg (l3 + 2)) dL_law_239 (c3) (c21 q1 q7) rfl ?_
        refine r_callV (c := 5) (mc := 0) (ms := 0) dL_law_240 ck_X5_has iv_X5_has sl_X5_has lk_RL_27 rfl rfl (c8) (by decide) (by decide) (As := [.int (hI h l0 (Int32.toNatClampNeg (l3 + 1))), .int (hI h l0 (Int32.toNatClampNeg (l3 + 2)))]) rfl rfl (Nat.le_of_ble_eq_true rfl) (Or.inl rfl) (Or.inl rfl) (e22 q1 q7) ?_
        rintro v5 h5 ⟨x5, rfl, z5⟩ n5 t5
        exact k23 q1 q7 x5 h5 z5 n5 t5
      · have q8 : ((hI h l0 (Int32.toNatClampNeg l3)) &&& 31) = 4 := q9
        refine r_tableIn (off := 230) (tgt := 262) dL_law_32 (by rw [q8]; decide) (by rw [q8]; decide) (by rw [q8]; rfl) (by decide) ?_
        refine r_aload_n dL_law_262 rfl ?_
        refine r_aload_n dL_law_263 rfl ?_
        refine r_iload_n dL_law_264 rfl ?_
        refine r_iconst (v := 1) dL_law_265 (by decide) ?_
        refine r_iadd dL_law_266 ?_
        refine r_saloadJ (Int32.toNatClampNeg (l3 + 1)) dL_law_267 (c3) (c24 q1 q8) rfl ?_
        refine r_aload_n dL_law_268 rfl ?_
        refine r_iload_n dL_law_269 rfl ?_
        refine r_iconst (v := 2) dL_law_270 (by decide) ?_
        refine r_iadd dL_law_271 ?_
        refine r_saloadJ (Int32.toNatClampNeg (l3 + 2)) dL_law_272 (c3) (c25 q1 q8) rfl ?_
        refine r_callV (c := 5) (mc := 0) (ms := 0) dL_law_273 ck_X5_partner iv_X5_partner sl_X5_partner lk_RL_32 rfl rfl (c8) (by decide) (by decide) (As := [.int (hI h l0 (Int32.toNatClampNeg (l3 + 1))), .int (hI h l0 (Int32.toNatClampNeg (l3 + 2)))]) rfl rfl (Nat.le_of_ble_eq_true rfl) (Or.inl rfl) (Or.inl rfl) (e26 q1 q8) ?_
        rintro v6 h6 ⟨x6, rfl, z6⟩ n6 t6
        exact k27 q1 q8 x6 h6 z6 n6 t6
      · have q9 : ((hI h l0 (Int32.toNatClampNeg l3)) &&& 31) = 5 := q9
        refine r_tableIn (off := 263) (tgt := 295) dL_law_32 (by rw [q9]; decide) (by rw [q9]; decide) (by rw [q9]; rfl) (by decide) ?_
        refine r_aload_n dL_law_295 rfl ?_
        refine r_aload_n dL_law_296 rfl ?_
        refine r_iload_n dL_law_297 rfl ?_
        refine r_iconst (v := 1) dL_law_298 (by decide) ?_
        refine r_iadd dL_law_299 ?_
        refine r_saloadJ (Int32.toNatClampNeg (l3 + 1)) dL_law_300 (c3) (c28 q1 q9) rfl ?_
        refine r_aload_n dL_law_301 rfl ?_
        refine r_iload_n dL_law_302 rfl ?_
        refine r_iconst (v := 2) dL_law_303 (by decide) ?_
        refine r_iadd dL_law_304 ?_
        refine r_saloadJ (Int32.toNatClampNeg (l3 + 2)) dL_law_305 (c3) (c29 q1 q9) rfl ?_
        refine r_callV (c := 5) (mc := 0) (ms := 0) dL_law_306 ck_X5_edgeIs iv_X5_edgeIs sl_X5_edgeIs lk_RL_37 rfl rfl (c8) (by decide) (by decide) (As := [.int (hI h l0 (Int32.toNatClampNeg (l3 + 1))), .int (hI h l0 (Int32.toNatClampNeg (l3 + 2)))]) rfl rfl (Nat.le_of_ble_eq_true rfl) (Or.inl rfl) (Or.inl rfl) (e30 q1 q9) ?_
        rintro v7 h7 ⟨x7, rfl, z7⟩ n7 t7
        exact k31 q1 q9 x7 h7 z7 n7 t7
      · have q10 : ((hI h l0 (Int32.toNatClampNeg l3)) &&& 31) = 6 := q9
        refine r_tableIn (off := 296) (tgt := 328) dL_law_32 (by rw [q10]; decide) (by rw [q10]; decide) (by rw [q10]; rfl) (by decide) ?_
        refine r_aload_n dL_law_328 rfl ?_
        refine r_aload_n dL_law_329 rfl ?_
        refine r_iload_n dL_law_330 rfl ?_
        refine r_iconst (v := 1) dL_law_331 (by decide) ?_
        refine r_iadd dL_law_332 ?_
        refine r_saloadJ (Int32.toNatClampNeg (l3 + 1)) dL_law_333 (c3) (c32 q1 q10) rfl ?_
        refine r_aload_n dL_law_334 rfl ?_
        refine r_iload_n dL_law_335 rfl ?_
        refine r_iconst (v := 2) dL_law_336 (by decide) ?_
        refine r_iadd dL_law_337 ?_
        refine r_saloadJ (Int32.toNatClampNeg (l3 + 2)) dL_law_338 (c3) (c33 q1 q10) rfl ?_
        refine r_callV (c := 5) (mc := 0) (ms := 0) dL_law_339 ck_X5_nodeIs iv_X5_nodeIs sl_X5_nodeIs lk_RL_41 rfl rfl (c8) (by decide) (by decide) (As := [.int (hI h l0 (Int32.toNatClampNeg (l3 + 1))), .int (hI h l0 (Int32.toNatClampNeg (l3 + 2)))]) rfl rfl (Nat.le_of_ble_eq_true rfl) (Or.inl rfl) (Or.inl rfl) (e34 q1 q10) ?_
        rintro v8 h8 ⟨x8, rfl, z8⟩ n8 t8
        exact k35 q1 q10 x8 h8 z8 n8 t8
      · have q11 : ((hI h l0 (Int32.toNatClampNeg l3)) &&& 31) = 7 := q9
        refine r_tableIn (off := 329) (tgt := 361) dL_law_32 (by rw [q11]; decide) (by rw [q11]; decide) (by rw [q11]; rfl) (by decide) ?_
        refine r_aload_n dL_law_361 rfl ?_
        refine r_aload_n dL_law_362 rfl ?_
        refine r_iload_n dL_law_363 rfl ?_
        refine r_iconst (v := 1) dL_law_364 (by decide) ?_
        refine r_iadd dL_law_365 ?_
        refine r_saloadJ (Int32.toNatClampNeg (l3 + 1)) dL_law_366 (c3) (c36 q1 q11) rfl ?_
        refine r_aload_n dL_law_367 rfl ?_
        refine r_iload_n dL_law_368 rfl ?_
        refine r_iconst (v := 2) dL_law_369 (by decide) ?_
        refine r_iadd dL_law_370 ?_
        refine r_saloadJ (Int32.toNatClampNeg (l3 + 2)) dL_law_371 (c3) (c37 q1 q11) rfl ?_
        refine r_aload_n dL_law_372 rfl ?_
        refine r_iload_n dL_law_373 rfl ?_
        refine r_iconst (v := 3) dL_law_374 (by decide) ?_
        refine r_iadd dL_law_375 ?_
        refine r_saloadJ (Int32.toNatClampNeg (l3 + 3)) dL_law_376 (c3) (c38 q1 q11) rfl ?_
        refine r_callV (c := 5) (mc := 0) (ms := 0) dL_law_377 ck_X5_cover iv_X5_cover sl_X5_cover lk_RL_45 rfl rfl (c8) (by decide) (by decide) (As := [.int (hI h l0 (Int32.toNatClampNeg (l3 + 1))), .int (hI h l0 (Int32.toNatClampNeg (l3 + 2))), .int (hI h l0 (Int32.toNatClampNeg (l3 + 3)))]) rfl rfl (Nat.le_of_ble_eq_true rfl) (Or.inl rfl) (Or.inl rfl) (e39 q1 q11) ?_
        rintro v9 h9 ⟨x9, rfl, z9⟩ n9 t9
        exact k40 q1 q11 x9 h9 z9 n9 t9
      · have q12 : ((hI h l0 (Int32.toNatClampNeg l3)) &&& 31) = 8 := q9
        refine r_tableIn (off := 372) (tgt := 404) dL_law_32 (by rw [q12]; decide) (by rw [q12]; decide) (by rw [q12]; rfl) (by decide) ?_
        refine r_aload_n dL_law_404 rfl ?_
        refine r_aload_n dL_law_405 rfl ?_
        refine r_iload_n dL_law_406 rfl ?_
        refine r_iconst (v := 1) dL_law_407 (by decide) ?_
        refine r_iadd dL_law_408 ?_
        refine r_saloadJ (Int32.toNatClampNeg (l3 + 1)) dL_law_409 (c3) (c41 q1 q12) rfl ?_
        refine r_aload_n dL_law_410 rfl ?_
        refine r_iload_n dL_law_411 rfl ?_
        refine r_iconst (v := 2) dL_law_412 (by decide) ?_
        refine r_iadd dL_law_413 ?_
        refine r_saloadJ (Int32.toNatClampNeg (l3 + 2)) dL_law_414 (c3) (c42 q1 q12) rfl ?_
        refine r_callV (c := 5) (mc := 0) (ms := 0) dL_law_415 ck_X5_hall iv_X5_hall sl_X5_hall lk_RL_50 rfl rfl (c8) (by decide) (by decide) (As := [.int (hI h l0 (Int32.toNatClampNeg (l3 + 1))), .int (hI h l0 (Int32.toNatClampNeg (l3 + 2)))]) rfl rfl (Nat.le_of_ble_eq_true rfl) (Or.inl rfl) (Or.inl rfl) (e43 q1 q12) ?_
        rintro v10 h10 ⟨x10, rfl, z10⟩ n10 t10
        exact k44 q1 q12 x10 h10 z10 n10 t10
      · have q13 : ((hI h l0 (Int32.toNatClampNeg l3)) &&& 31) = 9 := q9
        refine r_tableIn (off := 405) (tgt := 437) dL_law_32 (by rw [q13]; decide) (by rw [q13]; decide) (by rw [q13]; rfl) (by decide) ?_
        refine r_aload_n dL_law_437 rfl ?_
        refine r_aload_n dL_law_438 rfl ?_
        refine r_iload_n dL_law_439 rfl ?_
        refine r_iconst (v := 1) dL_law_440 (by decide) ?_
        refine r_iadd dL_law_441 ?_
        refine r_saloadJ (Int32.toNatClampNeg (l3 + 1)) dL_law_442 (c3) (c45 q1 q13) rfl ?_
        refine r_aload_n dL_law_443 rfl ?_
        refine r_iload_n dL_law_444 rfl ?_
        refine r_iconst (v := 2) dL_law_445 (by decide) ?_
        refine r_iadd dL_law_446 ?_
        refine r_saloadJ (Int32.toNatClampNeg (l3 + 2)) dL_law_447 (c3) (c46 q1 q13) rfl ?_
        refine r_callV (c := 5) (mc := 0) (ms := 0) dL_law_448 ck_X5_part iv_X5_part sl_X5_part lk_RL_54 rfl rfl (c8) (by decide) (by decide) (As := [.int (hI h l0 (Int32.toNatClampNeg (l3 + 1))), .int (hI h l0 (Int32.toNatClampNeg (l3 + 2)))]) rfl rfl (Nat.le_of_ble_eq_true rfl) (Or.inl rfl) (Or.inl rfl) (e47 q1 q13) ?_
        rintro v11 h11 ⟨x11, rfl, z11⟩ n11 t11
        exact k48 q1 q13 x11 h11 z11 n11 t11
      · have q14 : ((hI h l0 (Int32.toNatClampNeg l3)) &&& 31) = 10 := q9
        refine r_tableIn (off := 438) (tgt := 470) dL_law_32 (by rw [q14]; decide) (by rw [q14]; decide) (by rw [q14]; rfl) (by decide) ?_
        refine r_aload_n dL_law_470 rfl ?_
        refine r_aload_n dL_law_471 rfl ?_
        refine r_iload_n dL_law_472 rfl ?_
        refine r_iconst (v := 1) dL_law_473 (by decide) ?_
        refine r_iadd dL_law_474 ?_
        refine r_saloadJ (Int32.toNatClampNeg (l3 + 1)) dL_law_475 (c3) (c49 q1 q14) rfl ?_
        refine r_aload_n dL_law_476 rfl ?_
        refine r_iload_n dL_law_477 rfl ?_
        refine r_iconst (v := 2) dL_law_478 (by decide) ?_
        refine r_iadd dL_law_479 ?_
        refine r_saloadJ (Int32.toNatClampNeg (l3 + 2)) dL_law_480 (c3) (c50 q1 q14) rfl ?_
        refine r_callV (c := 5) (mc := 0) (ms := 0) dL_law_481 ck_X5_block iv_X5_block sl_X5_block lk_RL_58 rfl rfl (c8) (by decide) (by decide) (As := [.int (hI h l0 (Int32.toNatClampNeg (l3 + 1))), .int (hI h l0 (Int32.toNatClampNeg (l3 + 2)))]) rfl rfl (Nat.le_of_ble_eq_true rfl) (Or.inl rfl) (Or.inl rfl) (e51 q1 q14) ?_
        rintro v12 h12 ⟨x12, rfl, z12⟩ n12 t12
        exact k52 q1 q14 x12 h12 z12 n12 t12
      · have q15 : ((hI h l0 (Int32.toNatClampNeg l3)) &&& 31) = 11 := q9
        refine r_tableIn (off := 471) (tgt := 503) dL_law_32 (by rw [q15]; decide) (by rw [q15]; decide) (by rw [q15]; rfl) (by decide) ?_
        refine r_aload_n dL_law_503 rfl ?_
        refine r_aload_n dL_law_504 rfl ?_
        refine r_iload_n dL_law_505 rfl ?_
        refine r_iconst (v := 1) dL_law_506 (by decide) ?_
        refine r_iadd dL_law_507 ?_
        refine r_saloadJ (Int32.toNatClampNeg (l3 + 1)) dL_law_508 (c3) (c53 q1 q15) rfl ?_
        refine r_aload_n dL_law_509 rfl ?_
        refine r_iload_n dL_law_510 rfl ?_
        refine r_iconst (v := 2) dL_law_511 (by decide) ?_
        refine r_iadd dL_law_512 ?_
        refine r_saloadJ (Int32.toNatClampNeg (l3 + 2)) dL_law_513 (c3) (c54 q1 q15) rfl ?_
        refine r_callV (c := 5) (mc := 0) (ms := 0) dL_law_514 ck_X5_leads iv_X5_leads sl_X5_leads lk_RL_62 rfl rfl (c8) (by decide) (by decide) (As := [.int (hI h l0 (Int32.toNatClampNeg (l3 + 1))), .int (hI h l0 (Int32.toNatClampNeg (l3 + 2)))]) rfl rfl (Nat.le_of_ble_eq_true rfl) (Or.inl rfl) (Or.inl rfl) (e55 q1 q15) ?_
        rintro v13 h13 ⟨x13, rfl, z13⟩ n13 t13
        exact k56 q1 q15 x13 h13 z13 n13 t13
      · have q16 : ((hI h l0 (Int32.toNatClampNeg l3)) &&& 31) = 12 := q9
        refine r_tableIn (off := 504) (tgt := 536) dL_law_32 (by rw [q16]; decide) (by rw [q16]; decide) (by rw [q16]; rfl) (by decide) ?_
        refine r_aload_n dL_law_536 rfl ?_
        refine r_callV (c := 5) (mc := mc14) (ms := ms14) dL_law_537 ck_X5_pairings iv_X5_pairings sl_X5_pairings lk_RL_66 rfl rfl (c8) (by decide) (by decide) (As := []) rfl rfl (Nat.le_of_ble_eq_true rfl) (Or.inr (c57)) (Or.inr (c58)) (e59 q1 q16) ?_
        rintro v14 h14 ⟨x14, rfl, z14⟩ n14 t14
        exact k60 q1 q16 x14 h14 z14 n14 t14
      · have q17 : ((hI h l0 (Int32.toNatClampNeg l3)) &&& 31) = 13 := q9
        refine r_tableIn (off := 518) (tgt := 550) dL_law_32 (by rw [q17]; decide) (by rw [q17]; decide) (by rw [q17]; rfl) (by decide) ?_
        refine r_aload_n dL_law_550 rfl ?_
        refine r_callV (c := 5) (mc := 0) (ms := 0) dL_law_551 ck_X5_thing iv_X5_thing sl_X5_thing lk_RL_71 rfl rfl (c8) (by decide) (by decide) (As := []) rfl rfl (Nat.le_of_ble_eq_true rfl) (Or.inl rfl) (Or.inl rfl) (e61 q1 q17) ?_
        rintro v15 h15 ⟨x15, rfl, z15⟩ n15 t15
        exact k62 q1 q17 x15 h15 z15 n15 t15
      · have q18 : ((hI h l0 (Int32.toNatClampNeg l3)) &&& 31) = 14 := q9
        refine r_tableIn (off := 531) (tgt := 563) dL_law_32 (by rw [q18]; decide) (by rw [q18]; decide) (by rw [q18]; rfl) (by decide) ?_
        refine r_aload_n dL_law_563 rfl ?_
        refine r_aload_n dL_law_564 rfl ?_
        refine r_iload_n dL_law_565 rfl ?_
        refine r_iconst (v := 1) dL_law_566 (by decide) ?_
        refine r_iadd dL_law_567 ?_
        refine r_saloadJ (Int32.toNatClampNeg (l3 + 1)) dL_law_568 (c3) (c63 q1 q18) rfl ?_
        refine r_aload_n dL_law_569 rfl ?_
        refine r_iload_n dL_law_570 rfl ?_
        refine r_iconst (v := 2) dL_law_571 (by decide) ?_
        refine r_iadd dL_law_572 ?_
        refine r_saloadJ (Int32.toNatClampNeg (l3 + 2)) dL_law_573 (c3) (c64 q1 q18) rfl ?_
        refine r_callV (c := 5) (mc := 0) (ms := 0) dL_law_574 ck_X5_tell iv_X5_tell sl_X5_tell lk_RL_76 rfl rfl (c8) (by decide) (by decide) (As := [.int (hI h l0 (Int32.toNatClampNeg (l3 + 1))), .int (hI h l0 (Int32.toNatClampNeg (l3 + 2)))]) rfl rfl (Nat.le_of_ble_eq_true rfl) (Or.inl rfl) (Or.inl rfl) (e65 q1 q18) ?_
        rintro v16 h16 ⟨x16, rfl, z16⟩ n16 t16
        exact k66 q1 q18 x16 h16 z16 n16 t16
      · have q19 : ((hI h l0 (Int32.toNatClampNeg l3)) &&& 31) = 15 := q9
        refine r_tableIn (off := 564) (tgt := 596) dL_law_32 (by rw [q19]; decide) (by rw [q19]; decide) (by rw [q19]; rfl) (by decide) ?_
        refine r_aload_n dL_law_596 rfl ?_
        refine r_aload_n dL_law_597 rfl ?_
        refine r_iload_n dL_law_598 rfl ?_
        refine r_iconst (v := 1) dL_law_599 (by decide) ?_
        refine r_iadd dL_law_600 ?_
        refine r_saloadJ (Int32.toNatClampNeg (l3 + 1)) dL_law_601 (c3) (c67 q1 q19) rfl ?_
        refine r_aload_n dL_law_602 rfl ?_
        refine r_iload_n dL_law_603 rfl ?_
        refine r_iconst (v := 2) dL_law_604 (by decide) ?_
        refine r_iadd dL_law_605 ?_
        refine r_saloadJ (Int32.toNatClampNeg (l3 + 2)) dL_law_606 (c3) (c68 q1 q19) rfl ?_
        refine r_callV (c := 5) (mc := 0) (ms := 0) dL_law_607 ck_X5_below iv_X5_below sl_X5_below lk_RL_80 rfl rfl (c8) (by decide) (by decide) (As := [.int (hI h l0 (Int32.toNatClampNeg (l3 + 1))), .int (hI h l0 (Int32.toNatClampNeg (l3 + 2)))]) rfl rfl (Nat.le_of_ble_eq_true rfl) (Or.inl rfl) (Or.inl rfl) (e69 q1 q19) ?_
        rintro v17 h17 ⟨x17, rfl, z17⟩ n17 t17
        exact k70 q1 q19 x17 h17 z17 n17 t17
      · have q20 : ((hI h l0 (Int32.toNatClampNeg l3)) &&& 31) = 16 := q9
        refine r_tableIn (off := 597) (tgt := 629) dL_law_32 (by rw [q20]; decide) (by rw [q20]; decide) (by rw [q20]; rfl) (by decide) ?_
        refine r_aload_n dL_law_629 rfl ?_
        refine r_aload_n dL_law_630 rfl ?_
        refine r_iload_n dL_law_631 rfl ?_
        refine r_iconst (v := 1) dL_law_632 (by decide) ?_
        refine r_iadd dL_law_633 ?_
        refine r_saloadJ (Int32.toNatClampNeg (l3 + 1)) dL_law_634 (c3) (c71 q1 q20) rfl ?_
        refine r_aload_n dL_law_635 rfl ?_
        refine r_iload_n dL_law_636 rfl ?_
        refine r_iconst (v := 2) dL_law_637 (by decide) ?_
        refine r_iadd dL_law_638 ?_
        refine r_saloadJ (Int32.toNatClampNeg (l3 + 2)) dL_law_639 (c3) (c72 q1 q20) rfl ?_
        refine r_callV (c := 5) (mc := 0) (ms := 0) dL_law_640 ck_X5_about iv_X5_about sl_X5_about lk_RL_84 rfl rfl (c8) (by decide) (by decide) (As := [.int (hI h l0 (Int32.toNatClampNeg (l3 + 1))), .int (hI h l0 (Int32.toNatClampNeg (l3 + 2)))]) rfl rfl (Nat.le_of_ble_eq_true rfl) (Or.inl rfl) (Or.inl rfl) (e73 q1 q20) ?_
        rintro v18 h18 ⟨x18, rfl, z18⟩ n18 t18
        exact k74 q1 q20 x18 h18 z18 n18 t18
      · have q21 : ((hI h l0 (Int32.toNatClampNeg l3)) &&& 31) = 17 := q9
        refine r_tableIn (off := 630) (tgt := 662) dL_law_32 (by rw [q21]; decide) (by rw [q21]; decide) (by rw [q21]; rfl) (by decide) ?_
        refine r_aload_n dL_law_662 rfl ?_
        refine r_callV (c := 5) (mc := 0) (ms := 0) dL_law_663 ck_X5_clearGraph iv_X5_clearGraph sl_X5_clearGraph lk_RL_88 rfl rfl (c8) (by decide) (by decide) (As := []) rfl rfl (Nat.le_of_ble_eq_true rfl) (Or.inl rfl) (Or.inl rfl) (e75 q1 q21) ?_
        rintro v19 h19 ⟨x19, rfl, z19⟩ n19 t19
        exact k76 q1 q21 x19 h19 z19 n19 t19
      · have q22 : ((hI h l0 (Int32.toNatClampNeg l3)) &&& 31) = 18 := q9
        refine r_tableIn (off := 643) (tgt := 675) dL_law_32 (by rw [q22]; decide) (by rw [q22]; decide) (by rw [q22]; rfl) (by decide) ?_
        refine r_aload_n dL_law_675 rfl ?_
        refine r_callV (c := 5) (mc := 0) (ms := 0) dL_law_676 ck_X5_clearThings iv_X5_clearThings sl_X5_clearThings lk_RL_92 rfl rfl (c8) (by decide) (by decide) (As := []) rfl rfl (Nat.le_of_ble_eq_true rfl) (Or.inl rfl) (Or.inl rfl) (e77 q1 q22) ?_
        rintro v20 h20 ⟨x20, rfl, z20⟩ n20 t20
        exact k78 q1 q22 x20 h20 z20 n20 t20

set_option maxRecDepth 20000 in
set_option maxHeartbeats 2000000 in
theorem s_L_law_133 {G : GG} {nc ns : Nat} {h : PH} {Z : Option Value → PH → Prop} {l0 : Nat} {l1 : Nat} {l2 : Nat} {l3 : Int32} {s0 : Int32} {P1 : Int32 → PH → Prop}
    (c1 : hK h l0 = 1)
    (c2 : vp_in (l3 + 1) (hL h l0))
    (e3 : Ev G m_X6_node [.ref l2, .int (hI h l0 (Int32.toNatClampNeg (l3 + 1)))] h 0 0 (RI P1))
    (c4 : hK h l2 = 16)
    (k5 : ∀ (x1 : Int32) (h1 : PH), P1 x1 h1 → hN h1 = (hN h) → hS h1 = (hS h) → RR G nc ns m_L_law 142 [some (.ref l0), some (.ref l1), some (.ref l2), some (.int l3)] [.int x1, .int s0] h1 Z) :
    RR G nc ns m_L_law 133 [some (.ref l0), some (.ref l1), some (.ref l2), some (.int l3)] [.int s0] h Z := by
  refine r_aload_n dL_law_133 rfl ?_
  refine r_aload_n dL_law_134 rfl ?_
  refine r_iload_n dL_law_135 rfl ?_
  refine r_iconst (v := 1) dL_law_136 (by decide) ?_
  refine r_iadd dL_law_137 ?_
  refine r_saloadJ (Int32.toNatClampNeg (l3 + 1)) dL_law_138 (c1) (c2) rfl ?_
  refine r_callV (c := 6) (mc := 0) (ms := 0) dL_law_139 ck_X6_node iv_X6_node sl_X6_node lk_RL_17 rfl rfl (c4) (by decide) (by decide) (As := [.int (hI h l0 (Int32.toNatClampNeg (l3 + 1)))]) rfl rfl (Nat.le_of_ble_eq_true rfl) (Or.inl rfl) (Or.inl rfl) (e3) ?_
  rintro v1 h1 ⟨x1, rfl, z1⟩ n1 t1
  exact k5 x1 h1 z1 n1 t1

set_option maxRecDepth 20000 in
set_option maxHeartbeats 2000000 in
theorem s_L_law_142 {G : GG} {nc ns : Nat} {h : PH} {Z : Option Value → PH → Prop} {l0 : Nat} {l1 : Nat} {l2 : Nat} {l3 : Int32} {s0 : Int32} {s1 : Int32}
    (k1 : (s0 = s1) → RR G nc ns m_L_law 18 [some (.ref l0), some (.ref l1), some (.ref l2), some (.int (l3 + 4))] [] h Z)
    (k2 : (¬ s0 = s1) → Z (some (.int 0)) h) :
    RR G nc ns m_L_law 142 [some (.ref l0), some (.ref l1), some (.ref l2), some (.int l3)] [.int s1, .int s0] h Z := by
  refine r_icmp_eq 688 dL_law_142 (by decide) (fun q1 => ?_) (fun q1 => ?_)
  · refine r_iincL (v := l3 + 4) [some (.ref l0), some (.ref l1), some (.ref l2), some (.int (l3 + 4))] dL_law_688 rfl (by decide) rfl rfl ?_
    refine r_goto (tgt := 18) dL_law_691 (by decide) ?_
    exact k1 q1
  · refine r_iconst (v := 0) dL_law_145 (by decide) ?_
    exact r_zreturn dL_law_146 rfl (by decide) (k2 q1)

set_option maxRecDepth 20000 in
set_option maxHeartbeats 2000000 in
theorem s_L_law_174 {G : GG} {nc ns : Nat} {h : PH} {Z : Option Value → PH → Prop} {l0 : Nat} {l1 : Nat} {l2 : Nat} {l3 : Int32} {s0 : Int32} {P1 : Int32 → PH → Prop} {P2 : Int32 → PH → Prop}
    (c1 : hK h l0 = 1)
    (c2 : vp_in (l3 + 1) (hL h l0))
    (c3 : vp_in (l3 + 2) (hL h l0))
    (c4 : vp_in (l3 + 3) (hL h l0))
    (e5 : ((hI h l0 (Int32.toNatClampNeg (l3 + 3))) = 0) → Ev G m_X6_edge [.ref l2, .int (hI h l0 (Int32.toNatClampNeg (l3 + 1))), .int (hI h l0 (Int32.toNatClampNeg (l3 + 2))), .int 0] h 0 0 (RI P1))
    (c6 : hK h l2 = 16)
    (k7 : ((hI h l0 (Int32.toNatClampNeg (l3 + 3))) = 0) → ∀ (x1 : Int32) (h1 : PH), P1 x1 h1 → hN h1 = (hN h) → hS h1 = (hS h) → RR G nc ns m_L_law 201 [some (.ref l0), some (.ref l1), some (.ref l2), some (.int l3)] [.int x1, .int s0] h1 Z)
    (e8 : (¬ (hI h l0 (Int32.toNatClampNeg (l3 + 3))) = 0) → Ev G m_X6_edge [.ref l2, .int (hI h l0 (Int32.toNatClampNeg (l3 + 1))), .int (hI h l0 (Int32.toNatClampNeg (l3 + 2))), .int 1] h 0 0 (RI P2))
    (k9 : (¬ (hI h l0 (Int32.toNatClampNeg (l3 + 3))) = 0) → ∀ (x2 : Int32) (h2 : PH), P2 x2 h2 → hN h2 = (hN h) → hS h2 = (hS h) → RR G nc ns m_L_law 201 [some (.ref l0), some (.ref l1), some (.ref l2), some (.int l3)] [.int x2, .int s0] h2 Z) :
    RR G nc ns m_L_law 174 [some (.ref l0), some (.ref l1), some (.ref l2), some (.int l3)] [.int s0] h Z := by
  refine r_aload_n dL_law_174 rfl ?_
  refine r_aload_n dL_law_175 rfl ?_
  refine r_iload_n dL_law_176 rfl ?_
  refine r_iconst (v := 1) dL_law_177 (by decide) ?_
  refine r_iadd dL_law_178 ?_
  refine r_saloadJ (Int32.toNatClampNeg (l3 + 1)) dL_law_179 (c1) (c2) rfl ?_
  refine r_aload_n dL_law_180 rfl ?_
  refine r_iload_n dL_law_181 rfl ?_
  refine r_iconst (v := 2) dL_law_182 (by decide) ?_
  refine r_iadd dL_law_183 ?_
  refine r_saloadJ (Int32.toNatClampNeg (l3 + 2)) dL_law_184 (c1) (c3) rfl ?_
  refine r_aload_n dL_law_185 rfl ?_
  refine r_iload_n dL_law_186 rfl ?_
  refine r_iconst (v := 3) dL_law_187 (by decide) ?_
  refine r_iadd dL_law_188 ?_
  refine r_saloadJ (Int32.toNatClampNeg (l3 + 3)) dL_law_189 (c1) (c4) rfl ?_
  refine r_if_eq 197 dL_law_190 (by decide) (fun q1 => ?_) (fun q1 => ?_)
  · refine r_iconst (v := 0) dL_law_197 (by decide) ?_
    refine r_callV (c := 6) (mc := 0) (ms := 0) dL_law_198 ck_X6_edge iv_X6_edge sl_X6_edge lk_RL_22 rfl rfl (c6) (by decide) (by decide) (As := [.int (hI h l0 (Int32.toNatClampNeg (l3 + 1))), .int (hI h l0 (Int32.toNatClampNeg (l3 + 2))), .int 0]) rfl rfl (Nat.le_of_ble_eq_true rfl) (Or.inl rfl) (Or.inl rfl) (e5 q1) ?_
    rintro v1 h1 ⟨x1, rfl, z1⟩ n1 t1
    exact k7 q1 x1 h1 z1 n1 t1
  · refine r_iconst (v := 1) dL_law_193 (by decide) ?_
    refine r_goto (tgt := 198) dL_law_194 (by decide) ?_
    refine r_callV (c := 6) (mc := 0) (ms := 0) dL_law_198 ck_X6_edge iv_X6_edge sl_X6_edge lk_RL_22 rfl rfl (c6) (by decide) (by decide) (As := [.int (hI h l0 (Int32.toNatClampNeg (l3 + 1))), .int (hI h l0 (Int32.toNatClampNeg (l3 + 2))), .int 1]) rfl rfl (Nat.le_of_ble_eq_true rfl) (Or.inl rfl) (Or.inl rfl) (e8 q1) ?_
    rintro v2 h2 ⟨x2, rfl, z2⟩ n2 t2
    exact k9 q1 x2 h2 z2 n2 t2

set_option maxRecDepth 20000 in
set_option maxHeartbeats 2000000 in
theorem s_L_law_201 {G : GG} {nc ns : Nat} {h : PH} {Z : Option Value → PH → Prop} {l0 : Nat} {l1 : Nat} {l2 : Nat} {l3 : Int32} {s0 : Int32} {s1 : Int32}
    (k1 : (s0 = s1) → RR G nc ns m_L_law 18 [some (.ref l0), some (.ref l1), some (.ref l2), some (.int (l3 + 4))] [] h Z)
    (k2 : (¬ s0 = s1) → Z (some (.int 0)) h) :
    RR G nc ns m_L_law 201 [some (.ref l0), some (.ref l1), some (.ref l2), some (.int l3)] [.int s1, .int s0] h Z := by
  refine r_icmp_eq 688 dL_law_201 (by decide) (fun q1 => ?_) (fun q1 => ?_)
  · refine r_iincL (v := l3 + 4) [some (.ref l0), some (.ref l1), some (.ref l2), some (.int (l3 + 4))] dL_law_688 rfl (by decide) rfl rfl ?_
    refine r_goto (tgt := 18) dL_law_691 (by decide) ?_
    exact k1 q1
  · refine r_iconst (v := 0) dL_law_204 (by decide) ?_
    exact r_zreturn dL_law_205 rfl (by decide) (k2 q1)

set_option maxRecDepth 20000 in
set_option maxHeartbeats 2000000 in
theorem s_L_law_215 {G : GG} {nc ns : Nat} {h : PH} {Z : Option Value → PH → Prop} {l0 : Nat} {l1 : Nat} {l2 : Nat} {l3 : Int32} {s0 : Int32} {P1 : Int32 → PH → Prop}
    (c1 : hK h l0 = 1)
    (c2 : vp_in (l3 + 1) (hL h l0))
    (e3 : Ev G m_X6_count [.ref l2, .int (hI h l0 (Int32.toNatClampNeg (l3 + 1)))] h 0 0 (RI P1))
    (c4 : hK h l2 = 16)
    (k5 : ∀ (x1 : Int32) (h1 : PH), P1 x1 h1 → hN h1 = (hN h) → hS h1 = (hS h) → RR G nc ns m_L_law 224 [some (.ref l0), some (.ref l1), some (.ref l2), some (.int l3)] [.int x1, .int s0] h1 Z) :
    RR G nc ns m_L_law 215 [some (.ref l0), some (.ref l1), some (.ref l2), some (.int l3)] [.int s0] h Z := by
  refine r_aload_n dL_law_215 rfl ?_
  refine r_aload_n dL_law_216 rfl ?_
  refine r_iload_n dL_law_217 rfl ?_
  refine r_iconst (v := 1) dL_law_218 (by decide) ?_
  refine r_iadd dL_law_219 ?_
  refine r_saloadJ (Int32.toNatClampNeg (l3 + 1)) dL_law_220 (c1) (c2) rfl ?_
  refine r_callV (c := 6) (mc := 0) (ms := 0) dL_law_221 ck_X6_count iv_X6_count sl_X6_count lk_RL_26 rfl rfl (c4) (by decide) (by decide) (As := [.int (hI h l0 (Int32.toNatClampNeg (l3 + 1)))]) rfl rfl (Nat.le_of_ble_eq_true rfl) (Or.inl rfl) (Or.inl rfl) (e3) ?_
  rintro v1 h1 ⟨x1, rfl, z1⟩ n1 t1
  exact k5 x1 h1 z1 n1 t1

set_option maxRecDepth 20000 in
set_option maxHeartbeats 2000000 in
theorem s_L_law_224 {G : GG} {nc ns : Nat} {h : PH} {Z : Option Value → PH → Prop} {l0 : Nat} {l1 : Nat} {l2 : Nat} {l3 : Int32} {s0 : Int32} {s1 : Int32}
    (k1 : (s0 = s1) → RR G nc ns m_L_law 18 [some (.ref l0), some (.ref l1), some (.ref l2), some (.int (l3 + 4))] [] h Z)
    (k2 : (¬ s0 = s1) → Z (some (.int 0)) h) :
    RR G nc ns m_L_law 224 [some (.ref l0), some (.ref l1), some (.ref l2), some (.int l3)] [.int s1, .int s0] h Z := by
  refine r_icmp_eq 688 dL_law_224 (by decide) (fun q1 => ?_) (fun q1 => ?_)
  · refine r_iincL (v := l3 + 4) [some (.ref l0), some (.ref l1), some (.ref l2), some (.int (l3 + 4))] dL_law_688 rfl (by decide) rfl rfl ?_
    refine r_goto (tgt := 18) dL_law_691 (by decide) ?_
    exact k1 q1
  · refine r_iconst (v := 0) dL_law_227 (by decide) ?_
    exact r_zreturn dL_law_228 rfl (by decide) (k2 q1)

set_option maxRecDepth 20000 in
set_option maxHeartbeats 2000000 in
theorem s_L_law_243 {G : GG} {nc ns : Nat} {h : PH} {Z : Option Value → PH → Prop} {l0 : Nat} {l1 : Nat} {l2 : Nat} {l3 : Int32} {s0 : Int32} {P1 : Int32 → PH → Prop}
    (c1 : hK h l0 = 1)
    (c2 : vp_in (l3 + 1) (hL h l0))
    (c3 : vp_in (l3 + 2) (hL h l0))
    (e4 : Ev G m_X6_has [.ref l2, .int (hI h l0 (Int32.toNatClampNeg (l3 + 1))), .int (hI h l0 (Int32.toNatClampNeg (l3 + 2)))] h 0 0 (RI P1))
    (c5 : hK h l2 = 16)
    (k6 : ∀ (x1 : Int32) (h1 : PH), P1 x1 h1 → hN h1 = (hN h) → hS h1 = (hS h) → RR G nc ns m_L_law 257 [some (.ref l0), some (.ref l1), some (.ref l2), some (.int l3)] [.int x1, .int s0] h1 Z) :
    RR G nc ns m_L_law 243 [some (.ref l0), some (.ref l1), some (.ref l2), some (.int l3)] [.int s0] h Z := by
  refine r_aload_n dL_law_243 rfl ?_
  refine r_aload_n dL_law_244 rfl ?_
  refine r_iload_n dL_law_245 rfl ?_
  refine r_iconst (v := 1) dL_law_246 (by decide) ?_
  refine r_iadd dL_law_247 ?_
  refine r_saloadJ (Int32.toNatClampNeg (l3 + 1)) dL_law_248 (c1) (c2) rfl ?_
  refine r_aload_n dL_law_249 rfl ?_
  refine r_iload_n dL_law_250 rfl ?_
  refine r_iconst (v := 2) dL_law_251 (by decide) ?_
  refine r_iadd dL_law_252 ?_
  refine r_saloadJ (Int32.toNatClampNeg (l3 + 2)) dL_law_253 (c1) (c3) rfl ?_
  refine r_callV (c := 6) (mc := 0) (ms := 0) dL_law_254 ck_X6_has iv_X6_has sl_X6_has lk_RL_31 rfl rfl (c5) (by decide) (by decide) (As := [.int (hI h l0 (Int32.toNatClampNeg (l3 + 1))), .int (hI h l0 (Int32.toNatClampNeg (l3 + 2)))]) rfl rfl (Nat.le_of_ble_eq_true rfl) (Or.inl rfl) (Or.inl rfl) (e4) ?_
  rintro v1 h1 ⟨x1, rfl, z1⟩ n1 t1
  exact k6 x1 h1 z1 n1 t1

set_option maxRecDepth 20000 in
set_option maxHeartbeats 2000000 in
theorem s_L_law_257 {G : GG} {nc ns : Nat} {h : PH} {Z : Option Value → PH → Prop} {l0 : Nat} {l1 : Nat} {l2 : Nat} {l3 : Int32} {s0 : Int32} {s1 : Int32}
    (k1 : (s0 = s1) → RR G nc ns m_L_law 18 [some (.ref l0), some (.ref l1), some (.ref l2), some (.int (l3 + 4))] [] h Z)
    (k2 : (¬ s0 = s1) → Z (some (.int 0)) h) :
    RR G nc ns m_L_law 257 [some (.ref l0), some (.ref l1), some (.ref l2), some (.int l3)] [.int s1, .int s0] h Z := by
  refine r_icmp_eq 688 dL_law_257 (by decide) (fun q1 => ?_) (fun q1 => ?_)
  · refine r_iincL (v := l3 + 4) [some (.ref l0), some (.ref l1), some (.ref l2), some (.int (l3 + 4))] dL_law_688 rfl (by decide) rfl rfl ?_
    refine r_goto (tgt := 18) dL_law_691 (by decide) ?_
    exact k1 q1
  · refine r_iconst (v := 0) dL_law_260 (by decide) ?_
    exact r_zreturn dL_law_261 rfl (by decide) (k2 q1)

set_option maxRecDepth 20000 in
set_option maxHeartbeats 2000000 in
theorem s_L_law_276 {G : GG} {nc ns : Nat} {h : PH} {Z : Option Value → PH → Prop} {l0 : Nat} {l1 : Nat} {l2 : Nat} {l3 : Int32} {s0 : Int32} {P1 : Int32 → PH → Prop}
    (c1 : hK h l0 = 1)
    (c2 : vp_in (l3 + 1) (hL h l0))
    (c3 : vp_in (l3 + 2) (hL h l0))
    (e4 : Ev G m_X6_partner [.ref l2, .int (hI h l0 (Int32.toNatClampNeg (l3 + 1))), .int (hI h l0 (Int32.toNatClampNeg (l3 + 2)))] h 0 0 (RI P1))
    (c5 : hK h l2 = 16)
    (k6 : ∀ (x1 : Int32) (h1 : PH), P1 x1 h1 → hN h1 = (hN h) → hS h1 = (hS h) → RR G nc ns m_L_law 290 [some (.ref l0), some (.ref l1), some (.ref l2), some (.int l3)] [.int x1, .int s0] h1 Z) :
    RR G nc ns m_L_law 276 [some (.ref l0), some (.ref l1), some (.ref l2), some (.int l3)] [.int s0] h Z := by
  refine r_aload_n dL_law_276 rfl ?_
  refine r_aload_n dL_law_277 rfl ?_
  refine r_iload_n dL_law_278 rfl ?_
  refine r_iconst (v := 1) dL_law_279 (by decide) ?_
  refine r_iadd dL_law_280 ?_
  refine r_saloadJ (Int32.toNatClampNeg (l3 + 1)) dL_law_281 (c1) (c2) rfl ?_
  refine r_aload_n dL_law_282 rfl ?_
  refine r_iload_n dL_law_283 rfl ?_
  refine r_iconst (v := 2) dL_law_284 (by decide) ?_
  refine r_iadd dL_law_285 ?_
  refine r_saloadJ (Int32.toNatClampNeg (l3 + 2)) dL_law_286 (c1) (c3) rfl ?_
  refine r_callV (c := 6) (mc := 0) (ms := 0) dL_law_287 ck_X6_partner iv_X6_partner sl_X6_partner lk_RL_36 rfl rfl (c5) (by decide) (by decide) (As := [.int (hI h l0 (Int32.toNatClampNeg (l3 + 1))), .int (hI h l0 (Int32.toNatClampNeg (l3 + 2)))]) rfl rfl (Nat.le_of_ble_eq_true rfl) (Or.inl rfl) (Or.inl rfl) (e4) ?_
  rintro v1 h1 ⟨x1, rfl, z1⟩ n1 t1
  exact k6 x1 h1 z1 n1 t1

set_option maxRecDepth 20000 in
set_option maxHeartbeats 2000000 in
theorem s_L_law_290 {G : GG} {nc ns : Nat} {h : PH} {Z : Option Value → PH → Prop} {l0 : Nat} {l1 : Nat} {l2 : Nat} {l3 : Int32} {s0 : Int32} {s1 : Int32}
    (k1 : (s0 = s1) → RR G nc ns m_L_law 18 [some (.ref l0), some (.ref l1), some (.ref l2), some (.int (l3 + 4))] [] h Z)
    (k2 : (¬ s0 = s1) → Z (some (.int 0)) h) :
    RR G nc ns m_L_law 290 [some (.ref l0), some (.ref l1), some (.ref l2), some (.int l3)] [.int s1, .int s0] h Z := by
  refine r_icmp_eq 688 dL_law_290 (by decide) (fun q1 => ?_) (fun q1 => ?_)
  · refine r_iincL (v := l3 + 4) [some (.ref l0), some (.ref l1), some (.ref l2), some (.int (l3 + 4))] dL_law_688 rfl (by decide) rfl rfl ?_
    refine r_goto (tgt := 18) dL_law_691 (by decide) ?_
    exact k1 q1
  · refine r_iconst (v := 0) dL_law_293 (by decide) ?_
    exact r_zreturn dL_law_294 rfl (by decide) (k2 q1)

set_option maxRecDepth 20000 in
set_option maxHeartbeats 2000000 in
theorem s_L_law_309 {G : GG} {nc ns : Nat} {h : PH} {Z : Option Value → PH → Prop} {l0 : Nat} {l1 : Nat} {l2 : Nat} {l3 : Int32} {s0 : Int32} {P1 : Int32 → PH → Prop}
    (c1 : hK h l0 = 1)
    (c2 : vp_in (l3 + 1) (hL h l0))
    (c3 : vp_in (l3 + 2) (hL h l0))
    (e4 : Ev G m_X6_edgeIs [.ref l2, .int (hI h l0 (Int32.toNatClampNeg (l3 + 1))), .int (hI h l0 (Int32.toNatClampNeg (l3 + 2)))] h 0 0 (RI P1))
    (c5 : hK h l2 = 16)
    (k6 : ∀ (x1 : Int32) (h1 : PH), P1 x1 h1 → hN h1 = (hN h) → hS h1 = (hS h) → RR G nc ns m_L_law 323 [some (.ref l0), some (.ref l1), some (.ref l2), some (.int l3)] [.int x1, .int s0] h1 Z) :
    RR G nc ns m_L_law 309 [some (.ref l0), some (.ref l1), some (.ref l2), some (.int l3)] [.int s0] h Z := by
  refine r_aload_n dL_law_309 rfl ?_
  refine r_aload_n dL_law_310 rfl ?_
  refine r_iload_n dL_law_311 rfl ?_
  refine r_iconst (v := 1) dL_law_312 (by decide) ?_
  refine r_iadd dL_law_313 ?_
  refine r_saloadJ (Int32.toNatClampNeg (l3 + 1)) dL_law_314 (c1) (c2) rfl ?_
  refine r_aload_n dL_law_315 rfl ?_
  refine r_iload_n dL_law_316 rfl ?_
  refine r_iconst (v := 2) dL_law_317 (by decide) ?_
  refine r_iadd dL_law_318 ?_
  refine r_saloadJ (Int32.toNatClampNeg (l3 + 2)) dL_law_319 (c1) (c3) rfl ?_
  refine r_callV (c := 6) (mc := 0) (ms := 0) dL_law_320 ck_X6_edgeIs iv_X6_edgeIs sl_X6_edgeIs lk_RL_40 rfl rfl (c5) (by decide) (by decide) (As := [.int (hI h l0 (Int32.toNatClampNeg (l3 + 1))), .int (hI h l0 (Int32.toNatClampNeg (l3 + 2)))]) rfl rfl (Nat.le_of_ble_eq_true rfl) (Or.inl rfl) (Or.inl rfl) (e4) ?_
  rintro v1 h1 ⟨x1, rfl, z1⟩ n1 t1
  exact k6 x1 h1 z1 n1 t1

set_option maxRecDepth 20000 in
set_option maxHeartbeats 2000000 in
theorem s_L_law_323 {G : GG} {nc ns : Nat} {h : PH} {Z : Option Value → PH → Prop} {l0 : Nat} {l1 : Nat} {l2 : Nat} {l3 : Int32} {s0 : Int32} {s1 : Int32}
    (k1 : (s0 = s1) → RR G nc ns m_L_law 18 [some (.ref l0), some (.ref l1), some (.ref l2), some (.int (l3 + 4))] [] h Z)
    (k2 : (¬ s0 = s1) → Z (some (.int 0)) h) :
    RR G nc ns m_L_law 323 [some (.ref l0), some (.ref l1), some (.ref l2), some (.int l3)] [.int s1, .int s0] h Z := by
  refine r_icmp_eq 688 dL_law_323 (by decide) (fun q1 => ?_) (fun q1 => ?_)
  · refine r_iincL (v := l3 + 4) [some (.ref l0), some (.ref l1), some (.ref l2), some (.int (l3 + 4))] dL_law_688 rfl (by decide) rfl rfl ?_
    refine r_goto (tgt := 18) dL_law_691 (by decide) ?_
    exact k1 q1
  · refine r_iconst (v := 0) dL_law_326 (by decide) ?_
    exact r_zreturn dL_law_327 rfl (by decide) (k2 q1)

set_option maxRecDepth 20000 in
set_option maxHeartbeats 2000000 in
theorem s_L_law_342 {G : GG} {nc ns : Nat} {h : PH} {Z : Option Value → PH → Prop} {l0 : Nat} {l1 : Nat} {l2 : Nat} {l3 : Int32} {s0 : Int32} {P1 : Int32 → PH → Prop}
    (c1 : hK h l0 = 1)
    (c2 : vp_in (l3 + 1) (hL h l0))
    (c3 : vp_in (l3 + 2) (hL h l0))
    (e4 : Ev G m_X6_nodeIs [.ref l2, .int (hI h l0 (Int32.toNatClampNeg (l3 + 1))), .int (hI h l0 (Int32.toNatClampNeg (l3 + 2)))] h 0 0 (RI P1))
    (c5 : hK h l2 = 16)
    (k6 : ∀ (x1 : Int32) (h1 : PH), P1 x1 h1 → hN h1 = (hN h) → hS h1 = (hS h) → RR G nc ns m_L_law 356 [some (.ref l0), some (.ref l1), some (.ref l2), some (.int l3)] [.int x1, .int s0] h1 Z) :
    RR G nc ns m_L_law 342 [some (.ref l0), some (.ref l1), some (.ref l2), some (.int l3)] [.int s0] h Z := by
  refine r_aload_n dL_law_342 rfl ?_
  refine r_aload_n dL_law_343 rfl ?_
  refine r_iload_n dL_law_344 rfl ?_
  refine r_iconst (v := 1) dL_law_345 (by decide) ?_
  refine r_iadd dL_law_346 ?_
  refine r_saloadJ (Int32.toNatClampNeg (l3 + 1)) dL_law_347 (c1) (c2) rfl ?_
  refine r_aload_n dL_law_348 rfl ?_
  refine r_iload_n dL_law_349 rfl ?_
  refine r_iconst (v := 2) dL_law_350 (by decide) ?_
  refine r_iadd dL_law_351 ?_
  refine r_saloadJ (Int32.toNatClampNeg (l3 + 2)) dL_law_352 (c1) (c3) rfl ?_
  refine r_callV (c := 6) (mc := 0) (ms := 0) dL_law_353 ck_X6_nodeIs iv_X6_nodeIs sl_X6_nodeIs lk_RL_44 rfl rfl (c5) (by decide) (by decide) (As := [.int (hI h l0 (Int32.toNatClampNeg (l3 + 1))), .int (hI h l0 (Int32.toNatClampNeg (l3 + 2)))]) rfl rfl (Nat.le_of_ble_eq_true rfl) (Or.inl rfl) (Or.inl rfl) (e4) ?_
  rintro v1 h1 ⟨x1, rfl, z1⟩ n1 t1
  exact k6 x1 h1 z1 n1 t1

set_option maxRecDepth 20000 in
set_option maxHeartbeats 2000000 in
theorem s_L_law_356 {G : GG} {nc ns : Nat} {h : PH} {Z : Option Value → PH → Prop} {l0 : Nat} {l1 : Nat} {l2 : Nat} {l3 : Int32} {s0 : Int32} {s1 : Int32}
    (k1 : (s0 = s1) → RR G nc ns m_L_law 18 [some (.ref l0), some (.ref l1), some (.ref l2), some (.int (l3 + 4))] [] h Z)
    (k2 : (¬ s0 = s1) → Z (some (.int 0)) h) :
    RR G nc ns m_L_law 356 [some (.ref l0), some (.ref l1), some (.ref l2), some (.int l3)] [.int s1, .int s0] h Z := by
  refine r_icmp_eq 688 dL_law_356 (by decide) (fun q1 => ?_) (fun q1 => ?_)
  · refine r_iincL (v := l3 + 4) [some (.ref l0), some (.ref l1), some (.ref l2), some (.int (l3 + 4))] dL_law_688 rfl (by decide) rfl rfl ?_
    refine r_goto (tgt := 18) dL_law_691 (by decide) ?_
    exact k1 q1
  · refine r_iconst (v := 0) dL_law_359 (by decide) ?_
    exact r_zreturn dL_law_360 rfl (by decide) (k2 q1)

set_option maxRecDepth 20000 in
set_option maxHeartbeats 2000000 in
theorem s_L_law_380 {G : GG} {nc ns : Nat} {h : PH} {Z : Option Value → PH → Prop} {l0 : Nat} {l1 : Nat} {l2 : Nat} {l3 : Int32} {s0 : Int32} {P1 : Int32 → PH → Prop}
    (c1 : hK h l0 = 1)
    (c2 : vp_in (l3 + 1) (hL h l0))
    (c3 : vp_in (l3 + 2) (hL h l0))
    (c4 : vp_in (l3 + 3) (hL h l0))
    (e5 : Ev G m_X6_cover [.ref l2, .int (hI h l0 (Int32.toNatClampNeg (l3 + 1))), .int (hI h l0 (Int32.toNatClampNeg (l3 + 2))), .int (hI h l0 (Int32.toNatClampNeg (l3 + 3)))] h 0 0 (RI P1))
    (c6 : hK h l2 = 16)
    (k7 : ∀ (x1 : Int32) (h1 : PH), P1 x1 h1 → hN h1 = (hN h) → hS h1 = (hS h) → RR G nc ns m_L_law 399 [some (.ref l0), some (.ref l1), some (.ref l2), some (.int l3)] [.int x1, .int s0] h1 Z) :
    RR G nc ns m_L_law 380 [some (.ref l0), some (.ref l1), some (.ref l2), some (.int l3)] [.int s0] h Z := by
  refine r_aload_n dL_law_380 rfl ?_
  refine r_aload_n dL_law_381 rfl ?_
  refine r_iload_n dL_law_382 rfl ?_
  refine r_iconst (v := 1) dL_law_383 (by decide) ?_
  refine r_iadd dL_law_384 ?_
  refine r_saloadJ (Int32.toNatClampNeg (l3 + 1)) dL_law_385 (c1) (c2) rfl ?_
  refine r_aload_n dL_law_386 rfl ?_
  refine r_iload_n dL_law_387 rfl ?_
  refine r_iconst (v := 2) dL_law_388 (by decide) ?_
  refine r_iadd dL_law_389 ?_
  refine r_saloadJ (Int32.toNatClampNeg (l3 + 2)) dL_law_390 (c1) (c3) rfl ?_
  refine r_aload_n dL_law_391 rfl ?_
  refine r_iload_n dL_law_392 rfl ?_
  refine r_iconst (v := 3) dL_law_393 (by decide) ?_
  refine r_iadd dL_law_394 ?_
  refine r_saloadJ (Int32.toNatClampNeg (l3 + 3)) dL_law_395 (c1) (c4) rfl ?_
  refine r_callV (c := 6) (mc := 0) (ms := 0) dL_law_396 ck_X6_cover iv_X6_cover sl_X6_cover lk_RL_49 rfl rfl (c6) (by decide) (by decide) (As := [.int (hI h l0 (Int32.toNatClampNeg (l3 + 1))), .int (hI h l0 (Int32.toNatClampNeg (l3 + 2))), .int (hI h l0 (Int32.toNatClampNeg (l3 + 3)))]) rfl rfl (Nat.le_of_ble_eq_true rfl) (Or.inl rfl) (Or.inl rfl) (e5) ?_
  rintro v1 h1 ⟨x1, rfl, z1⟩ n1 t1
  exact k7 x1 h1 z1 n1 t1

set_option maxRecDepth 20000 in
set_option maxHeartbeats 2000000 in
theorem s_L_law_399 {G : GG} {nc ns : Nat} {h : PH} {Z : Option Value → PH → Prop} {l0 : Nat} {l1 : Nat} {l2 : Nat} {l3 : Int32} {s0 : Int32} {s1 : Int32}
    (k1 : (s0 = s1) → RR G nc ns m_L_law 18 [some (.ref l0), some (.ref l1), some (.ref l2), some (.int (l3 + 4))] [] h Z)
    (k2 : (¬ s0 = s1) → Z (some (.int 0)) h) :
    RR G nc ns m_L_law 399 [some (.ref l0), some (.ref l1), some (.ref l2), some (.int l3)] [.int s1, .int s0] h Z := by
  refine r_icmp_eq 688 dL_law_399 (by decide) (fun q1 => ?_) (fun q1 => ?_)
  · refine r_iincL (v := l3 + 4) [some (.ref l0), some (.ref l1), some (.ref l2), some (.int (l3 + 4))] dL_law_688 rfl (by decide) rfl rfl ?_
    refine r_goto (tgt := 18) dL_law_691 (by decide) ?_
    exact k1 q1
  · refine r_iconst (v := 0) dL_law_402 (by decide) ?_
    exact r_zreturn dL_law_403 rfl (by decide) (k2 q1)

set_option maxRecDepth 20000 in
set_option maxHeartbeats 2000000 in
theorem s_L_law_418 {G : GG} {nc ns : Nat} {h : PH} {Z : Option Value → PH → Prop} {l0 : Nat} {l1 : Nat} {l2 : Nat} {l3 : Int32} {s0 : Int32} {P1 : Int32 → PH → Prop}
    (c1 : hK h l0 = 1)
    (c2 : vp_in (l3 + 1) (hL h l0))
    (c3 : vp_in (l3 + 2) (hL h l0))
    (e4 : Ev G m_X6_hall [.ref l2, .int (hI h l0 (Int32.toNatClampNeg (l3 + 1))), .int (hI h l0 (Int32.toNatClampNeg (l3 + 2)))] h 0 0 (RI P1))
    (c5 : hK h l2 = 16)
    (k6 : ∀ (x1 : Int32) (h1 : PH), P1 x1 h1 → hN h1 = (hN h) → hS h1 = (hS h) → RR G nc ns m_L_law 432 [some (.ref l0), some (.ref l1), some (.ref l2), some (.int l3)] [.int x1, .int s0] h1 Z) :
    RR G nc ns m_L_law 418 [some (.ref l0), some (.ref l1), some (.ref l2), some (.int l3)] [.int s0] h Z := by
  refine r_aload_n dL_law_418 rfl ?_
  refine r_aload_n dL_law_419 rfl ?_
  refine r_iload_n dL_law_420 rfl ?_
  refine r_iconst (v := 1) dL_law_421 (by decide) ?_
  refine r_iadd dL_law_422 ?_
  refine r_saloadJ (Int32.toNatClampNeg (l3 + 1)) dL_law_423 (c1) (c2) rfl ?_
  refine r_aload_n dL_law_424 rfl ?_
  refine r_iload_n dL_law_425 rfl ?_
  refine r_iconst (v := 2) dL_law_426 (by decide) ?_
  refine r_iadd dL_law_427 ?_
  refine r_saloadJ (Int32.toNatClampNeg (l3 + 2)) dL_law_428 (c1) (c3) rfl ?_
  refine r_callV (c := 6) (mc := 0) (ms := 0) dL_law_429 ck_X6_hall iv_X6_hall sl_X6_hall lk_RL_53 rfl rfl (c5) (by decide) (by decide) (As := [.int (hI h l0 (Int32.toNatClampNeg (l3 + 1))), .int (hI h l0 (Int32.toNatClampNeg (l3 + 2)))]) rfl rfl (Nat.le_of_ble_eq_true rfl) (Or.inl rfl) (Or.inl rfl) (e4) ?_
  rintro v1 h1 ⟨x1, rfl, z1⟩ n1 t1
  exact k6 x1 h1 z1 n1 t1

set_option maxRecDepth 20000 in
set_option maxHeartbeats 2000000 in
theorem s_L_law_432 {G : GG} {nc ns : Nat} {h : PH} {Z : Option Value → PH → Prop} {l0 : Nat} {l1 : Nat} {l2 : Nat} {l3 : Int32} {s0 : Int32} {s1 : Int32}
    (k1 : (s0 = s1) → RR G nc ns m_L_law 18 [some (.ref l0), some (.ref l1), some (.ref l2), some (.int (l3 + 4))] [] h Z)
    (k2 : (¬ s0 = s1) → Z (some (.int 0)) h) :
    RR G nc ns m_L_law 432 [some (.ref l0), some (.ref l1), some (.ref l2), some (.int l3)] [.int s1, .int s0] h Z := by
  refine r_icmp_eq 688 dL_law_432 (by decide) (fun q1 => ?_) (fun q1 => ?_)
  · refine r_iincL (v := l3 + 4) [some (.ref l0), some (.ref l1), some (.ref l2), some (.int (l3 + 4))] dL_law_688 rfl (by decide) rfl rfl ?_
    refine r_goto (tgt := 18) dL_law_691 (by decide) ?_
    exact k1 q1
  · refine r_iconst (v := 0) dL_law_435 (by decide) ?_
    exact r_zreturn dL_law_436 rfl (by decide) (k2 q1)

set_option maxRecDepth 20000 in
set_option maxHeartbeats 2000000 in
theorem s_L_law_451 {G : GG} {nc ns : Nat} {h : PH} {Z : Option Value → PH → Prop} {l0 : Nat} {l1 : Nat} {l2 : Nat} {l3 : Int32} {s0 : Int32} {P1 : Int32 → PH → Prop}
    (c1 : hK h l0 = 1)
    (c2 : vp_in (l3 + 1) (hL h l0))
    (c3 : vp_in (l3 + 2) (hL h l0))
    (e4 : Ev G m_X6_part [.ref l2, .int (hI h l0 (Int32.toNatClampNeg (l3 + 1))), .int (hI h l0 (Int32.toNatClampNeg (l3 + 2)))] h 0 0 (RI P1))
    (c5 : hK h l2 = 16)
    (k6 : ∀ (x1 : Int32) (h1 : PH), P1 x1 h1 → hN h1 = (hN h) → hS h1 = (hS h) → RR G nc ns m_L_law 465 [some (.ref l0), some (.ref l1), some (.ref l2), some (.int l3)] [.int x1, .int s0] h1 Z) :
    RR G nc ns m_L_law 451 [some (.ref l0), some (.ref l1), some (.ref l2), some (.int l3)] [.int s0] h Z := by
  refine r_aload_n dL_law_451 rfl ?_
  refine r_aload_n dL_law_452 rfl ?_
  refine r_iload_n dL_law_453 rfl ?_
  refine r_iconst (v := 1) dL_law_454 (by decide) ?_
  refine r_iadd dL_law_455 ?_
  refine r_saloadJ (Int32.toNatClampNeg (l3 + 1)) dL_law_456 (c1) (c2) rfl ?_
  refine r_aload_n dL_law_457 rfl ?_
  refine r_iload_n dL_law_458 rfl ?_
  refine r_iconst (v := 2) dL_law_459 (by decide) ?_
  refine r_iadd dL_law_460 ?_
  refine r_saloadJ (Int32.toNatClampNeg (l3 + 2)) dL_law_461 (c1) (c3) rfl ?_
  refine r_callV (c := 6) (mc := 0) (ms := 0) dL_law_462 ck_X6_part iv_X6_part sl_X6_part lk_RL_57 rfl rfl (c5) (by decide) (by decide) (As := [.int (hI h l0 (Int32.toNatClampNeg (l3 + 1))), .int (hI h l0 (Int32.toNatClampNeg (l3 + 2)))]) rfl rfl (Nat.le_of_ble_eq_true rfl) (Or.inl rfl) (Or.inl rfl) (e4) ?_
  rintro v1 h1 ⟨x1, rfl, z1⟩ n1 t1
  exact k6 x1 h1 z1 n1 t1

set_option maxRecDepth 20000 in
set_option maxHeartbeats 2000000 in
theorem s_L_law_465 {G : GG} {nc ns : Nat} {h : PH} {Z : Option Value → PH → Prop} {l0 : Nat} {l1 : Nat} {l2 : Nat} {l3 : Int32} {s0 : Int32} {s1 : Int32}
    (k1 : (s0 = s1) → RR G nc ns m_L_law 18 [some (.ref l0), some (.ref l1), some (.ref l2), some (.int (l3 + 4))] [] h Z)
    (k2 : (¬ s0 = s1) → Z (some (.int 0)) h) :
    RR G nc ns m_L_law 465 [some (.ref l0), some (.ref l1), some (.ref l2), some (.int l3)] [.int s1, .int s0] h Z := by
  refine r_icmp_eq 688 dL_law_465 (by decide) (fun q1 => ?_) (fun q1 => ?_)
  · refine r_iincL (v := l3 + 4) [some (.ref l0), some (.ref l1), some (.ref l2), some (.int (l3 + 4))] dL_law_688 rfl (by decide) rfl rfl ?_
    refine r_goto (tgt := 18) dL_law_691 (by decide) ?_
    exact k1 q1
  · refine r_iconst (v := 0) dL_law_468 (by decide) ?_
    exact r_zreturn dL_law_469 rfl (by decide) (k2 q1)

set_option maxRecDepth 20000 in
set_option maxHeartbeats 2000000 in
theorem s_L_law_484 {G : GG} {nc ns : Nat} {h : PH} {Z : Option Value → PH → Prop} {l0 : Nat} {l1 : Nat} {l2 : Nat} {l3 : Int32} {s0 : Int32} {P1 : Int32 → PH → Prop}
    (c1 : hK h l0 = 1)
    (c2 : vp_in (l3 + 1) (hL h l0))
    (c3 : vp_in (l3 + 2) (hL h l0))
    (e4 : Ev G m_X6_block [.ref l2, .int (hI h l0 (Int32.toNatClampNeg (l3 + 1))), .int (hI h l0 (Int32.toNatClampNeg (l3 + 2)))] h 0 0 (RI P1))
    (c5 : hK h l2 = 16)
    (k6 : ∀ (x1 : Int32) (h1 : PH), P1 x1 h1 → hN h1 = (hN h) → hS h1 = (hS h) → RR G nc ns m_L_law 498 [some (.ref l0), some (.ref l1), some (.ref l2), some (.int l3)] [.int x1, .int s0] h1 Z) :
    RR G nc ns m_L_law 484 [some (.ref l0), some (.ref l1), some (.ref l2), some (.int l3)] [.int s0] h Z := by
  refine r_aload_n dL_law_484 rfl ?_
  refine r_aload_n dL_law_485 rfl ?_
  refine r_iload_n dL_law_486 rfl ?_
  refine r_iconst (v := 1) dL_law_487 (by decide) ?_
  refine r_iadd dL_law_488 ?_
  refine r_saloadJ (Int32.toNatClampNeg (l3 + 1)) dL_law_489 (c1) (c2) rfl ?_
  refine r_aload_n dL_law_490 rfl ?_
  refine r_iload_n dL_law_491 rfl ?_
  refine r_iconst (v := 2) dL_law_492 (by decide) ?_
  refine r_iadd dL_law_493 ?_
  refine r_saloadJ (Int32.toNatClampNeg (l3 + 2)) dL_law_494 (c1) (c3) rfl ?_
  refine r_callV (c := 6) (mc := 0) (ms := 0) dL_law_495 ck_X6_block iv_X6_block sl_X6_block lk_RL_61 rfl rfl (c5) (by decide) (by decide) (As := [.int (hI h l0 (Int32.toNatClampNeg (l3 + 1))), .int (hI h l0 (Int32.toNatClampNeg (l3 + 2)))]) rfl rfl (Nat.le_of_ble_eq_true rfl) (Or.inl rfl) (Or.inl rfl) (e4) ?_
  rintro v1 h1 ⟨x1, rfl, z1⟩ n1 t1
  exact k6 x1 h1 z1 n1 t1

set_option maxRecDepth 20000 in
set_option maxHeartbeats 2000000 in
theorem s_L_law_498 {G : GG} {nc ns : Nat} {h : PH} {Z : Option Value → PH → Prop} {l0 : Nat} {l1 : Nat} {l2 : Nat} {l3 : Int32} {s0 : Int32} {s1 : Int32}
    (k1 : (s0 = s1) → RR G nc ns m_L_law 18 [some (.ref l0), some (.ref l1), some (.ref l2), some (.int (l3 + 4))] [] h Z)
    (k2 : (¬ s0 = s1) → Z (some (.int 0)) h) :
    RR G nc ns m_L_law 498 [some (.ref l0), some (.ref l1), some (.ref l2), some (.int l3)] [.int s1, .int s0] h Z := by
  refine r_icmp_eq 688 dL_law_498 (by decide) (fun q1 => ?_) (fun q1 => ?_)
  · refine r_iincL (v := l3 + 4) [some (.ref l0), some (.ref l1), some (.ref l2), some (.int (l3 + 4))] dL_law_688 rfl (by decide) rfl rfl ?_
    refine r_goto (tgt := 18) dL_law_691 (by decide) ?_
    exact k1 q1
  · refine r_iconst (v := 0) dL_law_501 (by decide) ?_
    exact r_zreturn dL_law_502 rfl (by decide) (k2 q1)

set_option maxRecDepth 20000 in
set_option maxHeartbeats 2000000 in
theorem s_L_law_517 {G : GG} {nc ns : Nat} {h : PH} {Z : Option Value → PH → Prop} {l0 : Nat} {l1 : Nat} {l2 : Nat} {l3 : Int32} {s0 : Int32} {P1 : Int32 → PH → Prop}
    (c1 : hK h l0 = 1)
    (c2 : vp_in (l3 + 1) (hL h l0))
    (c3 : vp_in (l3 + 2) (hL h l0))
    (e4 : Ev G m_X6_leads [.ref l2, .int (hI h l0 (Int32.toNatClampNeg (l3 + 1))), .int (hI h l0 (Int32.toNatClampNeg (l3 + 2)))] h 0 0 (RI P1))
    (c5 : hK h l2 = 16)
    (k6 : ∀ (x1 : Int32) (h1 : PH), P1 x1 h1 → hN h1 = (hN h) → hS h1 = (hS h) → RR G nc ns m_L_law 531 [some (.ref l0), some (.ref l1), some (.ref l2), some (.int l3)] [.int x1, .int s0] h1 Z) :
    RR G nc ns m_L_law 517 [some (.ref l0), some (.ref l1), some (.ref l2), some (.int l3)] [.int s0] h Z := by
  refine r_aload_n dL_law_517 rfl ?_
  refine r_aload_n dL_law_518 rfl ?_
  refine r_iload_n dL_law_519 rfl ?_
  refine r_iconst (v := 1) dL_law_520 (by decide) ?_
  refine r_iadd dL_law_521 ?_
  refine r_saloadJ (Int32.toNatClampNeg (l3 + 1)) dL_law_522 (c1) (c2) rfl ?_
  refine r_aload_n dL_law_523 rfl ?_
  refine r_iload_n dL_law_524 rfl ?_
  refine r_iconst (v := 2) dL_law_525 (by decide) ?_
  refine r_iadd dL_law_526 ?_
  refine r_saloadJ (Int32.toNatClampNeg (l3 + 2)) dL_law_527 (c1) (c3) rfl ?_
  refine r_callV (c := 6) (mc := 0) (ms := 0) dL_law_528 ck_X6_leads iv_X6_leads sl_X6_leads lk_RL_65 rfl rfl (c5) (by decide) (by decide) (As := [.int (hI h l0 (Int32.toNatClampNeg (l3 + 1))), .int (hI h l0 (Int32.toNatClampNeg (l3 + 2)))]) rfl rfl (Nat.le_of_ble_eq_true rfl) (Or.inl rfl) (Or.inl rfl) (e4) ?_
  rintro v1 h1 ⟨x1, rfl, z1⟩ n1 t1
  exact k6 x1 h1 z1 n1 t1

set_option maxRecDepth 20000 in
set_option maxHeartbeats 2000000 in
theorem s_L_law_531 {G : GG} {nc ns : Nat} {h : PH} {Z : Option Value → PH → Prop} {l0 : Nat} {l1 : Nat} {l2 : Nat} {l3 : Int32} {s0 : Int32} {s1 : Int32}
    (k1 : (s0 = s1) → RR G nc ns m_L_law 18 [some (.ref l0), some (.ref l1), some (.ref l2), some (.int (l3 + 4))] [] h Z)
    (k2 : (¬ s0 = s1) → Z (some (.int 0)) h) :
    RR G nc ns m_L_law 531 [some (.ref l0), some (.ref l1), some (.ref l2), some (.int l3)] [.int s1, .int s0] h Z := by
  refine r_icmp_eq 688 dL_law_531 (by decide) (fun q1 => ?_) (fun q1 => ?_)
  · refine r_iincL (v := l3 + 4) [some (.ref l0), some (.ref l1), some (.ref l2), some (.int (l3 + 4))] dL_law_688 rfl (by decide) rfl rfl ?_
    refine r_goto (tgt := 18) dL_law_691 (by decide) ?_
    exact k1 q1
  · refine r_iconst (v := 0) dL_law_534 (by decide) ?_
    exact r_zreturn dL_law_535 rfl (by decide) (k2 q1)

set_option maxRecDepth 20000 in
set_option maxHeartbeats 2000000 in
theorem s_L_law_540 {G : GG} {nc ns : Nat} {h : PH} {Z : Option Value → PH → Prop} {l0 : Nat} {l1 : Nat} {l2 : Nat} {l3 : Int32} {s0 : Int64} {P1 : Int64 → PH → Prop}
    (e1 : Ev G m_X6_pairings [.ref l2] h 0 0 (RJ P1))
    (c2 : hK h l2 = 16)
    (k3 : ∀ (x1 : Int64) (h1 : PH), P1 x1 h1 → hN h1 = (hN h) → hS h1 = (hS h) → RR G nc ns m_L_law 544 [some (.ref l0), some (.ref l1), some (.ref l2), some (.int l3)] [.long x1, .long s0] h1 Z) :
    RR G nc ns m_L_law 540 [some (.ref l0), some (.ref l1), some (.ref l2), some (.int l3)] [.long s0] h Z := by
  refine r_aload_n dL_law_540 rfl ?_
  refine r_callV (c := 6) (mc := 0) (ms := 0) dL_law_541 ck_X6_pairings iv_X6_pairings sl_X6_pairings lk_RL_70 rfl rfl (c2) (by decide) (by decide) (As := []) rfl rfl (Nat.le_of_ble_eq_true rfl) (Or.inl rfl) (Or.inl rfl) (e1) ?_
  rintro v1 h1 ⟨x1, rfl, z1⟩ n1 t1
  exact k3 x1 h1 z1 n1 t1

set_option maxRecDepth 20000 in
set_option maxHeartbeats 2000000 in
theorem s_L_law_544 {G : GG} {nc ns : Nat} {h : PH} {Z : Option Value → PH → Prop} {l0 : Nat} {l1 : Nat} {l2 : Nat} {l3 : Int32} {s0 : Int64} {s1 : Int64}
    (k1 : ((lg_cmp s0 s1) = 0) → RR G nc ns m_L_law 18 [some (.ref l0), some (.ref l1), some (.ref l2), some (.int (l3 + 4))] [] h Z)
    (k2 : (¬ (lg_cmp s0 s1) = 0) → Z (some (.int 0)) h) :
    RR G nc ns m_L_law 544 [some (.ref l0), some (.ref l1), some (.ref l2), some (.int l3)] [.long s1, .long s0] h Z := by
  refine r_lcmp dL_law_544 ?_
  refine r_if_eq 688 dL_law_545 (by decide) (fun q1 => ?_) (fun q1 => ?_)
  · refine r_iincL (v := l3 + 4) [some (.ref l0), some (.ref l1), some (.ref l2), some (.int (l3 + 4))] dL_law_688 rfl (by decide) rfl rfl ?_
    refine r_goto (tgt := 18) dL_law_691 (by decide) ?_
    exact k1 q1
  · refine r_iconst (v := 0) dL_law_548 (by decide) ?_
    exact r_zreturn dL_law_549 rfl (by decide) (k2 q1)

set_option maxRecDepth 20000 in
set_option maxHeartbeats 2000000 in
theorem s_L_law_554 {G : GG} {nc ns : Nat} {h : PH} {Z : Option Value → PH → Prop} {l0 : Nat} {l1 : Nat} {l2 : Nat} {l3 : Int32} {s0 : Int32} {P1 : Int32 → PH → Prop}
    (e1 : Ev G m_X6_thing [.ref l2] h 0 0 (RI P1))
    (c2 : hK h l2 = 16)
    (k3 : ∀ (x1 : Int32) (h1 : PH), P1 x1 h1 → hN h1 = (hN h) → hS h1 = (hS h) → RR G nc ns m_L_law 558 [some (.ref l0), some (.ref l1), some (.ref l2), some (.int l3)] [.int x1, .int s0] h1 Z) :
    RR G nc ns m_L_law 554 [some (.ref l0), some (.ref l1), some (.ref l2), some (.int l3)] [.int s0] h Z := by
  refine r_aload_n dL_law_554 rfl ?_
  refine r_callV (c := 6) (mc := 0) (ms := 0) dL_law_555 ck_X6_thing iv_X6_thing sl_X6_thing lk_RL_75 rfl rfl (c2) (by decide) (by decide) (As := []) rfl rfl (Nat.le_of_ble_eq_true rfl) (Or.inl rfl) (Or.inl rfl) (e1) ?_
  rintro v1 h1 ⟨x1, rfl, z1⟩ n1 t1
  exact k3 x1 h1 z1 n1 t1

set_option maxRecDepth 20000 in
set_option maxHeartbeats 2000000 in
theorem s_L_law_558 {G : GG} {nc ns : Nat} {h : PH} {Z : Option Value → PH → Prop} {l0 : Nat} {l1 : Nat} {l2 : Nat} {l3 : Int32} {s0 : Int32} {s1 : Int32}
    (k1 : (s0 = s1) → RR G nc ns m_L_law 18 [some (.ref l0), some (.ref l1), some (.ref l2), some (.int (l3 + 4))] [] h Z)
    (k2 : (¬ s0 = s1) → Z (some (.int 0)) h) :
    RR G nc ns m_L_law 558 [some (.ref l0), some (.ref l1), some (.ref l2), some (.int l3)] [.int s1, .int s0] h Z := by
  refine r_icmp_eq 688 dL_law_558 (by decide) (fun q1 => ?_) (fun q1 => ?_)
  · refine r_iincL (v := l3 + 4) [some (.ref l0), some (.ref l1), some (.ref l2), some (.int (l3 + 4))] dL_law_688 rfl (by decide) rfl rfl ?_
    refine r_goto (tgt := 18) dL_law_691 (by decide) ?_
    exact k1 q1
  · refine r_iconst (v := 0) dL_law_561 (by decide) ?_
    exact r_zreturn dL_law_562 rfl (by decide) (k2 q1)

set_option maxRecDepth 20000 in
set_option maxHeartbeats 2000000 in
theorem s_L_law_577 {G : GG} {nc ns : Nat} {h : PH} {Z : Option Value → PH → Prop} {l0 : Nat} {l1 : Nat} {l2 : Nat} {l3 : Int32} {s0 : Int32} {P1 : Int32 → PH → Prop}
    (c1 : hK h l0 = 1)
    (c2 : vp_in (l3 + 1) (hL h l0))
    (c3 : vp_in (l3 + 2) (hL h l0))
    (e4 : Ev G m_X6_tell [.ref l2, .int (hI h l0 (Int32.toNatClampNeg (l3 + 1))), .int (hI h l0 (Int32.toNatClampNeg (l3 + 2)))] h 0 0 (RI P1))
    (c5 : hK h l2 = 16)
    (k6 : ∀ (x1 : Int32) (h1 : PH), P1 x1 h1 → hN h1 = (hN h) → hS h1 = (hS h) → RR G nc ns m_L_law 591 [some (.ref l0), some (.ref l1), some (.ref l2), some (.int l3)] [.int x1, .int s0] h1 Z) :
    RR G nc ns m_L_law 577 [some (.ref l0), some (.ref l1), some (.ref l2), some (.int l3)] [.int s0] h Z := by
  refine r_aload_n dL_law_577 rfl ?_
  refine r_aload_n dL_law_578 rfl ?_
  refine r_iload_n dL_law_579 rfl ?_
  refine r_iconst (v := 1) dL_law_580 (by decide) ?_
  refine r_iadd dL_law_581 ?_
  refine r_saloadJ (Int32.toNatClampNeg (l3 + 1)) dL_law_582 (c1) (c2) rfl ?_
  refine r_aload_n dL_law_583 rfl ?_
  refine r_iload_n dL_law_584 rfl ?_
  refine r_iconst (v := 2) dL_law_585 (by decide) ?_
  refine r_iadd dL_law_586 ?_
  refine r_saloadJ (Int32.toNatClampNeg (l3 + 2)) dL_law_587 (c1) (c3) rfl ?_
  refine r_callV (c := 6) (mc := 0) (ms := 0) dL_law_588 ck_X6_tell iv_X6_tell sl_X6_tell lk_RL_79 rfl rfl (c5) (by decide) (by decide) (As := [.int (hI h l0 (Int32.toNatClampNeg (l3 + 1))), .int (hI h l0 (Int32.toNatClampNeg (l3 + 2)))]) rfl rfl (Nat.le_of_ble_eq_true rfl) (Or.inl rfl) (Or.inl rfl) (e4) ?_
  rintro v1 h1 ⟨x1, rfl, z1⟩ n1 t1
  exact k6 x1 h1 z1 n1 t1

set_option maxRecDepth 20000 in
set_option maxHeartbeats 2000000 in
theorem s_L_law_591 {G : GG} {nc ns : Nat} {h : PH} {Z : Option Value → PH → Prop} {l0 : Nat} {l1 : Nat} {l2 : Nat} {l3 : Int32} {s0 : Int32} {s1 : Int32}
    (k1 : (s0 = s1) → RR G nc ns m_L_law 18 [some (.ref l0), some (.ref l1), some (.ref l2), some (.int (l3 + 4))] [] h Z)
    (k2 : (¬ s0 = s1) → Z (some (.int 0)) h) :
    RR G nc ns m_L_law 591 [some (.ref l0), some (.ref l1), some (.ref l2), some (.int l3)] [.int s1, .int s0] h Z := by
  refine r_icmp_eq 688 dL_law_591 (by decide) (fun q1 => ?_) (fun q1 => ?_)
  · refine r_iincL (v := l3 + 4) [some (.ref l0), some (.ref l1), some (.ref l2), some (.int (l3 + 4))] dL_law_688 rfl (by decide) rfl rfl ?_
    refine r_goto (tgt := 18) dL_law_691 (by decide) ?_
    exact k1 q1
  · refine r_iconst (v := 0) dL_law_594 (by decide) ?_
    exact r_zreturn dL_law_595 rfl (by decide) (k2 q1)

set_option maxRecDepth 20000 in
set_option maxHeartbeats 2000000 in
theorem s_L_law_610 {G : GG} {nc ns : Nat} {h : PH} {Z : Option Value → PH → Prop} {l0 : Nat} {l1 : Nat} {l2 : Nat} {l3 : Int32} {s0 : Int32} {P1 : Int32 → PH → Prop}
    (c1 : hK h l0 = 1)
    (c2 : vp_in (l3 + 1) (hL h l0))
    (c3 : vp_in (l3 + 2) (hL h l0))
    (e4 : Ev G m_X6_below [.ref l2, .int (hI h l0 (Int32.toNatClampNeg (l3 + 1))), .int (hI h l0 (Int32.toNatClampNeg (l3 + 2)))] h 0 0 (RI P1))
    (c5 : hK h l2 = 16)
    (k6 : ∀ (x1 : Int32) (h1 : PH), P1 x1 h1 → hN h1 = (hN h) → hS h1 = (hS h) → RR G nc ns m_L_law 624 [some (.ref l0), some (.ref l1), some (.ref l2), some (.int l3)] [.int x1, .int s0] h1 Z) :
    RR G nc ns m_L_law 610 [some (.ref l0), some (.ref l1), some (.ref l2), some (.int l3)] [.int s0] h Z := by
  refine r_aload_n dL_law_610 rfl ?_
  refine r_aload_n dL_law_611 rfl ?_
  refine r_iload_n dL_law_612 rfl ?_
  refine r_iconst (v := 1) dL_law_613 (by decide) ?_
  refine r_iadd dL_law_614 ?_
  refine r_saloadJ (Int32.toNatClampNeg (l3 + 1)) dL_law_615 (c1) (c2) rfl ?_
  refine r_aload_n dL_law_616 rfl ?_
  refine r_iload_n dL_law_617 rfl ?_
  refine r_iconst (v := 2) dL_law_618 (by decide) ?_
  refine r_iadd dL_law_619 ?_
  refine r_saloadJ (Int32.toNatClampNeg (l3 + 2)) dL_law_620 (c1) (c3) rfl ?_
  refine r_callV (c := 6) (mc := 0) (ms := 0) dL_law_621 ck_X6_below iv_X6_below sl_X6_below lk_RL_83 rfl rfl (c5) (by decide) (by decide) (As := [.int (hI h l0 (Int32.toNatClampNeg (l3 + 1))), .int (hI h l0 (Int32.toNatClampNeg (l3 + 2)))]) rfl rfl (Nat.le_of_ble_eq_true rfl) (Or.inl rfl) (Or.inl rfl) (e4) ?_
  rintro v1 h1 ⟨x1, rfl, z1⟩ n1 t1
  exact k6 x1 h1 z1 n1 t1

set_option maxRecDepth 20000 in
set_option maxHeartbeats 2000000 in
theorem s_L_law_624 {G : GG} {nc ns : Nat} {h : PH} {Z : Option Value → PH → Prop} {l0 : Nat} {l1 : Nat} {l2 : Nat} {l3 : Int32} {s0 : Int32} {s1 : Int32}
    (k1 : (s0 = s1) → RR G nc ns m_L_law 18 [some (.ref l0), some (.ref l1), some (.ref l2), some (.int (l3 + 4))] [] h Z)
    (k2 : (¬ s0 = s1) → Z (some (.int 0)) h) :
    RR G nc ns m_L_law 624 [some (.ref l0), some (.ref l1), some (.ref l2), some (.int l3)] [.int s1, .int s0] h Z := by
  refine r_icmp_eq 688 dL_law_624 (by decide) (fun q1 => ?_) (fun q1 => ?_)
  · refine r_iincL (v := l3 + 4) [some (.ref l0), some (.ref l1), some (.ref l2), some (.int (l3 + 4))] dL_law_688 rfl (by decide) rfl rfl ?_
    refine r_goto (tgt := 18) dL_law_691 (by decide) ?_
    exact k1 q1
  · refine r_iconst (v := 0) dL_law_627 (by decide) ?_
    exact r_zreturn dL_law_628 rfl (by decide) (k2 q1)

set_option maxRecDepth 20000 in
set_option maxHeartbeats 2000000 in
theorem s_L_law_643 {G : GG} {nc ns : Nat} {h : PH} {Z : Option Value → PH → Prop} {l0 : Nat} {l1 : Nat} {l2 : Nat} {l3 : Int32} {s0 : Int32} {P1 : Int32 → PH → Prop}
    (c1 : hK h l0 = 1)
    (c2 : vp_in (l3 + 1) (hL h l0))
    (c3 : vp_in (l3 + 2) (hL h l0))
    (e4 : Ev G m_X6_about [.ref l2, .int (hI h l0 (Int32.toNatClampNeg (l3 + 1))), .int (hI h l0 (Int32.toNatClampNeg (l3 + 2)))] h 0 0 (RI P1))
    (c5 : hK h l2 = 16)
    (k6 : ∀ (x1 : Int32) (h1 : PH), P1 x1 h1 → hN h1 = (hN h) → hS h1 = (hS h) → RR G nc ns m_L_law 657 [some (.ref l0), some (.ref l1), some (.ref l2), some (.int l3)] [.int x1, .int s0] h1 Z) :
    RR G nc ns m_L_law 643 [some (.ref l0), some (.ref l1), some (.ref l2), some (.int l3)] [.int s0] h Z := by
  refine r_aload_n dL_law_643 rfl ?_
  refine r_aload_n dL_law_644 rfl ?_
  refine r_iload_n dL_law_645 rfl ?_
  refine r_iconst (v := 1) dL_law_646 (by decide) ?_
  refine r_iadd dL_law_647 ?_
  refine r_saloadJ (Int32.toNatClampNeg (l3 + 1)) dL_law_648 (c1) (c2) rfl ?_
  refine r_aload_n dL_law_649 rfl ?_
  refine r_iload_n dL_law_650 rfl ?_
  refine r_iconst (v := 2) dL_law_651 (by decide) ?_
  refine r_iadd dL_law_652 ?_
  refine r_saloadJ (Int32.toNatClampNeg (l3 + 2)) dL_law_653 (c1) (c3) rfl ?_
  refine r_callV (c := 6) (mc := 0) (ms := 0) dL_law_654 ck_X6_about iv_X6_about sl_X6_about lk_RL_87 rfl rfl (c5) (by decide) (by decide) (As := [.int (hI h l0 (Int32.toNatClampNeg (l3 + 1))), .int (hI h l0 (Int32.toNatClampNeg (l3 + 2)))]) rfl rfl (Nat.le_of_ble_eq_true rfl) (Or.inl rfl) (Or.inl rfl) (e4) ?_
  rintro v1 h1 ⟨x1, rfl, z1⟩ n1 t1
  exact k6 x1 h1 z1 n1 t1

set_option maxRecDepth 20000 in
set_option maxHeartbeats 2000000 in
theorem s_L_law_657 {G : GG} {nc ns : Nat} {h : PH} {Z : Option Value → PH → Prop} {l0 : Nat} {l1 : Nat} {l2 : Nat} {l3 : Int32} {s0 : Int32} {s1 : Int32}
    (k1 : (s0 = s1) → RR G nc ns m_L_law 18 [some (.ref l0), some (.ref l1), some (.ref l2), some (.int (l3 + 4))] [] h Z)
    (k2 : (¬ s0 = s1) → Z (some (.int 0)) h) :
    RR G nc ns m_L_law 657 [some (.ref l0), some (.ref l1), some (.ref l2), some (.int l3)] [.int s1, .int s0] h Z := by
  refine r_icmp_eq 688 dL_law_657 (by decide) (fun q1 => ?_) (fun q1 => ?_)
  · refine r_iincL (v := l3 + 4) [some (.ref l0), some (.ref l1), some (.ref l2), some (.int (l3 + 4))] dL_law_688 rfl (by decide) rfl rfl ?_
    refine r_goto (tgt := 18) dL_law_691 (by decide) ?_
    exact k1 q1
  · refine r_iconst (v := 0) dL_law_660 (by decide) ?_
    exact r_zreturn dL_law_661 rfl (by decide) (k2 q1)

set_option maxRecDepth 20000 in
set_option maxHeartbeats 2000000 in
theorem s_L_law_666 {G : GG} {nc ns : Nat} {h : PH} {Z : Option Value → PH → Prop} {l0 : Nat} {l1 : Nat} {l2 : Nat} {l3 : Int32} {s0 : Int32} {P1 : Int32 → PH → Prop}
    (e1 : Ev G m_X6_clearGraph [.ref l2] h 0 0 (RI P1))
    (c2 : hK h l2 = 16)
    (k3 : ∀ (x1 : Int32) (h1 : PH), P1 x1 h1 → hN h1 = (hN h) → hS h1 = (hS h) → RR G nc ns m_L_law 670 [some (.ref l0), some (.ref l1), some (.ref l2), some (.int l3)] [.int x1, .int s0] h1 Z) :
    RR G nc ns m_L_law 666 [some (.ref l0), some (.ref l1), some (.ref l2), some (.int l3)] [.int s0] h Z := by
  refine r_aload_n dL_law_666 rfl ?_
  refine r_callV (c := 6) (mc := 0) (ms := 0) dL_law_667 ck_X6_clearGraph iv_X6_clearGraph sl_X6_clearGraph lk_RL_91 rfl rfl (c2) (by decide) (by decide) (As := []) rfl rfl (Nat.le_of_ble_eq_true rfl) (Or.inl rfl) (Or.inl rfl) (e1) ?_
  rintro v1 h1 ⟨x1, rfl, z1⟩ n1 t1
  exact k3 x1 h1 z1 n1 t1

set_option maxRecDepth 20000 in
set_option maxHeartbeats 2000000 in
theorem s_L_law_670 {G : GG} {nc ns : Nat} {h : PH} {Z : Option Value → PH → Prop} {l0 : Nat} {l1 : Nat} {l2 : Nat} {l3 : Int32} {s0 : Int32} {s1 : Int32}
    (k1 : (s0 = s1) → RR G nc ns m_L_law 18 [some (.ref l0), some (.ref l1), some (.ref l2), some (.int (l3 + 4))] [] h Z)
    (k2 : (¬ s0 = s1) → Z (some (.int 0)) h) :
    RR G nc ns m_L_law 670 [some (.ref l0), some (.ref l1), some (.ref l2), some (.int l3)] [.int s1, .int s0] h Z := by
  refine r_icmp_eq 688 dL_law_670 (by decide) (fun q1 => ?_) (fun q1 => ?_)
  · refine r_iincL (v := l3 + 4) [some (.ref l0), some (.ref l1), some (.ref l2), some (.int (l3 + 4))] dL_law_688 rfl (by decide) rfl rfl ?_
    refine r_goto (tgt := 18) dL_law_691 (by decide) ?_
    exact k1 q1
  · refine r_iconst (v := 0) dL_law_673 (by decide) ?_
    exact r_zreturn dL_law_674 rfl (by decide) (k2 q1)

set_option maxRecDepth 20000 in
set_option maxHeartbeats 2000000 in
theorem s_L_law_679 {G : GG} {nc ns : Nat} {h : PH} {Z : Option Value → PH → Prop} {l0 : Nat} {l1 : Nat} {l2 : Nat} {l3 : Int32} {s0 : Int32} {P1 : Int32 → PH → Prop}
    (e1 : Ev G m_X6_clearThings [.ref l2] h 0 0 (RI P1))
    (c2 : hK h l2 = 16)
    (k3 : ∀ (x1 : Int32) (h1 : PH), P1 x1 h1 → hN h1 = (hN h) → hS h1 = (hS h) → RR G nc ns m_L_law 683 [some (.ref l0), some (.ref l1), some (.ref l2), some (.int l3)] [.int x1, .int s0] h1 Z) :
    RR G nc ns m_L_law 679 [some (.ref l0), some (.ref l1), some (.ref l2), some (.int l3)] [.int s0] h Z := by
  refine r_aload_n dL_law_679 rfl ?_
  refine r_callV (c := 6) (mc := 0) (ms := 0) dL_law_680 ck_X6_clearThings iv_X6_clearThings sl_X6_clearThings lk_RL_95 rfl rfl (c2) (by decide) (by decide) (As := []) rfl rfl (Nat.le_of_ble_eq_true rfl) (Or.inl rfl) (Or.inl rfl) (e1) ?_
  rintro v1 h1 ⟨x1, rfl, z1⟩ n1 t1
  exact k3 x1 h1 z1 n1 t1

set_option maxRecDepth 20000 in
set_option maxHeartbeats 2000000 in
theorem s_L_law_683 {G : GG} {nc ns : Nat} {h : PH} {Z : Option Value → PH → Prop} {l0 : Nat} {l1 : Nat} {l2 : Nat} {l3 : Int32} {s0 : Int32} {s1 : Int32}
    (k1 : (s0 = s1) → RR G nc ns m_L_law 18 [some (.ref l0), some (.ref l1), some (.ref l2), some (.int (l3 + 4))] [] h Z)
    (k2 : (¬ s0 = s1) → Z (some (.int 0)) h) :
    RR G nc ns m_L_law 683 [some (.ref l0), some (.ref l1), some (.ref l2), some (.int l3)] [.int s1, .int s0] h Z := by
  refine r_icmp_eq 688 dL_law_683 (by decide) (fun q1 => ?_) (fun q1 => ?_)
  · refine r_iincL (v := l3 + 4) [some (.ref l0), some (.ref l1), some (.ref l2), some (.int (l3 + 4))] dL_law_688 rfl (by decide) rfl rfl ?_
    refine r_goto (tgt := 18) dL_law_691 (by decide) ?_
    exact k1 q1
  · refine r_iconst (v := 0) dL_law_686 (by decide) ?_
    exact r_zreturn dL_law_687 rfl (by decide) (k2 q1)
